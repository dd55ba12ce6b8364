-- J6_bitCount_0f7a4
def f_J6_bitCount_0f7a4 (a0 : Int) (S : jSt) : Option (Int × jSt) :=
  flet (w32 (a0 - (iand32 (iushr32 a0 1) 1431655765))) (fun v1 => flet (w32 ((iand32 v1 858993459) + (iand32 (iushr32 v1 2) 858993459))) (fun v2 => flet (iand32 (w32 (v2 + (iushr32 v2 4))) 252645135) (fun v3 => flet (w32 (v3 + (iushr32 v3 8))) (fun v4 => flet (w32 (v4 + (iushr32 v4 16))) (fun v5 => some (iand32 v5 63, S))))))
theorem e_J6_bitCount_0f7a4 {G : jG} {d : Nat} {S0 : jSt} (hd0 : 1 ≤ d) (a0 : Int) (S : jSt) (h0 : R32 (a0)) : J G yJ6_bitCount_0f7a4 cJ6_bitCount_0f7a4 1 (some .int) d S0 0 [(0, 0, a0)] [] S (f_J6_bitCount_0f7a4 a0 S) := by
  unfold f_J6_bitCount_0f7a4
  refine j_iload_n 0 dJ6_bitCount_0f7a4_0 rfl rfl ?_
  refine j_iload_n 0 dJ6_bitCount_0f7a4_1 rfl rfl ?_
  refine j_iconst dJ6_bitCount_0f7a4_2 ?_
  refine j_iushr dJ6_bitCount_0f7a4_3 ?_
  refine j_ldc_w cn_J6_265 dJ6_bitCount_0f7a4_4 ?_
  refine j_iand dJ6_bitCount_0f7a4_7 ?_
  refine j_isub dJ6_bitCount_0f7a4_8 ?_
  refine j_leti (w32_R _) (fun v1 hv1 => ?_)
  refine j_istore_n (lv' := [(0, 0, v1)]) dJ6_bitCount_0f7a4_9 rfl (Nat.le_of_ble_eq_true rfl) rfl ?_
  refine j_iload_n 0 dJ6_bitCount_0f7a4_10 rfl rfl ?_
  refine j_ldc_w cn_J6_266 dJ6_bitCount_0f7a4_11 ?_
  refine j_iand dJ6_bitCount_0f7a4_14 ?_
  refine j_iload_n 0 dJ6_bitCount_0f7a4_15 rfl rfl ?_
  refine j_iconst dJ6_bitCount_0f7a4_16 ?_
  refine j_iushr dJ6_bitCount_0f7a4_17 ?_
  refine j_ldc_w cn_J6_266 dJ6_bitCount_0f7a4_18 ?_
  refine j_iand dJ6_bitCount_0f7a4_21 ?_
  refine j_iadd dJ6_bitCount_0f7a4_22 ?_
  refine j_leti (w32_R _) (fun v2 hv2 => ?_)
  refine j_istore_n (lv' := [(0, 0, v2)]) dJ6_bitCount_0f7a4_23 rfl (Nat.le_of_ble_eq_true rfl) rfl ?_
  refine j_iload_n 0 dJ6_bitCount_0f7a4_24 rfl rfl ?_
  refine j_iload_n 0 dJ6_bitCount_0f7a4_25 rfl rfl ?_
  refine j_iconst dJ6_bitCount_0f7a4_26 ?_
  refine j_iushr dJ6_bitCount_0f7a4_27 ?_
  refine j_iadd dJ6_bitCount_0f7a4_28 ?_
  refine j_ldc_w cn_J6_267 dJ6_bitCount_0f7a4_29 ?_
  refine j_iand dJ6_bitCount_0f7a4_32 ?_
  refine j_leti (iand32_R _ _) (fun v3 hv3 => ?_)
  refine j_istore_n (lv' := [(0, 0, v3)]) dJ6_bitCount_0f7a4_33 rfl (Nat.le_of_ble_eq_true rfl) rfl ?_
  refine j_iload_n 0 dJ6_bitCount_0f7a4_34 rfl rfl ?_
  refine j_iload_n 0 dJ6_bitCount_0f7a4_35 rfl rfl ?_
  refine j_bipush dJ6_bitCount_0f7a4_36 (by decide) ?_
  refine j_iushr dJ6_bitCount_0f7a4_38 ?_
  refine j_iadd dJ6_bitCount_0f7a4_39 ?_
  refine j_leti (w32_R _) (fun v4 hv4 => ?_)
  refine j_istore_n (lv' := [(0, 0, v4)]) dJ6_bitCount_0f7a4_40 rfl (Nat.le_of_ble_eq_true rfl) rfl ?_
  refine j_iload_n 0 dJ6_bitCount_0f7a4_41 rfl rfl ?_
  refine j_iload_n 0 dJ6_bitCount_0f7a4_42 rfl rfl ?_
  refine j_bipush dJ6_bitCount_0f7a4_43 (by decide) ?_
  refine j_iushr dJ6_bitCount_0f7a4_45 ?_
  refine j_iadd dJ6_bitCount_0f7a4_46 ?_
  refine j_leti (w32_R _) (fun v5 hv5 => ?_)
  refine j_istore_n (lv' := [(0, 0, v5)]) dJ6_bitCount_0f7a4_47 rfl (Nat.le_of_ble_eq_true rfl) rfl ?_
  refine j_iload_n 0 dJ6_bitCount_0f7a4_48 rfl rfl ?_
  refine j_bipush dJ6_bitCount_0f7a4_49 (by decide) ?_
  refine j_iand dJ6_bitCount_0f7a4_51 ?_
  exact j_ireturn (iand32_R _ _) dJ6_bitCount_0f7a4_52
theorem c_J6_bitCount_0f7a4 {G : jG} (a0 : Int) (S : jSt) (h0 : R32 (a0)) : CT G yJ6_bitCount_0f7a4 cJ6_bitCount_0f7a4 1 (some .int) 1 ([(0, a0)].map jval) S (f_J6_bitCount_0f7a4 a0 S) := ct_of [(0, a0)] (by decide) rfl (Nat.le_of_ble_eq_true rfl) (e_J6_bitCount_0f7a4 (Nat.le_refl _) a0 S h0)
-- J7_copyOf_59c91
def f_J7_copyOf_59c91 (a0 : Int) (a1 : Int) (S : jSt) : Option (Int × jSt) :=
  flen S a0 1 (fun v1 => if a1 = v1 then fclone S a0 (fun v6 S7 => some (v6, S7)) else fnewa S 1 a1 (fun v2 S3 => flen S3 a0 1 (fun v4 => fcopy S3 a0 0 v2 0 (imin v4 a1) (fun S5 => some (v2, S5)))))
theorem e_J7_copyOf_59c91 {G : jG} {d : Nat} {S0 : jSt} (hd0 : 1 ≤ d) (a0 : Int) (a1 : Int) (S : jSt) (h0 : 0 ≤ (a0)) (h1 : R32 (a1)) : J G yJ7_copyOf_59c91 cJ7_copyOf_59c91 3 (some (.array .int)) d S0 0 [(0, 2, a0), (1, 0, a1)] [] S (f_J7_copyOf_59c91 a0 a1 S) := by
  unfold f_J7_copyOf_59c91
  refine j_iload_n 1 dJ7_copyOf_59c91_0 rfl rfl ?_
  refine j_aload_n 0 dJ7_copyOf_59c91_1 rfl rfl ?_
  refine j_alen dJ7_copyOf_59c91_2 (fun (v1 : Int) (hv1 : R32 v1) => ?_)
  refine j_icmp_ne (tgt := 14) h1 hv1 dJ7_copyOf_59c91_3 rfl (fun _ => ?_) (fun _ => ?_)
  · refine j_iload_n 1 dJ7_copyOf_59c91_14 rfl rfl ?_
    refine j_newai h1 ac_i dJ7_copyOf_59c91_15 (fun (v2 : Int) (S3 : jSt) hv2 => ?_)
    refine j_astore_n (lv' := [(2, 2, v2), (0, 2, a0), (1, 0, a1)]) dJ7_copyOf_59c91_17 rfl (Nat.le_of_ble_eq_true rfl) rfl ?_
    refine j_aload_n 1 dJ7_copyOf_59c91_18 rfl rfl ?_
    refine j_iconst dJ7_copyOf_59c91_19 ?_
    refine j_aload_n 0 dJ7_copyOf_59c91_20 rfl rfl ?_
    refine j_iconst dJ7_copyOf_59c91_21 ?_
    refine j_aload_n 1 dJ7_copyOf_59c91_22 rfl rfl ?_
    refine j_alen dJ7_copyOf_59c91_23 (fun (v4 : Int) (hv4 : R32 v4) => ?_)
    refine j_iload_n 2 dJ7_copyOf_59c91_24 rfl rfl ?_
    refine j_mmin hv4 h1 lx_J7_304 mx_s_mmin mx_i mx_c_mmin (Nat.le_of_ble_eq_true rfl) (Nat.le_trans (Nat.le_of_ble_eq_true rfl) hd0) dJ7_copyOf_59c91_25 ?_
    refine j_copy (jZ_R jz0) (jZ_R jz0) (imin_R hv4 h1) la_J7_150 ay_n ay_s ay_i (Nat.le_of_ble_eq_true rfl) (Nat.le_trans (Nat.le_of_ble_eq_true rfl) hd0) dJ7_copyOf_59c91_28 (fun S5 => ?_)
    refine j_aload_n 0 dJ7_copyOf_59c91_31 rfl rfl ?_
    refine j_weak (z := v2) (st' := [(3, v2)]) (fun h => by simp only [List.map_cons, jpush, jtag, jval3r h]) hv2 ?_
    exact j_areturnA dJ7_copyOf_59c91_32
  · refine j_aload_n 0 dJ7_copyOf_59c91_6 rfl rfl ?_
    refine j_clone lc_J7_316 cw_s cw_n cw_i cw_e cl_J7_317 (Nat.le_of_ble_eq_true rfl) (Nat.le_trans (Nat.le_of_ble_eq_true rfl) hd0) dJ7_copyOf_59c91_7 dJ7_copyOf_59c91_10 (fun (v6 : Int) (S7 : jSt) hv6 => ?_)
    refine j_weak (z := v6) (st' := [(3, v6)]) (fun h => by simp only [List.map_cons, jpush, jtag, jval3r h]) hv6 ?_
    exact j_areturnA dJ7_copyOf_59c91_13
theorem c_J7_copyOf_59c91 {G : jG} (a0 : Int) (a1 : Int) (S : jSt) (h0 : 0 ≤ (a0)) (h1 : R32 (a1)) : CT G yJ7_copyOf_59c91 cJ7_copyOf_59c91 3 (some (.array .int)) 1 ([(2, a0), (0, a1)].map jval) S (f_J7_copyOf_59c91 a0 a1 S) := ct_of [(2, a0), (0, a1)] (by decide) rfl (Nat.le_of_ble_eq_true rfl) (e_J7_copyOf_59c91 (Nat.le_refl _) a0 a1 S h0 h1)
-- J7_fill_53178
def f_J7_fill_53178_b5B (r5 : Int → Int → Int → Int → jSt → Option (Int × jSt)) (x0 : Int) (x1 : Int) (x2 : Int) (x3 : Int) (S : jSt) : Option (Int × jSt) :=
  if x3 ≤ x2 then some (0, S) else fast S x0 x2 1 x1 (fun S2 => flet (w32 (x2 + 1)) (fun v3 => r5 x0 x1 v3 x3 S2))
theorem p_f_J7_fill_53178_b5B {G : jG} {d : Nat} {S0 : jSt} (hd0 : 1 ≤ d) {r5 : Int → Int → Int → Int → jSt → Option (Int × jSt)} (k5 : ∀ (x0 : Int) (x1 : Int) (x2 : Int) (x3 : Int) (S : jSt), (0 ≤ (x0)) → (R32 (x1)) → (R32 (x2)) → (R32 (x3)) → J G yJ7_fill_53178 cJ7_fill_53178 4 none d S0 5 [(0, 2, x0), (1, 0, x1), (2, 0, x2), (3, 0, x3)] [] S (r5 x0 x1 x2 x3 S)) : ∀ (x0 : Int) (x1 : Int) (x2 : Int) (x3 : Int) (S : jSt), (0 ≤ (x0)) → (R32 (x1)) → (R32 (x2)) → (R32 (x3)) → J G yJ7_fill_53178 cJ7_fill_53178 4 none d S0 5 [(0, 2, x0), (1, 0, x1), (2, 0, x2), (3, 0, x3)] [] S (f_J7_fill_53178_b5B r5 x0 x1 x2 x3 S) := by
  intro x0 x1 x2 x3 S h0 h1 h2 h3
  unfold f_J7_fill_53178_b5B
  refine j_iload_n 2 dJ7_fill_53178_5 rfl rfl ?_
  refine j_iload_n 3 dJ7_fill_53178_6 rfl rfl ?_
  refine j_icmp_ge (tgt := 20) h2 h3 dJ7_fill_53178_7 rfl (fun _ => ?_) (fun _ => ?_)
  · exact j_return dJ7_fill_53178_20
  · refine j_aload_n 0 dJ7_fill_53178_10 rfl rfl ?_
    refine j_iload_n 2 dJ7_fill_53178_11 rfl rfl ?_
    refine j_iload_n 1 dJ7_fill_53178_12 rfl rfl ?_
    refine j_iastore h2 h1 dJ7_fill_53178_13 (fun S2 => ?_)
    refine j_iincL (q := 2) dJ7_fill_53178_14 rfl (Nat.le_of_ble_eq_true rfl) (fun v3 hv3 => ?_)
    refine j_lv (lv' := [(2, 0, v3), (0, 2, x0), (1, 0, x1), (3, 0, x3)]) rfl ?_
    refine j_goto (tgt := 5) dJ7_fill_53178_17 rfl ?_
    refine j_sub [1, 2, 0, 3] rfl ?_
    exact k5 x0 x1 v3 x3 S2 h0 h1 hv3 h3
def f_J7_fill_53178_b5 : Int → Int → Int → Int → jSt → Option (Int × jSt) := jrep (β := Int → Int → Int → Int → jSt → Option (Int × jSt)) (fun _ _ _ _ _ => none) (fun r => f_J7_fill_53178_b5B r) jN
theorem p_f_J7_fill_53178_b5 {G : jG} {d : Nat} {S0 : jSt} (hd0 : 1 ≤ d) : ∀ (x0 : Int) (x1 : Int) (x2 : Int) (x3 : Int) (S : jSt), (0 ≤ (x0)) → (R32 (x1)) → (R32 (x2)) → (R32 (x3)) → J G yJ7_fill_53178 cJ7_fill_53178 4 none d S0 5 [(0, 2, x0), (1, 0, x1), (2, 0, x2), (3, 0, x3)] [] S (f_J7_fill_53178_b5  x0 x1 x2 x3 S) :=
  jrep_ind (P := fun (r : Int → Int → Int → Int → jSt → Option (Int × jSt)) => ∀ (x0 : Int) (x1 : Int) (x2 : Int) (x3 : Int) (S : jSt), (0 ≤ (x0)) → (R32 (x1)) → (R32 (x2)) → (R32 (x3)) → J G yJ7_fill_53178 cJ7_fill_53178 4 none d S0 5 [(0, 2, x0), (1, 0, x1), (2, 0, x2), (3, 0, x3)] [] S (r x0 x1 x2 x3 S)) (by intros; exact j_none) (fun r k => p_f_J7_fill_53178_b5B hd0 k) jN
def f_J7_fill_53178 (a0 : Int) (a1 : Int) (S : jSt) : Option (Int × jSt) :=
  flen S a0 1 (fun v1 => f_J7_fill_53178_b5 a0 a1 0 v1 S)
theorem e_J7_fill_53178 {G : jG} {d : Nat} {S0 : jSt} (hd0 : 1 ≤ d) (a0 : Int) (a1 : Int) (S : jSt) (h0 : 0 ≤ (a0)) (h1 : R32 (a1)) : J G yJ7_fill_53178 cJ7_fill_53178 4 none d S0 0 [(0, 2, a0), (1, 0, a1)] [] S (f_J7_fill_53178 a0 a1 S) := by
  unfold f_J7_fill_53178
  refine j_iconst dJ7_fill_53178_0 ?_
  refine j_istore_n (lv' := [(2, 0, 0), (0, 2, a0), (1, 0, a1)]) dJ7_fill_53178_1 rfl (Nat.le_of_ble_eq_true rfl) rfl ?_
  refine j_aload_n 1 dJ7_fill_53178_2 rfl rfl ?_
  refine j_alen dJ7_fill_53178_3 (fun (v1 : Int) (hv1 : R32 v1) => ?_)
  refine j_istore_n (lv' := [(3, 0, v1), (2, 0, 0), (0, 2, a0), (1, 0, a1)]) dJ7_fill_53178_4 rfl (Nat.le_of_ble_eq_true rfl) rfl ?_
  refine j_sub [2, 3, 1, 0] rfl ?_
  exact p_f_J7_fill_53178_b5 hd0 a0 a1 0 v1 S h0 h1 (jZ_R jz0) hv1
theorem c_J7_fill_53178 {G : jG} (a0 : Int) (a1 : Int) (S : jSt) (h0 : 0 ≤ (a0)) (h1 : R32 (a1)) : CT G yJ7_fill_53178 cJ7_fill_53178 4 none 1 ([(2, a0), (0, a1)].map jval) S (f_J7_fill_53178 a0 a1 S) := ct_of [(2, a0), (0, a1)] (by decide) rfl (Nat.le_of_ble_eq_true rfl) (e_J7_fill_53178 (Nat.le_refl _) a0 a1 S h0 h1)
-- X0_goTogether
def f_X0_goTogether_b83 (S : jSt) : Option (Int × jSt) :=
  some (0, S)
theorem p_f_X0_goTogether_b83 {G : jG} {d : Nat} {S0 : jSt} (hd0 : 1 ≤ d) : ∀ (S : jSt), J G yX0_goTogether cX0_goTogether 7 (some .boolean) d S0 83 [] [] S (f_X0_goTogether_b83   S) := by
  intro S
  unfold f_X0_goTogether_b83
  refine j_iconst dX0_goTogether_83 ?_
  exact j_zreturn jz0 dX0_goTogether_84
def f_X0_goTogether_b105 (r8 : Int → Int → Int → Int → Int → Int → jSt → Option (Int × jSt)) (x0 : Int) (x1 : Int) (x2 : Int) (x3 : Int) (x4 : Int) (x5 : Int) (S : jSt) : Option (Int × jSt) :=
  flet (w32 (x5 + 1)) (fun v18 => r8 x0 x1 x2 x3 x4 v18 S)
theorem p_f_X0_goTogether_b105 {G : jG} {d : Nat} {S0 : jSt} (hd0 : 1 ≤ d) {r8 : Int → Int → Int → Int → Int → Int → jSt → Option (Int × jSt)} (k8 : ∀ (x0 : Int) (x1 : Int) (x2 : Int) (x3 : Int) (x4 : Int) (x5 : Int) (S : jSt), (0 ≤ (x0)) → (R32 (x1)) → (R32 (x2)) → (R32 (x3)) → (R32 (x4)) → (R32 (x5)) → J G yX0_goTogether cX0_goTogether 7 (some .boolean) d S0 8 [(0, 2, x0), (1, 0, x1), (2, 0, x2), (3, 0, x3), (4, 0, x4), (5, 0, x5)] [] S (r8 x0 x1 x2 x3 x4 x5 S)) : ∀ (x0 : Int) (x1 : Int) (x2 : Int) (x3 : Int) (x4 : Int) (x5 : Int) (S : jSt), (0 ≤ (x0)) → (R32 (x1)) → (R32 (x2)) → (R32 (x3)) → (R32 (x4)) → (R32 (x5)) → J G yX0_goTogether cX0_goTogether 7 (some .boolean) d S0 105 [(0, 2, x0), (1, 0, x1), (2, 0, x2), (3, 0, x3), (4, 0, x4), (5, 0, x5)] [] S (f_X0_goTogether_b105 r8 x0 x1 x2 x3 x4 x5 S) := by
  intro x0 x1 x2 x3 x4 x5 S h0 h1 h2 h3 h4 h5
  unfold f_X0_goTogether_b105
  refine j_iincL (q := 5) dX0_goTogether_105 rfl (Nat.le_of_ble_eq_true rfl) (fun v18 hv18 => ?_)
  refine j_lv (lv' := [(5, 0, v18), (0, 2, x0), (1, 0, x1), (2, 0, x2), (3, 0, x3), (4, 0, x4)]) rfl ?_
  refine j_goto (tgt := 8) dX0_goTogether_108 rfl ?_
  refine j_sub [1, 2, 3, 4, 5, 0] rfl ?_
  exact k8 x0 x1 x2 x3 x4 v18 S h0 h1 h2 h3 h4 hv18
def f_X0_goTogether_b8B (r8 : Int → Int → Int → Int → Int → Int → jSt → Option (Int × jSt)) (x0 : Int) (x1 : Int) (x2 : Int) (x3 : Int) (x4 : Int) (x5 : Int) (S : jSt) : Option (Int × jSt) :=
  fgetr S x0 0 7 (fun v1 => fget S v1 10 7 (fun v2 => if v2 ≤ x5 then some (1, S) else if (iand32 (ishr32 x1 x5) 1) = 0 then f_X0_goTogether_b105 r8 x0 x1 x2 x3 x4 x5 S else fgetr S x0 0 7 (fun v3 => fgetr S v3 10 8 (fun v4 => fald S v4 x5 1 (fun v5 => flet (ishl32 1 v5) (fun v6 => fgetr S x0 0 7 (fun v7 => fgetr S v7 10 8 (fun v8 => fald S v8 x5 1 (fun v9 => if v9 = x2 then f_X0_goTogether_b83 S else fgetr S x0 0 7 (fun v10 => fgetr S v10 10 9 (fun v11 => fald S v11 x5 1 (fun v12 => if (iand32 x3 v12) = 0 then if (iand32 x4 v6) = 0 then fgetr S x0 0 7 (fun v13 => fgetr S v13 10 9 (fun v14 => fald S v14 x5 1 (fun v15 => flet (ior32 x3 v15) (fun v16 => flet (ior32 x4 v6) (fun v17 => f_X0_goTogether_b105 r8 x0 x1 x2 v16 v17 x5 S))))) else f_X0_goTogether_b83 S else f_X0_goTogether_b83 S))))))))))))
theorem p_f_X0_goTogether_b8B {G : jG} {d : Nat} {S0 : jSt} (hd0 : 1 ≤ d) {r8 : Int → Int → Int → Int → Int → Int → jSt → Option (Int × jSt)} (k8 : ∀ (x0 : Int) (x1 : Int) (x2 : Int) (x3 : Int) (x4 : Int) (x5 : Int) (S : jSt), (0 ≤ (x0)) → (R32 (x1)) → (R32 (x2)) → (R32 (x3)) → (R32 (x4)) → (R32 (x5)) → J G yX0_goTogether cX0_goTogether 7 (some .boolean) d S0 8 [(0, 2, x0), (1, 0, x1), (2, 0, x2), (3, 0, x3), (4, 0, x4), (5, 0, x5)] [] S (r8 x0 x1 x2 x3 x4 x5 S)) : ∀ (x0 : Int) (x1 : Int) (x2 : Int) (x3 : Int) (x4 : Int) (x5 : Int) (S : jSt), (0 ≤ (x0)) → (R32 (x1)) → (R32 (x2)) → (R32 (x3)) → (R32 (x4)) → (R32 (x5)) → J G yX0_goTogether cX0_goTogether 7 (some .boolean) d S0 8 [(0, 2, x0), (1, 0, x1), (2, 0, x2), (3, 0, x3), (4, 0, x4), (5, 0, x5)] [] S (f_X0_goTogether_b8B r8 x0 x1 x2 x3 x4 x5 S) := by
  intro x0 x1 x2 x3 x4 x5 S h0 h1 h2 h3 h4 h5
  unfold f_X0_goTogether_b8B
  refine j_iload 5 dX0_goTogether_8 rfl ?_
  refine j_aload_n 0 dX0_goTogether_10 rfl rfl ?_
  refine j_getr (ci := 0) (k := 7) rfl in_X0 (Nat.le_of_ble_eq_true rfl) rfl rfl fl_X0_18 dX0_goTogether_11 (fun (v1 : Int) (hv1 : 0 ≤ v1) => ?_)
  refine j_get (ci := 10) (k := 7) (t := 0) rfl in_X10 (Nat.le_of_ble_eq_true rfl) rfl rfl fl_X0_65 dX0_goTogether_14 (fun (v2 : Int) (hv2 : R32 (v2)) => ?_)
  refine j_icmp_ge (tgt := 111) h5 hv2 dX0_goTogether_17 rfl (fun _ => ?_) (fun _ => ?_)
  · refine j_iconst dX0_goTogether_111 ?_
    exact j_zreturn jz1 dX0_goTogether_112
  · refine j_iload_n 1 dX0_goTogether_20 rfl rfl ?_
    refine j_iload 5 dX0_goTogether_21 rfl ?_
    refine j_ishr dX0_goTogether_23 ?_
    refine j_iconst dX0_goTogether_24 ?_
    refine j_iand dX0_goTogether_25 ?_
    refine j_if_ne (tgt := 32) (iand32_R _ _) dX0_goTogether_26 rfl (fun _ => ?_) (fun _ => ?_)
    · refine j_iconst dX0_goTogether_32 ?_
      refine j_aload_n 0 dX0_goTogether_33 rfl rfl ?_
      refine j_getr (ci := 0) (k := 7) rfl in_X0 (Nat.le_of_ble_eq_true rfl) rfl rfl fl_X0_18 dX0_goTogether_34 (fun (v3 : Int) (hv3 : 0 ≤ v3) => ?_)
      refine j_getr (ci := 10) (k := 8) rfl in_X10 (Nat.le_of_ble_eq_true rfl) rfl rfl fl_X0_76 dX0_goTogether_37 (fun (v4 : Int) (hv4 : 0 ≤ v4) => ?_)
      refine j_iload 5 dX0_goTogether_40 rfl ?_
      refine j_iaload h5 dX0_goTogether_42 (fun (v5 : Int) (hv5 : R32 (v5)) => ?_)
      refine j_ishl dX0_goTogether_43 ?_
      refine j_leti (ishl32_R _ _) (fun v6 hv6 => ?_)
      refine j_istore (lv' := [(6, 0, v6), (0, 2, x0), (1, 0, x1), (2, 0, x2), (3, 0, x3), (4, 0, x4), (5, 0, x5)]) dX0_goTogether_44 (Nat.le_of_ble_eq_true rfl) rfl ?_
      refine j_aload_n 1 dX0_goTogether_46 rfl rfl ?_
      refine j_getr (ci := 0) (k := 7) rfl in_X0 (Nat.le_of_ble_eq_true rfl) rfl rfl fl_X0_18 dX0_goTogether_47 (fun (v7 : Int) (hv7 : 0 ≤ v7) => ?_)
      refine j_getr (ci := 10) (k := 8) rfl in_X10 (Nat.le_of_ble_eq_true rfl) rfl rfl fl_X0_76 dX0_goTogether_50 (fun (v8 : Int) (hv8 : 0 ≤ v8) => ?_)
      refine j_iload 6 dX0_goTogether_53 rfl ?_
      refine j_iaload h5 dX0_goTogether_55 (fun (v9 : Int) (hv9 : R32 (v9)) => ?_)
      refine j_iload_n 3 dX0_goTogether_56 rfl rfl ?_
      refine j_icmp_eq (tgt := 83) hv9 h2 dX0_goTogether_57 rfl (fun _ => ?_) (fun _ => ?_)
      · refine j_sub [] rfl ?_
        exact p_f_X0_goTogether_b83 hd0 S
      · refine j_iload_n 4 dX0_goTogether_60 rfl rfl ?_
        refine j_aload_n 1 dX0_goTogether_61 rfl rfl ?_
        refine j_getr (ci := 0) (k := 7) rfl in_X0 (Nat.le_of_ble_eq_true rfl) rfl rfl fl_X0_18 dX0_goTogether_62 (fun (v10 : Int) (hv10 : 0 ≤ v10) => ?_)
        refine j_getr (ci := 10) (k := 9) rfl in_X10 (Nat.le_of_ble_eq_true rfl) rfl rfl fl_X0_79 dX0_goTogether_65 (fun (v11 : Int) (hv11 : 0 ≤ v11) => ?_)
        refine j_iload 6 dX0_goTogether_68 rfl ?_
        refine j_iaload h5 dX0_goTogether_70 (fun (v12 : Int) (hv12 : R32 (v12)) => ?_)
        refine j_iand dX0_goTogether_71 ?_
        refine j_if_ne (tgt := 83) (iand32_R _ _) dX0_goTogether_72 rfl (fun _ => ?_) (fun _ => ?_)
        · refine j_sub [] rfl ?_
          exact p_f_X0_goTogether_b83 hd0 S
        · refine j_iload 5 dX0_goTogether_75 rfl ?_
          refine j_iload 0 dX0_goTogether_77 rfl ?_
          refine j_iand dX0_goTogether_79 ?_
          refine j_if_eq (tgt := 85) (iand32_R _ _) dX0_goTogether_80 rfl (fun _ => ?_) (fun _ => ?_)
          · refine j_iload_n 4 dX0_goTogether_85 rfl rfl ?_
            refine j_aload_n 1 dX0_goTogether_86 rfl rfl ?_
            refine j_getr (ci := 0) (k := 7) rfl in_X0 (Nat.le_of_ble_eq_true rfl) rfl rfl fl_X0_18 dX0_goTogether_87 (fun (v13 : Int) (hv13 : 0 ≤ v13) => ?_)
            refine j_getr (ci := 10) (k := 9) rfl in_X10 (Nat.le_of_ble_eq_true rfl) rfl rfl fl_X0_79 dX0_goTogether_90 (fun (v14 : Int) (hv14 : 0 ≤ v14) => ?_)
            refine j_iload 6 dX0_goTogether_93 rfl ?_
            refine j_iaload h5 dX0_goTogether_95 (fun (v15 : Int) (hv15 : R32 (v15)) => ?_)
            refine j_ior dX0_goTogether_96 ?_
            refine j_leti (ior32_R _ _) (fun v16 hv16 => ?_)
            refine j_istore_n (lv' := [(3, 0, v16), (6, 0, v6), (0, 2, x0), (1, 0, x1), (2, 0, x2), (4, 0, x4), (5, 0, x5)]) dX0_goTogether_97 rfl (Nat.le_of_ble_eq_true rfl) rfl ?_
            refine j_iload 5 dX0_goTogether_98 rfl ?_
            refine j_iload 1 dX0_goTogether_100 rfl ?_
            refine j_ior dX0_goTogether_102 ?_
            refine j_leti (ior32_R _ _) (fun v17 hv17 => ?_)
            refine j_istore (lv' := [(4, 0, v17), (3, 0, v16), (6, 0, v6), (0, 2, x0), (1, 0, x1), (2, 0, x2), (5, 0, x5)]) dX0_goTogether_103 (Nat.le_of_ble_eq_true rfl) rfl ?_
            refine j_sub [3, 4, 5, 1, 0, 6] rfl ?_
            exact p_f_X0_goTogether_b105 hd0 k8 x0 x1 x2 v16 v17 x5 S h0 h1 h2 hv16 hv17 h5
          · refine j_sub [] rfl ?_
            exact p_f_X0_goTogether_b83 hd0 S
    · refine j_goto (tgt := 105) dX0_goTogether_29 rfl ?_
      exact p_f_X0_goTogether_b105 hd0 k8 x0 x1 x2 x3 x4 x5 S h0 h1 h2 h3 h4 h5
def f_X0_goTogether_b8 : Int → Int → Int → Int → Int → Int → jSt → Option (Int × jSt) := jrep (β := Int → Int → Int → Int → Int → Int → jSt → Option (Int × jSt)) (fun _ _ _ _ _ _ _ => none) (fun r => f_X0_goTogether_b8B r) jN
theorem p_f_X0_goTogether_b8 {G : jG} {d : Nat} {S0 : jSt} (hd0 : 1 ≤ d) : ∀ (x0 : Int) (x1 : Int) (x2 : Int) (x3 : Int) (x4 : Int) (x5 : Int) (S : jSt), (0 ≤ (x0)) → (R32 (x1)) → (R32 (x2)) → (R32 (x3)) → (R32 (x4)) → (R32 (x5)) → J G yX0_goTogether cX0_goTogether 7 (some .boolean) d S0 8 [(0, 2, x0), (1, 0, x1), (2, 0, x2), (3, 0, x3), (4, 0, x4), (5, 0, x5)] [] S (f_X0_goTogether_b8  x0 x1 x2 x3 x4 x5 S) :=
  jrep_ind (P := fun (r : Int → Int → Int → Int → Int → Int → jSt → Option (Int × jSt)) => ∀ (x0 : Int) (x1 : Int) (x2 : Int) (x3 : Int) (x4 : Int) (x5 : Int) (S : jSt), (0 ≤ (x0)) → (R32 (x1)) → (R32 (x2)) → (R32 (x3)) → (R32 (x4)) → (R32 (x5)) → J G yX0_goTogether cX0_goTogether 7 (some .boolean) d S0 8 [(0, 2, x0), (1, 0, x1), (2, 0, x2), (3, 0, x3), (4, 0, x4), (5, 0, x5)] [] S (r x0 x1 x2 x3 x4 x5 S)) (by intros; exact j_none) (fun r k => p_f_X0_goTogether_b8B hd0 k) jN
def f_X0_goTogether (a0 : Int) (a1 : Int) (a2 : Int) (S : jSt) : Option (Int × jSt) :=
  f_X0_goTogether_b8 a0 a1 a2 0 0 0 S
theorem e_X0_goTogether {G : jG} {d : Nat} {S0 : jSt} (hd0 : 1 ≤ d) (a0 : Int) (a1 : Int) (a2 : Int) (S : jSt) (h0 : 0 ≤ (a0)) (h1 : R32 (a1)) (h2 : R32 (a2)) : J G yX0_goTogether cX0_goTogether 7 (some .boolean) d S0 0 [(0, 2, a0), (1, 0, a1), (2, 0, a2)] [] S (f_X0_goTogether a0 a1 a2 S) := by
  unfold f_X0_goTogether
  refine j_iconst dX0_goTogether_0 ?_
  refine j_istore_n (lv' := [(3, 0, 0), (0, 2, a0), (1, 0, a1), (2, 0, a2)]) dX0_goTogether_1 rfl (Nat.le_of_ble_eq_true rfl) rfl ?_
  refine j_iconst dX0_goTogether_2 ?_
  refine j_istore (lv' := [(4, 0, 0), (3, 0, 0), (0, 2, a0), (1, 0, a1), (2, 0, a2)]) dX0_goTogether_3 (Nat.le_of_ble_eq_true rfl) rfl ?_
  refine j_iconst dX0_goTogether_5 ?_
  refine j_istore (lv' := [(5, 0, 0), (4, 0, 0), (3, 0, 0), (0, 2, a0), (1, 0, a1), (2, 0, a2)]) dX0_goTogether_6 (Nat.le_of_ble_eq_true rfl) rfl ?_
  refine j_sub [3, 4, 5, 2, 1, 0] rfl ?_
  exact p_f_X0_goTogether_b8 hd0 a0 a1 a2 0 0 0 S h0 h1 h2 (jZ_R jz0) (jZ_R jz0) (jZ_R jz0)
theorem c_X0_goTogether {G : jG} (a0 : Int) (a1 : Int) (a2 : Int) (S : jSt) (h0 : 0 ≤ (a0)) (h1 : R32 (a1)) (h2 : R32 (a2)) : CT G yX0_goTogether cX0_goTogether 7 (some .boolean) 1 ([(2, a0), (0, a1), (0, a2)].map jval) S (f_X0_goTogether a0 a1 a2 S) := ct_of [(2, a0), (0, a1), (0, a2)] (by decide) rfl (Nat.le_of_ble_eq_true rfl) (e_X0_goTogether (Nat.le_refl _) a0 a1 a2 S h0 h1 h2)
-- X0_pricesOf
def f_X0_pricesOf_b53 (r5 : Int → Int → Int → Int → Int → jSt → Option (Int × jSt)) (x0 : Int) (x1 : Int) (x2 : Int) (x3 : Int) (x4 : Int) (S : jSt) : Option (Int × jSt) :=
  flet (w32 (x4 + 1)) (fun v3 => r5 x0 x1 x2 x3 v3 S)
theorem p_f_X0_pricesOf_b53 {G : jG} {d : Nat} {S0 : jSt} (hd0 : 1 ≤ d) {r5 : Int → Int → Int → Int → Int → jSt → Option (Int × jSt)} (k5 : ∀ (x0 : Int) (x1 : Int) (x2 : Int) (x3 : Int) (x4 : Int) (S : jSt), (0 ≤ (x0)) → (R32 (x1)) → (R32 (x2)) → (R32 (x3)) → (R32 (x4)) → J G yX0_pricesOf cX0_pricesOf 5 (some .int) d S0 5 [(0, 2, x0), (1, 0, x1), (2, 0, x2), (3, 0, x3), (4, 0, x4)] [] S (r5 x0 x1 x2 x3 x4 S)) : ∀ (x0 : Int) (x1 : Int) (x2 : Int) (x3 : Int) (x4 : Int) (S : jSt), (0 ≤ (x0)) → (R32 (x1)) → (R32 (x2)) → (R32 (x3)) → (R32 (x4)) → J G yX0_pricesOf cX0_pricesOf 5 (some .int) d S0 53 [(0, 2, x0), (1, 0, x1), (2, 0, x2), (3, 0, x3), (4, 0, x4)] [] S (f_X0_pricesOf_b53 r5 x0 x1 x2 x3 x4 S) := by
  intro x0 x1 x2 x3 x4 S h0 h1 h2 h3 h4
  unfold f_X0_pricesOf_b53
  refine j_iincL (q := 4) dX0_pricesOf_53 rfl (Nat.le_of_ble_eq_true rfl) (fun v3 hv3 => ?_)
  refine j_lv (lv' := [(4, 0, v3), (0, 2, x0), (1, 0, x1), (2, 0, x2), (3, 0, x3)]) rfl ?_
  refine j_goto (tgt := 5) dX0_pricesOf_56 rfl ?_
  refine j_sub [1, 2, 3, 4, 0] rfl ?_
  exact k5 x0 x1 x2 x3 v3 S h0 h1 h2 h3 hv3
def f_X0_pricesOf_b5B (r5 : Int → Int → Int → Int → Int → jSt → Option (Int × jSt)) (x0 : Int) (x1 : Int) (x2 : Int) (x3 : Int) (x4 : Int) (S : jSt) : Option (Int × jSt) :=
  fgetr S x0 0 7 (fun v1 => fget S v1 10 7 (fun v2 => if v2 ≤ x4 then some (x3, S) else if (iand32 (ishr32 x1 x4) 1) = 0 then f_X0_pricesOf_b53 r5 x0 x1 x2 x3 x4 S else fgetr S x0 0 7 (fun v4 => fgetr S v4 10 8 (fun v5 => fald S v5 x4 1 (fun v6 => if v6 = x2 then f_X0_pricesOf_b53 r5 x0 x1 x2 x3 x4 S else fgetr S x0 0 7 (fun v7 => fgetr S v7 10 10 (fun v8 => fald S v8 x4 1 (fun v9 => flet (w32 (x3 + v9)) (fun v10 => f_X0_pricesOf_b53 r5 x0 x1 x2 v10 x4 S)))))))))
theorem p_f_X0_pricesOf_b5B {G : jG} {d : Nat} {S0 : jSt} (hd0 : 1 ≤ d) {r5 : Int → Int → Int → Int → Int → jSt → Option (Int × jSt)} (k5 : ∀ (x0 : Int) (x1 : Int) (x2 : Int) (x3 : Int) (x4 : Int) (S : jSt), (0 ≤ (x0)) → (R32 (x1)) → (R32 (x2)) → (R32 (x3)) → (R32 (x4)) → J G yX0_pricesOf cX0_pricesOf 5 (some .int) d S0 5 [(0, 2, x0), (1, 0, x1), (2, 0, x2), (3, 0, x3), (4, 0, x4)] [] S (r5 x0 x1 x2 x3 x4 S)) : ∀ (x0 : Int) (x1 : Int) (x2 : Int) (x3 : Int) (x4 : Int) (S : jSt), (0 ≤ (x0)) → (R32 (x1)) → (R32 (x2)) → (R32 (x3)) → (R32 (x4)) → J G yX0_pricesOf cX0_pricesOf 5 (some .int) d S0 5 [(0, 2, x0), (1, 0, x1), (2, 0, x2), (3, 0, x3), (4, 0, x4)] [] S (f_X0_pricesOf_b5B r5 x0 x1 x2 x3 x4 S) := by
  intro x0 x1 x2 x3 x4 S h0 h1 h2 h3 h4
  unfold f_X0_pricesOf_b5B
  refine j_iload 4 dX0_pricesOf_5 rfl ?_
  refine j_aload_n 0 dX0_pricesOf_7 rfl rfl ?_
  refine j_getr (ci := 0) (k := 7) rfl in_X0 (Nat.le_of_ble_eq_true rfl) rfl rfl fl_X0_18 dX0_pricesOf_8 (fun (v1 : Int) (hv1 : 0 ≤ v1) => ?_)
  refine j_get (ci := 10) (k := 7) (t := 0) rfl in_X10 (Nat.le_of_ble_eq_true rfl) rfl rfl fl_X0_65 dX0_pricesOf_11 (fun (v2 : Int) (hv2 : R32 (v2)) => ?_)
  refine j_icmp_ge (tgt := 59) h4 hv2 dX0_pricesOf_14 rfl (fun _ => ?_) (fun _ => ?_)
  · refine j_iload_n 3 dX0_pricesOf_59 rfl rfl ?_
    exact j_ireturn h3 dX0_pricesOf_60
  · refine j_iload_n 1 dX0_pricesOf_17 rfl rfl ?_
    refine j_iload 4 dX0_pricesOf_18 rfl ?_
    refine j_ishr dX0_pricesOf_20 ?_
    refine j_iconst dX0_pricesOf_21 ?_
    refine j_iand dX0_pricesOf_22 ?_
    refine j_if_eq (tgt := 53) (iand32_R _ _) dX0_pricesOf_23 rfl (fun _ => ?_) (fun _ => ?_)
    · exact p_f_X0_pricesOf_b53 hd0 k5 x0 x1 x2 x3 x4 S h0 h1 h2 h3 h4
    · refine j_aload_n 0 dX0_pricesOf_26 rfl rfl ?_
      refine j_getr (ci := 0) (k := 7) rfl in_X0 (Nat.le_of_ble_eq_true rfl) rfl rfl fl_X0_18 dX0_pricesOf_27 (fun (v4 : Int) (hv4 : 0 ≤ v4) => ?_)
      refine j_getr (ci := 10) (k := 8) rfl in_X10 (Nat.le_of_ble_eq_true rfl) rfl rfl fl_X0_76 dX0_pricesOf_30 (fun (v5 : Int) (hv5 : 0 ≤ v5) => ?_)
      refine j_iload 4 dX0_pricesOf_33 rfl ?_
      refine j_iaload h4 dX0_pricesOf_35 (fun (v6 : Int) (hv6 : R32 (v6)) => ?_)
      refine j_iload_n 2 dX0_pricesOf_36 rfl rfl ?_
      refine j_icmp_eq (tgt := 53) hv6 h2 dX0_pricesOf_37 rfl (fun _ => ?_) (fun _ => ?_)
      · exact p_f_X0_pricesOf_b53 hd0 k5 x0 x1 x2 x3 x4 S h0 h1 h2 h3 h4
      · refine j_iload_n 3 dX0_pricesOf_40 rfl rfl ?_
        refine j_aload_n 0 dX0_pricesOf_41 rfl rfl ?_
        refine j_getr (ci := 0) (k := 7) rfl in_X0 (Nat.le_of_ble_eq_true rfl) rfl rfl fl_X0_18 dX0_pricesOf_42 (fun (v7 : Int) (hv7 : 0 ≤ v7) => ?_)
        refine j_getr (ci := 10) (k := 10) rfl in_X10 (Nat.le_of_ble_eq_true rfl) rfl rfl fl_X0_82 dX0_pricesOf_45 (fun (v8 : Int) (hv8 : 0 ≤ v8) => ?_)
        refine j_iload 4 dX0_pricesOf_48 rfl ?_
        refine j_iaload h4 dX0_pricesOf_50 (fun (v9 : Int) (hv9 : R32 (v9)) => ?_)
        refine j_iadd dX0_pricesOf_51 ?_
        refine j_leti (w32_R _) (fun v10 hv10 => ?_)
        refine j_istore_n (lv' := [(3, 0, v10), (0, 2, x0), (1, 0, x1), (2, 0, x2), (4, 0, x4)]) dX0_pricesOf_52 rfl (Nat.le_of_ble_eq_true rfl) rfl ?_
        refine j_sub [1, 2, 3, 0, 4] rfl ?_
        exact p_f_X0_pricesOf_b53 hd0 k5 x0 x1 x2 v10 x4 S h0 h1 h2 hv10 h4
def f_X0_pricesOf_b5 : Int → Int → Int → Int → Int → jSt → Option (Int × jSt) := jrep (β := Int → Int → Int → Int → Int → jSt → Option (Int × jSt)) (fun _ _ _ _ _ _ => none) (fun r => f_X0_pricesOf_b5B r) jN
theorem p_f_X0_pricesOf_b5 {G : jG} {d : Nat} {S0 : jSt} (hd0 : 1 ≤ d) : ∀ (x0 : Int) (x1 : Int) (x2 : Int) (x3 : Int) (x4 : Int) (S : jSt), (0 ≤ (x0)) → (R32 (x1)) → (R32 (x2)) → (R32 (x3)) → (R32 (x4)) → J G yX0_pricesOf cX0_pricesOf 5 (some .int) d S0 5 [(0, 2, x0), (1, 0, x1), (2, 0, x2), (3, 0, x3), (4, 0, x4)] [] S (f_X0_pricesOf_b5  x0 x1 x2 x3 x4 S) :=
  jrep_ind (P := fun (r : Int → Int → Int → Int → Int → jSt → Option (Int × jSt)) => ∀ (x0 : Int) (x1 : Int) (x2 : Int) (x3 : Int) (x4 : Int) (S : jSt), (0 ≤ (x0)) → (R32 (x1)) → (R32 (x2)) → (R32 (x3)) → (R32 (x4)) → J G yX0_pricesOf cX0_pricesOf 5 (some .int) d S0 5 [(0, 2, x0), (1, 0, x1), (2, 0, x2), (3, 0, x3), (4, 0, x4)] [] S (r x0 x1 x2 x3 x4 S)) (by intros; exact j_none) (fun r k => p_f_X0_pricesOf_b5B hd0 k) jN
def f_X0_pricesOf (a0 : Int) (a1 : Int) (a2 : Int) (S : jSt) : Option (Int × jSt) :=
  f_X0_pricesOf_b5 a0 a1 a2 0 0 S
theorem e_X0_pricesOf {G : jG} {d : Nat} {S0 : jSt} (hd0 : 1 ≤ d) (a0 : Int) (a1 : Int) (a2 : Int) (S : jSt) (h0 : 0 ≤ (a0)) (h1 : R32 (a1)) (h2 : R32 (a2)) : J G yX0_pricesOf cX0_pricesOf 5 (some .int) d S0 0 [(0, 2, a0), (1, 0, a1), (2, 0, a2)] [] S (f_X0_pricesOf a0 a1 a2 S) := by
  unfold f_X0_pricesOf
  refine j_iconst dX0_pricesOf_0 ?_
  refine j_istore_n (lv' := [(3, 0, 0), (0, 2, a0), (1, 0, a1), (2, 0, a2)]) dX0_pricesOf_1 rfl (Nat.le_of_ble_eq_true rfl) rfl ?_
  refine j_iconst dX0_pricesOf_2 ?_
  refine j_istore (lv' := [(4, 0, 0), (3, 0, 0), (0, 2, a0), (1, 0, a1), (2, 0, a2)]) dX0_pricesOf_3 (Nat.le_of_ble_eq_true rfl) rfl ?_
  refine j_sub [2, 3, 4, 1, 0] rfl ?_
  exact p_f_X0_pricesOf_b5 hd0 a0 a1 a2 0 0 S h0 h1 h2 (jZ_R jz0) (jZ_R jz0)
theorem c_X0_pricesOf {G : jG} (a0 : Int) (a1 : Int) (a2 : Int) (S : jSt) (h0 : 0 ≤ (a0)) (h1 : R32 (a1)) (h2 : R32 (a2)) : CT G yX0_pricesOf cX0_pricesOf 5 (some .int) 1 ([(2, a0), (0, a1), (0, a2)].map jval) S (f_X0_pricesOf a0 a1 a2 S) := ct_of [(2, a0), (0, a1), (0, a2)] (by decide) rfl (Nat.le_of_ble_eq_true rfl) (e_X0_pricesOf (Nat.le_refl _) a0 a1 a2 S h0 h1 h2)
-- X0_bestBundles
def f_X0_bestBundles_b52 (r7 : Int → Int → Int → Int → Int → jSt → Option (Int × jSt)) (x0 : Int) (x1 : Int) (x2 : Int) (x3 : Int) (x4 : Int) (S : jSt) : Option (Int × jSt) :=
  flet (w32 (x4 + 1)) (fun v5 => r7 x0 x1 x2 x3 v5 S)
theorem p_f_X0_bestBundles_b52 {G : jG} {d : Nat} {S0 : jSt} (hd0 : 2 ≤ d) {r7 : Int → Int → Int → Int → Int → jSt → Option (Int × jSt)} (k7 : ∀ (x0 : Int) (x1 : Int) (x2 : Int) (x3 : Int) (x4 : Int) (S : jSt), (0 ≤ (x0)) → (R32 (x1)) → (R32 (x2)) → (R32 (x3)) → (R32 (x4)) → J G yX0_bestBundles cX0_bestBundles 6 (some .int) d S0 7 [(0, 2, x0), (1, 0, x1), (2, 0, x2), (3, 0, x3), (4, 0, x4)] [] S (r7 x0 x1 x2 x3 x4 S)) : ∀ (x0 : Int) (x1 : Int) (x2 : Int) (x3 : Int) (x4 : Int) (S : jSt), (0 ≤ (x0)) → (R32 (x1)) → (R32 (x2)) → (R32 (x3)) → (R32 (x4)) → J G yX0_bestBundles cX0_bestBundles 6 (some .int) d S0 52 [(0, 2, x0), (1, 0, x1), (2, 0, x2), (3, 0, x3), (4, 0, x4)] [] S (f_X0_bestBundles_b52 r7 x0 x1 x2 x3 x4 S) := by
  intro x0 x1 x2 x3 x4 S h0 h1 h2 h3 h4
  unfold f_X0_bestBundles_b52
  refine j_iincL (q := 4) dX0_bestBundles_52 rfl (Nat.le_of_ble_eq_true rfl) (fun v5 hv5 => ?_)
  refine j_lv (lv' := [(4, 0, v5), (0, 2, x0), (1, 0, x1), (2, 0, x2), (3, 0, x3)]) rfl ?_
  refine j_goto (tgt := 7) dX0_bestBundles_55 rfl ?_
  refine j_sub [1, 2, 3, 4, 0] rfl ?_
  exact k7 x0 x1 x2 x3 v5 S h0 h1 h2 h3 hv5
def f_X0_bestBundles_b7B (r7 : Int → Int → Int → Int → Int → jSt → Option (Int × jSt)) (x0 : Int) (x1 : Int) (x2 : Int) (x3 : Int) (x4 : Int) (S : jSt) : Option (Int × jSt) :=
  fgetr S x0 0 7 (fun v1 => fget S v1 10 7 (fun v2 => if (ishl32 1 v2) ≤ x4 then some (x2, S) else fcallv S x0 0 (f_X0_pricesOf x0 x4 (-1) S) (fun v3 S4 => if v3 ≤ x3 then f_X0_bestBundles_b52 r7 x0 x1 x2 x3 x4 S4 else fcallv S4 x0 0 (f_X0_goTogether x0 x4 x1 S4) (fun v6 S7 => if v6 = 0 then f_X0_bestBundles_b52 r7 x0 x1 x2 x3 x4 S7 else f_X0_bestBundles_b52 r7 x0 x1 x4 v3 x4 S7))))
theorem p_f_X0_bestBundles_b7B {G : jG} {d : Nat} {S0 : jSt} (hd0 : 2 ≤ d) {r7 : Int → Int → Int → Int → Int → jSt → Option (Int × jSt)} (k7 : ∀ (x0 : Int) (x1 : Int) (x2 : Int) (x3 : Int) (x4 : Int) (S : jSt), (0 ≤ (x0)) → (R32 (x1)) → (R32 (x2)) → (R32 (x3)) → (R32 (x4)) → J G yX0_bestBundles cX0_bestBundles 6 (some .int) d S0 7 [(0, 2, x0), (1, 0, x1), (2, 0, x2), (3, 0, x3), (4, 0, x4)] [] S (r7 x0 x1 x2 x3 x4 S)) : ∀ (x0 : Int) (x1 : Int) (x2 : Int) (x3 : Int) (x4 : Int) (S : jSt), (0 ≤ (x0)) → (R32 (x1)) → (R32 (x2)) → (R32 (x3)) → (R32 (x4)) → J G yX0_bestBundles cX0_bestBundles 6 (some .int) d S0 7 [(0, 2, x0), (1, 0, x1), (2, 0, x2), (3, 0, x3), (4, 0, x4)] [] S (f_X0_bestBundles_b7B r7 x0 x1 x2 x3 x4 S) := by
  intro x0 x1 x2 x3 x4 S h0 h1 h2 h3 h4
  unfold f_X0_bestBundles_b7B
  refine j_iload 4 dX0_bestBundles_7 rfl ?_
  refine j_iconst dX0_bestBundles_9 ?_
  refine j_aload_n 0 dX0_bestBundles_10 rfl rfl ?_
  refine j_getr (ci := 0) (k := 7) rfl in_X0 (Nat.le_of_ble_eq_true rfl) rfl rfl fl_X0_18 dX0_bestBundles_11 (fun (v1 : Int) (hv1 : 0 ≤ v1) => ?_)
  refine j_get (ci := 10) (k := 7) (t := 0) rfl in_X10 (Nat.le_of_ble_eq_true rfl) rfl rfl fl_X0_65 dX0_bestBundles_14 (fun (v2 : Int) (hv2 : R32 (v2)) => ?_)
  refine j_ishl dX0_bestBundles_17 ?_
  refine j_icmp_ge (tgt := 58) h4 (ishl32_R _ _) dX0_bestBundles_18 rfl (fun _ => ?_) (fun _ => ?_)
  · refine j_iload_n 2 dX0_bestBundles_58 rfl rfl ?_
    exact j_ireturn h2 dX0_bestBundles_59
  · refine j_aload_n 0 dX0_bestBundles_21 rfl rfl ?_
    refine j_iload 4 dX0_bestBundles_22 rfl ?_
    refine j_iconst dX0_bestBundles_24 ?_
    refine j_callV (ci := 0) (As := [(0, x4), (0, (-1))]) (st := []) kc_X0_pricesOf (c_X0_pricesOf x0 x4 (-1) S h0 h4 (j_r32 (-1) rfl)) rfl lm_X0_68 ki_X0_pricesOf ke_X0_pricesOf rfl (Nat.le_of_ble_eq_true rfl) (Nat.le_trans (m := 2) (Nat.le_of_ble_eq_true rfl) hd0) dX0_bestBundles_25 (fun (v3 : Int) (S4 : jSt) (hv3 : R32 (v3)) => ?_)
    refine j_istore (lv' := [(5, 0, v3), (0, 2, x0), (1, 0, x1), (2, 0, x2), (3, 0, x3), (4, 0, x4)]) dX0_bestBundles_28 (Nat.le_of_ble_eq_true rfl) rfl ?_
    refine j_iload 0 dX0_bestBundles_30 rfl ?_
    refine j_iload_n 4 dX0_bestBundles_32 rfl rfl ?_
    refine j_icmp_le (tgt := 52) hv3 h3 dX0_bestBundles_33 rfl (fun _ => ?_) (fun _ => ?_)
    · refine j_sub [1, 2, 3, 4, 5] rfl ?_
      exact p_f_X0_bestBundles_b52 hd0 k7 x0 x1 x2 x3 x4 S4 h0 h1 h2 h3 h4
    · refine j_aload_n 1 dX0_bestBundles_36 rfl rfl ?_
      refine j_iload 5 dX0_bestBundles_37 rfl ?_
      refine j_iload_n 2 dX0_bestBundles_39 rfl rfl ?_
      refine j_callV (ci := 0) (As := [(0, x4), (0, x1)]) (st := []) kc_X0_goTogether (c_X0_goTogether x0 x4 x1 S4 h0 h4 h1) rfl lm_X0_72 ki_X0_goTogether ke_X0_goTogether rfl (Nat.le_of_ble_eq_true rfl) (Nat.le_trans (m := 2) (Nat.le_of_ble_eq_true rfl) hd0) dX0_bestBundles_40 (fun (v6 : Int) (S7 : jSt) (hv6 : (v6) = 0 ∨ (v6) = 1) => ?_)
      refine j_if_eq (tgt := 52) (jZ_R hv6) dX0_bestBundles_43 rfl (fun _ => ?_) (fun _ => ?_)
      · refine j_sub [1, 2, 3, 4, 5] rfl ?_
        exact p_f_X0_bestBundles_b52 hd0 k7 x0 x1 x2 x3 x4 S7 h0 h1 h2 h3 h4
      · refine j_iload 0 dX0_bestBundles_46 rfl ?_
        refine j_istore_n (lv' := [(3, 0, v3), (5, 0, v3), (0, 2, x0), (1, 0, x1), (2, 0, x2), (4, 0, x4)]) dX0_bestBundles_48 rfl (Nat.le_of_ble_eq_true rfl) rfl ?_
        refine j_iload 5 dX0_bestBundles_49 rfl ?_
        refine j_istore_n (lv' := [(2, 0, x4), (3, 0, v3), (5, 0, v3), (0, 2, x0), (1, 0, x1), (4, 0, x4)]) dX0_bestBundles_51 rfl (Nat.le_of_ble_eq_true rfl) rfl ?_
        refine j_sub [3, 4, 0, 1, 5] rfl ?_
        exact p_f_X0_bestBundles_b52 hd0 k7 x0 x1 x4 v3 x4 S7 h0 h1 h4 hv3 h4
def f_X0_bestBundles_b7 : Int → Int → Int → Int → Int → jSt → Option (Int × jSt) := jrep (β := Int → Int → Int → Int → Int → jSt → Option (Int × jSt)) (fun _ _ _ _ _ _ => none) (fun r => f_X0_bestBundles_b7B r) jN
theorem p_f_X0_bestBundles_b7 {G : jG} {d : Nat} {S0 : jSt} (hd0 : 2 ≤ d) : ∀ (x0 : Int) (x1 : Int) (x2 : Int) (x3 : Int) (x4 : Int) (S : jSt), (0 ≤ (x0)) → (R32 (x1)) → (R32 (x2)) → (R32 (x3)) → (R32 (x4)) → J G yX0_bestBundles cX0_bestBundles 6 (some .int) d S0 7 [(0, 2, x0), (1, 0, x1), (2, 0, x2), (3, 0, x3), (4, 0, x4)] [] S (f_X0_bestBundles_b7  x0 x1 x2 x3 x4 S) :=
  jrep_ind (P := fun (r : Int → Int → Int → Int → Int → jSt → Option (Int × jSt)) => ∀ (x0 : Int) (x1 : Int) (x2 : Int) (x3 : Int) (x4 : Int) (S : jSt), (0 ≤ (x0)) → (R32 (x1)) → (R32 (x2)) → (R32 (x3)) → (R32 (x4)) → J G yX0_bestBundles cX0_bestBundles 6 (some .int) d S0 7 [(0, 2, x0), (1, 0, x1), (2, 0, x2), (3, 0, x3), (4, 0, x4)] [] S (r x0 x1 x2 x3 x4 S)) (by intros; exact j_none) (fun r k => p_f_X0_bestBundles_b7B hd0 k) jN
def f_X0_bestBundles (a0 : Int) (a1 : Int) (S : jSt) : Option (Int × jSt) :=
  f_X0_bestBundles_b7 a0 a1 0 0 1 S
theorem e_X0_bestBundles {G : jG} {d : Nat} {S0 : jSt} (hd0 : 2 ≤ d) (a0 : Int) (a1 : Int) (S : jSt) (h0 : 0 ≤ (a0)) (h1 : R32 (a1)) : J G yX0_bestBundles cX0_bestBundles 6 (some .int) d S0 0 [(0, 2, a0), (1, 0, a1)] [] S (f_X0_bestBundles a0 a1 S) := by
  unfold f_X0_bestBundles
  refine j_iconst dX0_bestBundles_0 ?_
  refine j_istore_n (lv' := [(2, 0, 0), (0, 2, a0), (1, 0, a1)]) dX0_bestBundles_1 rfl (Nat.le_of_ble_eq_true rfl) rfl ?_
  refine j_iconst dX0_bestBundles_2 ?_
  refine j_istore_n (lv' := [(3, 0, 0), (2, 0, 0), (0, 2, a0), (1, 0, a1)]) dX0_bestBundles_3 rfl (Nat.le_of_ble_eq_true rfl) rfl ?_
  refine j_iconst dX0_bestBundles_4 ?_
  refine j_istore (lv' := [(4, 0, 1), (3, 0, 0), (2, 0, 0), (0, 2, a0), (1, 0, a1)]) dX0_bestBundles_5 (Nat.le_of_ble_eq_true rfl) rfl ?_
  refine j_sub [3, 4, 2, 1, 0] rfl ?_
  exact p_f_X0_bestBundles_b7 hd0 a0 a1 0 0 1 S h0 h1 (jZ_R jz0) (jZ_R jz0) (jZ_R jz1)
theorem c_X0_bestBundles {G : jG} (a0 : Int) (a1 : Int) (S : jSt) (h0 : 0 ≤ (a0)) (h1 : R32 (a1)) : CT G yX0_bestBundles cX0_bestBundles 6 (some .int) 2 ([(2, a0), (0, a1)].map jval) S (f_X0_bestBundles a0 a1 S) := ct_of [(2, a0), (0, a1)] (by decide) rfl (Nat.le_of_ble_eq_true rfl) (e_X0_bestBundles (Nat.le_refl _) a0 a1 S h0 h1)
-- X1_saleFloor
def f_X1_saleFloor (a0 : Int) (S : jSt) : Option (Int × jSt) :=
  fget S a0 1 7 (fun v1 => some (imin v1 5, S))
theorem e_X1_saleFloor {G : jG} {d : Nat} {S0 : jSt} (hd0 : 1 ≤ d) (a0 : Int) (S : jSt) (h0 : 0 ≤ (a0)) : J G yX1_saleFloor cX1_saleFloor 1 (some .int) d S0 0 [(0, 2, a0)] [] S (f_X1_saleFloor a0 S) := by
  unfold f_X1_saleFloor
  refine j_aload_n 0 dX1_saleFloor_0 rfl rfl ?_
  refine j_get (ci := 1) (k := 7) (t := 0) rfl in_X1 (Nat.le_of_ble_eq_true rfl) rfl rfl fl_X1_43 dX1_saleFloor_1 (fun (v1 : Int) (hv1 : R32 (v1)) => ?_)
  refine j_iconst dX1_saleFloor_4 ?_
  refine j_mmin hv1 (j_r32 5 rfl) lx_X1_46 mx_s_mmin mx_i mx_c_mmin (Nat.le_of_ble_eq_true rfl) (Nat.le_trans (Nat.le_of_ble_eq_true rfl) hd0) dX1_saleFloor_5 ?_
  exact j_ireturn (imin_R hv1 (j_r32 5 rfl)) dX1_saleFloor_8
theorem c_X1_saleFloor {G : jG} (a0 : Int) (S : jSt) (h0 : 0 ≤ (a0)) : CT G yX1_saleFloor cX1_saleFloor 1 (some .int) 1 ([(2, a0)].map jval) S (f_X1_saleFloor a0 S) := ct_of [(2, a0)] (by decide) rfl (Nat.le_of_ble_eq_true rfl) (e_X1_saleFloor (Nat.le_refl _) a0 S h0)
-- X0_canBeKept
def f_X0_canBeKept_b59 (r3 : Int → Int → Int → Int → Int → jSt → Option (Int × jSt)) (r16 : Int → Int → Int → Int → Int → Int → Int → jSt → Option (Int × jSt)) (x0 : Int) (x1 : Int) (x2 : Int) (x3 : Int) (x4 : Int) (x5 : Int) (x6 : Int) (S : jSt) : Option (Int × jSt) :=
  flet (w32 (x6 + 1)) (fun v4 => r16 x0 x1 x2 x3 x4 x5 v4 S)
theorem p_f_X0_canBeKept_b59 {G : jG} {d : Nat} {S0 : jSt} (hd0 : 2 ≤ d) {r3 : Int → Int → Int → Int → Int → jSt → Option (Int × jSt)} (k3 : ∀ (x0 : Int) (x1 : Int) (x2 : Int) (x3 : Int) (x4 : Int) (S : jSt), (0 ≤ (x0)) → (0 ≤ (x1)) → (R32 (x2)) → (R32 (x3)) → (R32 (x4)) → J G yX0_canBeKept cX0_canBeKept 7 (some .boolean) d S0 3 [(0, 2, x0), (1, 2, x1), (2, 0, x2), (3, 0, x3), (4, 0, x4)] [] S (r3 x0 x1 x2 x3 x4 S)) {r16 : Int → Int → Int → Int → Int → Int → Int → jSt → Option (Int × jSt)} (k16 : ∀ (x0 : Int) (x1 : Int) (x2 : Int) (x3 : Int) (x4 : Int) (x5 : Int) (x6 : Int) (S : jSt), (0 ≤ (x0)) → (0 ≤ (x1)) → (R32 (x2)) → (R32 (x3)) → (R32 (x4)) → (R32 (x5)) → (R32 (x6)) → J G yX0_canBeKept cX0_canBeKept 7 (some .boolean) d S0 16 [(0, 2, x0), (1, 2, x1), (2, 0, x2), (3, 0, x3), (4, 0, x4), (5, 0, x5), (6, 0, x6)] [] S (r16 x0 x1 x2 x3 x4 x5 x6 S)) : ∀ (x0 : Int) (x1 : Int) (x2 : Int) (x3 : Int) (x4 : Int) (x5 : Int) (x6 : Int) (S : jSt), (0 ≤ (x0)) → (0 ≤ (x1)) → (R32 (x2)) → (R32 (x3)) → (R32 (x4)) → (R32 (x5)) → (R32 (x6)) → J G yX0_canBeKept cX0_canBeKept 7 (some .boolean) d S0 59 [(0, 2, x0), (1, 2, x1), (2, 0, x2), (3, 0, x3), (4, 0, x4), (5, 0, x5), (6, 0, x6)] [] S (f_X0_canBeKept_b59 r3 r16 x0 x1 x2 x3 x4 x5 x6 S) := by
  intro x0 x1 x2 x3 x4 x5 x6 S h0 h1 h2 h3 h4 h5 h6
  unfold f_X0_canBeKept_b59
  refine j_iincL (q := 6) dX0_canBeKept_59 rfl (Nat.le_of_ble_eq_true rfl) (fun v4 hv4 => ?_)
  refine j_lv (lv' := [(6, 0, v4), (0, 2, x0), (1, 2, x1), (2, 0, x2), (3, 0, x3), (4, 0, x4), (5, 0, x5)]) rfl ?_
  refine j_goto (tgt := 16) dX0_canBeKept_62 rfl ?_
  refine j_sub [1, 2, 3, 4, 5, 6, 0] rfl ?_
  exact k16 x0 x1 x2 x3 x4 x5 v4 S h0 h1 h2 h3 h4 h5 hv4
def f_X0_canBeKept_b16B (r3 : Int → Int → Int → Int → Int → jSt → Option (Int × jSt)) (r16 : Int → Int → Int → Int → Int → Int → Int → jSt → Option (Int × jSt)) (x0 : Int) (x1 : Int) (x2 : Int) (x3 : Int) (x4 : Int) (x5 : Int) (x6 : Int) (S : jSt) : Option (Int × jSt) :=
  fgetr S x0 0 7 (fun v1 => fget S v1 10 0 (fun v2 => if v2 ≤ x6 then if x5 ≤ (w32 (x3 * x4)) then flet (w32 (x4 + 1)) (fun v3 => r3 x0 x1 x2 x3 v3 S) else some (0, S) else if (iand32 (ishr32 x2 x6) 1) = 0 then f_X0_canBeKept_b59 r3 r16 x0 x1 x2 x3 x4 x5 x6 S else fgetr S x1 1 1 (fun v5 => fald S v5 x6 1 (fun v6 => fcallv S x1 1 (f_X1_saleFloor x1 S) (fun v7 S8 => if x4 < (w32 ((w32 (v6 - v7)) + 1)) then f_X0_canBeKept_b59 r3 r16 x0 x1 x2 x3 x4 x5 x6 S8 else flet (w32 (x5 + 1)) (fun v9 => f_X0_canBeKept_b59 r3 r16 x0 x1 x2 x3 x4 v9 x6 S8))))))
theorem p_f_X0_canBeKept_b16B {G : jG} {d : Nat} {S0 : jSt} (hd0 : 2 ≤ d) {r3 : Int → Int → Int → Int → Int → jSt → Option (Int × jSt)} (k3 : ∀ (x0 : Int) (x1 : Int) (x2 : Int) (x3 : Int) (x4 : Int) (S : jSt), (0 ≤ (x0)) → (0 ≤ (x1)) → (R32 (x2)) → (R32 (x3)) → (R32 (x4)) → J G yX0_canBeKept cX0_canBeKept 7 (some .boolean) d S0 3 [(0, 2, x0), (1, 2, x1), (2, 0, x2), (3, 0, x3), (4, 0, x4)] [] S (r3 x0 x1 x2 x3 x4 S)) {r16 : Int → Int → Int → Int → Int → Int → Int → jSt → Option (Int × jSt)} (k16 : ∀ (x0 : Int) (x1 : Int) (x2 : Int) (x3 : Int) (x4 : Int) (x5 : Int) (x6 : Int) (S : jSt), (0 ≤ (x0)) → (0 ≤ (x1)) → (R32 (x2)) → (R32 (x3)) → (R32 (x4)) → (R32 (x5)) → (R32 (x6)) → J G yX0_canBeKept cX0_canBeKept 7 (some .boolean) d S0 16 [(0, 2, x0), (1, 2, x1), (2, 0, x2), (3, 0, x3), (4, 0, x4), (5, 0, x5), (6, 0, x6)] [] S (r16 x0 x1 x2 x3 x4 x5 x6 S)) : ∀ (x0 : Int) (x1 : Int) (x2 : Int) (x3 : Int) (x4 : Int) (x5 : Int) (x6 : Int) (S : jSt), (0 ≤ (x0)) → (0 ≤ (x1)) → (R32 (x2)) → (R32 (x3)) → (R32 (x4)) → (R32 (x5)) → (R32 (x6)) → J G yX0_canBeKept cX0_canBeKept 7 (some .boolean) d S0 16 [(0, 2, x0), (1, 2, x1), (2, 0, x2), (3, 0, x3), (4, 0, x4), (5, 0, x5), (6, 0, x6)] [] S (f_X0_canBeKept_b16B r3 r16 x0 x1 x2 x3 x4 x5 x6 S) := by
  intro x0 x1 x2 x3 x4 x5 x6 S h0 h1 h2 h3 h4 h5 h6
  unfold f_X0_canBeKept_b16B
  refine j_iload 6 dX0_canBeKept_16 rfl ?_
  refine j_aload_n 0 dX0_canBeKept_18 rfl rfl ?_
  refine j_getr (ci := 0) (k := 7) rfl in_X0 (Nat.le_of_ble_eq_true rfl) rfl rfl fl_X0_18 dX0_canBeKept_19 (fun (v1 : Int) (hv1 : 0 ≤ v1) => ?_)
  refine j_get (ci := 10) (k := 0) (t := 0) rfl in_X10 (Nat.le_of_ble_eq_true rfl) rfl rfl fl_X0_40 dX0_canBeKept_22 (fun (v2 : Int) (hv2 : R32 (v2)) => ?_)
  refine j_icmp_ge (tgt := 65) h6 hv2 dX0_canBeKept_25 rfl (fun _ => ?_) (fun _ => ?_)
  · refine j_iload 5 dX0_canBeKept_65 rfl ?_
    refine j_iload_n 3 dX0_canBeKept_67 rfl rfl ?_
    refine j_iload 4 dX0_canBeKept_68 rfl ?_
    refine j_imul dX0_canBeKept_70 ?_
    refine j_icmp_le (tgt := 76) h5 (w32_R _) dX0_canBeKept_71 rfl (fun _ => ?_) (fun _ => ?_)
    · refine j_iincL (q := 4) dX0_canBeKept_76 rfl (Nat.le_of_ble_eq_true rfl) (fun v3 hv3 => ?_)
      refine j_lv (lv' := [(4, 0, v3), (0, 2, x0), (1, 2, x1), (2, 0, x2), (3, 0, x3), (5, 0, x5), (6, 0, x6)]) rfl ?_
      refine j_goto (tgt := 3) dX0_canBeKept_79 rfl ?_
      refine j_sub [1, 2, 3, 4, 0] rfl ?_
      exact k3 x0 x1 x2 x3 v3 S h0 h1 h2 h3 hv3
    · refine j_iconst dX0_canBeKept_74 ?_
      exact j_zreturn jz0 dX0_canBeKept_75
  · refine j_iload_n 2 dX0_canBeKept_28 rfl rfl ?_
    refine j_iload 6 dX0_canBeKept_29 rfl ?_
    refine j_ishr dX0_canBeKept_31 ?_
    refine j_iconst dX0_canBeKept_32 ?_
    refine j_iand dX0_canBeKept_33 ?_
    refine j_if_eq (tgt := 59) (iand32_R _ _) dX0_canBeKept_34 rfl (fun _ => ?_) (fun _ => ?_)
    · exact p_f_X0_canBeKept_b59 hd0 k3 k16 x0 x1 x2 x3 x4 x5 x6 S h0 h1 h2 h3 h4 h5 h6
    · refine j_aload_n 1 dX0_canBeKept_37 rfl rfl ?_
      refine j_getr (ci := 1) (k := 1) rfl in_X1 (Nat.le_of_ble_eq_true rfl) rfl rfl fl_X0_93 dX0_canBeKept_38 (fun (v5 : Int) (hv5 : 0 ≤ v5) => ?_)
      refine j_iload 6 dX0_canBeKept_41 rfl ?_
      refine j_iaload h6 dX0_canBeKept_43 (fun (v6 : Int) (hv6 : R32 (v6)) => ?_)
      refine j_aload_n 1 dX0_canBeKept_44 rfl rfl ?_
      refine j_callV (ci := 1) (As := []) (st := [(0, v6)]) kc_X1_saleFloor (c_X1_saleFloor x1 S h1) rfl lm_X0_96 ki_X1_saleFloor ke_X1_saleFloor rfl (Nat.le_of_ble_eq_true rfl) (Nat.le_trans (m := 2) (Nat.le_of_ble_eq_true rfl) hd0) dX0_canBeKept_45 (fun (v7 : Int) (S8 : jSt) (hv7 : R32 (v7)) => ?_)
      refine j_isub dX0_canBeKept_48 ?_
      refine j_iconst dX0_canBeKept_49 ?_
      refine j_iadd dX0_canBeKept_50 ?_
      refine j_iload 4 dX0_canBeKept_51 rfl ?_
      refine j_icmp_gt (tgt := 59) (w32_R _) h4 dX0_canBeKept_53 rfl (fun _ => ?_) (fun _ => ?_)
      · exact p_f_X0_canBeKept_b59 hd0 k3 k16 x0 x1 x2 x3 x4 x5 x6 S8 h0 h1 h2 h3 h4 h5 h6
      · refine j_iincL (q := 5) dX0_canBeKept_56 rfl (Nat.le_of_ble_eq_true rfl) (fun v9 hv9 => ?_)
        refine j_lv (lv' := [(5, 0, v9), (0, 2, x0), (1, 2, x1), (2, 0, x2), (3, 0, x3), (4, 0, x4), (6, 0, x6)]) rfl ?_
        refine j_sub [1, 2, 3, 4, 5, 0, 6] rfl ?_
        exact p_f_X0_canBeKept_b59 hd0 k3 k16 x0 x1 x2 x3 x4 v9 x6 S8 h0 h1 h2 h3 h4 hv9 h6
def f_X0_canBeKept_b16 (r3 : Int → Int → Int → Int → Int → jSt → Option (Int × jSt)) : Int → Int → Int → Int → Int → Int → Int → jSt → Option (Int × jSt) := jrep (β := Int → Int → Int → Int → Int → Int → Int → jSt → Option (Int × jSt)) (fun _ _ _ _ _ _ _ _ => none) (fun r => f_X0_canBeKept_b16B r3 r) jN
theorem p_f_X0_canBeKept_b16 {G : jG} {d : Nat} {S0 : jSt} (hd0 : 2 ≤ d) {r3 : Int → Int → Int → Int → Int → jSt → Option (Int × jSt)} (k3 : ∀ (x0 : Int) (x1 : Int) (x2 : Int) (x3 : Int) (x4 : Int) (S : jSt), (0 ≤ (x0)) → (0 ≤ (x1)) → (R32 (x2)) → (R32 (x3)) → (R32 (x4)) → J G yX0_canBeKept cX0_canBeKept 7 (some .boolean) d S0 3 [(0, 2, x0), (1, 2, x1), (2, 0, x2), (3, 0, x3), (4, 0, x4)] [] S (r3 x0 x1 x2 x3 x4 S)) : ∀ (x0 : Int) (x1 : Int) (x2 : Int) (x3 : Int) (x4 : Int) (x5 : Int) (x6 : Int) (S : jSt), (0 ≤ (x0)) → (0 ≤ (x1)) → (R32 (x2)) → (R32 (x3)) → (R32 (x4)) → (R32 (x5)) → (R32 (x6)) → J G yX0_canBeKept cX0_canBeKept 7 (some .boolean) d S0 16 [(0, 2, x0), (1, 2, x1), (2, 0, x2), (3, 0, x3), (4, 0, x4), (5, 0, x5), (6, 0, x6)] [] S (f_X0_canBeKept_b16 r3 x0 x1 x2 x3 x4 x5 x6 S) :=
  jrep_ind (P := fun (r : Int → Int → Int → Int → Int → Int → Int → jSt → Option (Int × jSt)) => ∀ (x0 : Int) (x1 : Int) (x2 : Int) (x3 : Int) (x4 : Int) (x5 : Int) (x6 : Int) (S : jSt), (0 ≤ (x0)) → (0 ≤ (x1)) → (R32 (x2)) → (R32 (x3)) → (R32 (x4)) → (R32 (x5)) → (R32 (x6)) → J G yX0_canBeKept cX0_canBeKept 7 (some .boolean) d S0 16 [(0, 2, x0), (1, 2, x1), (2, 0, x2), (3, 0, x3), (4, 0, x4), (5, 0, x5), (6, 0, x6)] [] S (r x0 x1 x2 x3 x4 x5 x6 S)) (by intros; exact j_none) (fun r k => p_f_X0_canBeKept_b16B hd0 k3 k) jN
def f_X0_canBeKept_b3B (r3 : Int → Int → Int → Int → Int → jSt → Option (Int × jSt)) (x0 : Int) (x1 : Int) (x2 : Int) (x3 : Int) (x4 : Int) (S : jSt) : Option (Int × jSt) :=
  if 6 < x4 then some (1, S) else f_X0_canBeKept_b16 r3 x0 x1 x2 x3 x4 0 0 S
theorem p_f_X0_canBeKept_b3B {G : jG} {d : Nat} {S0 : jSt} (hd0 : 2 ≤ d) {r3 : Int → Int → Int → Int → Int → jSt → Option (Int × jSt)} (k3 : ∀ (x0 : Int) (x1 : Int) (x2 : Int) (x3 : Int) (x4 : Int) (S : jSt), (0 ≤ (x0)) → (0 ≤ (x1)) → (R32 (x2)) → (R32 (x3)) → (R32 (x4)) → J G yX0_canBeKept cX0_canBeKept 7 (some .boolean) d S0 3 [(0, 2, x0), (1, 2, x1), (2, 0, x2), (3, 0, x3), (4, 0, x4)] [] S (r3 x0 x1 x2 x3 x4 S)) : ∀ (x0 : Int) (x1 : Int) (x2 : Int) (x3 : Int) (x4 : Int) (S : jSt), (0 ≤ (x0)) → (0 ≤ (x1)) → (R32 (x2)) → (R32 (x3)) → (R32 (x4)) → J G yX0_canBeKept cX0_canBeKept 7 (some .boolean) d S0 3 [(0, 2, x0), (1, 2, x1), (2, 0, x2), (3, 0, x3), (4, 0, x4)] [] S (f_X0_canBeKept_b3B r3 x0 x1 x2 x3 x4 S) := by
  intro x0 x1 x2 x3 x4 S h0 h1 h2 h3 h4
  unfold f_X0_canBeKept_b3B
  refine j_iload 4 dX0_canBeKept_3 rfl ?_
  refine j_bipush dX0_canBeKept_5 (by decide) ?_
  refine j_icmp_gt (tgt := 82) h4 (j_r32 6 rfl) dX0_canBeKept_7 rfl (fun _ => ?_) (fun _ => ?_)
  · refine j_iconst dX0_canBeKept_82 ?_
    exact j_zreturn jz1 dX0_canBeKept_83
  · refine j_iconst dX0_canBeKept_10 ?_
    refine j_istore (lv' := [(5, 0, 0), (0, 2, x0), (1, 2, x1), (2, 0, x2), (3, 0, x3), (4, 0, x4)]) dX0_canBeKept_11 (Nat.le_of_ble_eq_true rfl) rfl ?_
    refine j_iconst dX0_canBeKept_13 ?_
    refine j_istore (lv' := [(6, 0, 0), (5, 0, 0), (0, 2, x0), (1, 2, x1), (2, 0, x2), (3, 0, x3), (4, 0, x4)]) dX0_canBeKept_14 (Nat.le_of_ble_eq_true rfl) rfl ?_
    refine j_sub [2, 3, 4, 5, 6, 1, 0] rfl ?_
    exact p_f_X0_canBeKept_b16 hd0 k3 x0 x1 x2 x3 x4 0 0 S h0 h1 h2 h3 h4 (jZ_R jz0) (jZ_R jz0)
def f_X0_canBeKept_b3 : Int → Int → Int → Int → Int → jSt → Option (Int × jSt) := jrep (β := Int → Int → Int → Int → Int → jSt → Option (Int × jSt)) (fun _ _ _ _ _ _ => none) (fun r => f_X0_canBeKept_b3B r) jN
theorem p_f_X0_canBeKept_b3 {G : jG} {d : Nat} {S0 : jSt} (hd0 : 2 ≤ d) : ∀ (x0 : Int) (x1 : Int) (x2 : Int) (x3 : Int) (x4 : Int) (S : jSt), (0 ≤ (x0)) → (0 ≤ (x1)) → (R32 (x2)) → (R32 (x3)) → (R32 (x4)) → J G yX0_canBeKept cX0_canBeKept 7 (some .boolean) d S0 3 [(0, 2, x0), (1, 2, x1), (2, 0, x2), (3, 0, x3), (4, 0, x4)] [] S (f_X0_canBeKept_b3  x0 x1 x2 x3 x4 S) :=
  jrep_ind (P := fun (r : Int → Int → Int → Int → Int → jSt → Option (Int × jSt)) => ∀ (x0 : Int) (x1 : Int) (x2 : Int) (x3 : Int) (x4 : Int) (S : jSt), (0 ≤ (x0)) → (0 ≤ (x1)) → (R32 (x2)) → (R32 (x3)) → (R32 (x4)) → J G yX0_canBeKept cX0_canBeKept 7 (some .boolean) d S0 3 [(0, 2, x0), (1, 2, x1), (2, 0, x2), (3, 0, x3), (4, 0, x4)] [] S (r x0 x1 x2 x3 x4 S)) (by intros; exact j_none) (fun r k => p_f_X0_canBeKept_b3B hd0 k) jN
def f_X0_canBeKept (a0 : Int) (a1 : Int) (a2 : Int) (a3 : Int) (S : jSt) : Option (Int × jSt) :=
  f_X0_canBeKept_b3 a0 a1 a2 a3 1 S
theorem e_X0_canBeKept {G : jG} {d : Nat} {S0 : jSt} (hd0 : 2 ≤ d) (a0 : Int) (a1 : Int) (a2 : Int) (a3 : Int) (S : jSt) (h0 : 0 ≤ (a0)) (h1 : 0 ≤ (a1)) (h2 : R32 (a2)) (h3 : R32 (a3)) : J G yX0_canBeKept cX0_canBeKept 7 (some .boolean) d S0 0 [(0, 2, a0), (1, 2, a1), (2, 0, a2), (3, 0, a3)] [] S (f_X0_canBeKept a0 a1 a2 a3 S) := by
  unfold f_X0_canBeKept
  refine j_iconst dX0_canBeKept_0 ?_
  refine j_istore (lv' := [(4, 0, 1), (0, 2, a0), (1, 2, a1), (2, 0, a2), (3, 0, a3)]) dX0_canBeKept_1 (Nat.le_of_ble_eq_true rfl) rfl ?_
  refine j_sub [1, 2, 3, 4, 0] rfl ?_
  exact p_f_X0_canBeKept_b3 hd0 a0 a1 a2 a3 1 S h0 h1 h2 h3 (jZ_R jz1)
theorem c_X0_canBeKept {G : jG} (a0 : Int) (a1 : Int) (a2 : Int) (a3 : Int) (S : jSt) (h0 : 0 ≤ (a0)) (h1 : 0 ≤ (a1)) (h2 : R32 (a2)) (h3 : R32 (a3)) : CT G yX0_canBeKept cX0_canBeKept 7 (some .boolean) 2 ([(2, a0), (2, a1), (0, a2), (0, a3)].map jval) S (f_X0_canBeKept a0 a1 a2 a3 S) := ct_of [(2, a0), (2, a1), (0, a2), (0, a3)] (by decide) rfl (Nat.le_of_ble_eq_true rfl) (e_X0_canBeKept (Nat.le_refl _) a0 a1 a2 a3 S h0 h1 h2 h3)
-- X0_dearestUntried
def f_X0_dearestUntried_b95 (r8 : Int → Int → Int → Int → Int → Int → jSt → Option (Int × jSt)) (x0 : Int) (x1 : Int) (x2 : Int) (x3 : Int) (x4 : Int) (x5 : Int) (S : jSt) : Option (Int × jSt) :=
  flet (w32 (x5 + 1)) (fun v3 => r8 x0 x1 x2 x3 x4 v3 S)
theorem p_f_X0_dearestUntried_b95 {G : jG} {d : Nat} {S0 : jSt} (hd0 : 2 ≤ d) {r8 : Int → Int → Int → Int → Int → Int → jSt → Option (Int × jSt)} (k8 : ∀ (x0 : Int) (x1 : Int) (x2 : Int) (x3 : Int) (x4 : Int) (x5 : Int) (S : jSt), (0 ≤ (x0)) → (0 ≤ (x1)) → (R32 (x2)) → (R32 (x3)) → (R32 (x4)) → (R32 (x5)) → J G yX0_dearestUntried cX0_dearestUntried 7 (some .int) d S0 8 [(0, 2, x0), (1, 2, x1), (2, 0, x2), (3, 0, x3), (4, 0, x4), (5, 0, x5)] [] S (r8 x0 x1 x2 x3 x4 x5 S)) : ∀ (x0 : Int) (x1 : Int) (x2 : Int) (x3 : Int) (x4 : Int) (x5 : Int) (S : jSt), (0 ≤ (x0)) → (0 ≤ (x1)) → (R32 (x2)) → (R32 (x3)) → (R32 (x4)) → (R32 (x5)) → J G yX0_dearestUntried cX0_dearestUntried 7 (some .int) d S0 95 [(0, 2, x0), (1, 2, x1), (2, 0, x2), (3, 0, x3), (4, 0, x4), (5, 0, x5)] [] S (f_X0_dearestUntried_b95 r8 x0 x1 x2 x3 x4 x5 S) := by
  intro x0 x1 x2 x3 x4 x5 S h0 h1 h2 h3 h4 h5
  unfold f_X0_dearestUntried_b95
  refine j_iincL (q := 5) dX0_dearestUntried_95 rfl (Nat.le_of_ble_eq_true rfl) (fun v3 hv3 => ?_)
  refine j_lv (lv' := [(5, 0, v3), (0, 2, x0), (1, 2, x1), (2, 0, x2), (3, 0, x3), (4, 0, x4)]) rfl ?_
  refine j_goto (tgt := 8) dX0_dearestUntried_98 rfl ?_
  refine j_sub [1, 2, 3, 4, 5, 0] rfl ?_
  exact k8 x0 x1 x2 x3 x4 v3 S h0 h1 h2 h3 h4 hv3
def f_X0_dearestUntried_b58 (r8 : Int → Int → Int → Int → Int → Int → jSt → Option (Int × jSt)) (x0 : Int) (x1 : Int) (x2 : Int) (x3 : Int) (x4 : Int) (x5 : Int) (x6 : Int) (S : jSt) : Option (Int × jSt) :=
  if x6 = 0 then f_X0_dearestUntried_b95 r8 x0 x1 x2 x3 x4 x5 S else fgetr S x0 0 7 (fun v4 => fgetr S v4 10 2 (fun v5 => fald S v5 x5 1 (fun v6 => if v6 ≤ x4 then f_X0_dearestUntried_b95 r8 x0 x1 x2 x3 x4 x5 S else fgetr S x0 0 7 (fun v7 => fgetr S v7 10 2 (fun v8 => fald S v8 x5 1 (fun v9 => f_X0_dearestUntried_b95 r8 x0 x1 x2 x5 v9 x5 S))))))
theorem p_f_X0_dearestUntried_b58 {G : jG} {d : Nat} {S0 : jSt} (hd0 : 2 ≤ d) {r8 : Int → Int → Int → Int → Int → Int → jSt → Option (Int × jSt)} (k8 : ∀ (x0 : Int) (x1 : Int) (x2 : Int) (x3 : Int) (x4 : Int) (x5 : Int) (S : jSt), (0 ≤ (x0)) → (0 ≤ (x1)) → (R32 (x2)) → (R32 (x3)) → (R32 (x4)) → (R32 (x5)) → J G yX0_dearestUntried cX0_dearestUntried 7 (some .int) d S0 8 [(0, 2, x0), (1, 2, x1), (2, 0, x2), (3, 0, x3), (4, 0, x4), (5, 0, x5)] [] S (r8 x0 x1 x2 x3 x4 x5 S)) : ∀ (x0 : Int) (x1 : Int) (x2 : Int) (x3 : Int) (x4 : Int) (x5 : Int) (x6 : Int) (S : jSt), (0 ≤ (x0)) → (0 ≤ (x1)) → (R32 (x2)) → (R32 (x3)) → (R32 (x4)) → (R32 (x5)) → ((x6) = 0 ∨ (x6) = 1) → J G yX0_dearestUntried cX0_dearestUntried 7 (some .int) d S0 58 [(0, 2, x0), (1, 2, x1), (2, 0, x2), (3, 0, x3), (4, 0, x4), (5, 0, x5)] [(0, x6)] S (f_X0_dearestUntried_b58 r8 x0 x1 x2 x3 x4 x5 x6 S) := by
  intro x0 x1 x2 x3 x4 x5 x6 S h0 h1 h2 h3 h4 h5 h6
  unfold f_X0_dearestUntried_b58
  refine j_istore (lv' := [(6, 0, x6), (0, 2, x0), (1, 2, x1), (2, 0, x2), (3, 0, x3), (4, 0, x4), (5, 0, x5)]) dX0_dearestUntried_58 (Nat.le_of_ble_eq_true rfl) rfl ?_
  refine j_iload 0 dX0_dearestUntried_60 rfl ?_
  refine j_if_eq (tgt := 95) (jZ_R h6) dX0_dearestUntried_62 rfl (fun _ => ?_) (fun _ => ?_)
  · refine j_sub [1, 2, 3, 4, 5, 6] rfl ?_
    exact p_f_X0_dearestUntried_b95 hd0 k8 x0 x1 x2 x3 x4 x5 S h0 h1 h2 h3 h4 h5
  · refine j_aload_n 1 dX0_dearestUntried_65 rfl rfl ?_
    refine j_getr (ci := 0) (k := 7) rfl in_X0 (Nat.le_of_ble_eq_true rfl) rfl rfl fl_X0_18 dX0_dearestUntried_66 (fun (v4 : Int) (hv4 : 0 ≤ v4) => ?_)
    refine j_getr (ci := 10) (k := 2) rfl in_X10 (Nat.le_of_ble_eq_true rfl) rfl rfl fl_X0_100 dX0_dearestUntried_69 (fun (v5 : Int) (hv5 : 0 ≤ v5) => ?_)
    refine j_iload 6 dX0_dearestUntried_72 rfl ?_
    refine j_iaload h5 dX0_dearestUntried_74 (fun (v6 : Int) (hv6 : R32 (v6)) => ?_)
    refine j_iload 5 dX0_dearestUntried_75 rfl ?_
    refine j_icmp_le (tgt := 95) hv6 h4 dX0_dearestUntried_77 rfl (fun _ => ?_) (fun _ => ?_)
    · refine j_sub [1, 2, 3, 4, 5, 6] rfl ?_
      exact p_f_X0_dearestUntried_b95 hd0 k8 x0 x1 x2 x3 x4 x5 S h0 h1 h2 h3 h4 h5
    · refine j_aload_n 1 dX0_dearestUntried_80 rfl rfl ?_
      refine j_getr (ci := 0) (k := 7) rfl in_X0 (Nat.le_of_ble_eq_true rfl) rfl rfl fl_X0_18 dX0_dearestUntried_81 (fun (v7 : Int) (hv7 : 0 ≤ v7) => ?_)
      refine j_getr (ci := 10) (k := 2) rfl in_X10 (Nat.le_of_ble_eq_true rfl) rfl rfl fl_X0_100 dX0_dearestUntried_84 (fun (v8 : Int) (hv8 : 0 ≤ v8) => ?_)
      refine j_iload 6 dX0_dearestUntried_87 rfl ?_
      refine j_iaload h5 dX0_dearestUntried_89 (fun (v9 : Int) (hv9 : R32 (v9)) => ?_)
      refine j_istore (lv' := [(4, 0, v9), (6, 0, x6), (0, 2, x0), (1, 2, x1), (2, 0, x2), (3, 0, x3), (5, 0, x5)]) dX0_dearestUntried_90 (Nat.le_of_ble_eq_true rfl) rfl ?_
      refine j_iload 6 dX0_dearestUntried_92 rfl ?_
      refine j_istore_n (lv' := [(3, 0, x5), (4, 0, v9), (6, 0, x6), (0, 2, x0), (1, 2, x1), (2, 0, x2), (5, 0, x5)]) dX0_dearestUntried_94 rfl (Nat.le_of_ble_eq_true rfl) rfl ?_
      refine j_sub [3, 4, 5, 0, 1, 6] rfl ?_
      exact p_f_X0_dearestUntried_b95 hd0 k8 x0 x1 x2 x5 v9 x5 S h0 h1 h2 h5 hv9 h5
def f_X0_dearestUntried_b57 (r8 : Int → Int → Int → Int → Int → Int → jSt → Option (Int × jSt)) (x0 : Int) (x1 : Int) (x2 : Int) (x3 : Int) (x4 : Int) (x5 : Int) (S : jSt) : Option (Int × jSt) :=
  f_X0_dearestUntried_b58 r8 x0 x1 x2 x3 x4 x5 0 S
theorem p_f_X0_dearestUntried_b57 {G : jG} {d : Nat} {S0 : jSt} (hd0 : 2 ≤ d) {r8 : Int → Int → Int → Int → Int → Int → jSt → Option (Int × jSt)} (k8 : ∀ (x0 : Int) (x1 : Int) (x2 : Int) (x3 : Int) (x4 : Int) (x5 : Int) (S : jSt), (0 ≤ (x0)) → (0 ≤ (x1)) → (R32 (x2)) → (R32 (x3)) → (R32 (x4)) → (R32 (x5)) → J G yX0_dearestUntried cX0_dearestUntried 7 (some .int) d S0 8 [(0, 2, x0), (1, 2, x1), (2, 0, x2), (3, 0, x3), (4, 0, x4), (5, 0, x5)] [] S (r8 x0 x1 x2 x3 x4 x5 S)) : ∀ (x0 : Int) (x1 : Int) (x2 : Int) (x3 : Int) (x4 : Int) (x5 : Int) (S : jSt), (0 ≤ (x0)) → (0 ≤ (x1)) → (R32 (x2)) → (R32 (x3)) → (R32 (x4)) → (R32 (x5)) → J G yX0_dearestUntried cX0_dearestUntried 7 (some .int) d S0 57 [(0, 2, x0), (1, 2, x1), (2, 0, x2), (3, 0, x3), (4, 0, x4), (5, 0, x5)] [] S (f_X0_dearestUntried_b57 r8 x0 x1 x2 x3 x4 x5 S) := by
  intro x0 x1 x2 x3 x4 x5 S h0 h1 h2 h3 h4 h5
  unfold f_X0_dearestUntried_b57
  refine j_iconst dX0_dearestUntried_57 ?_
  exact p_f_X0_dearestUntried_b58 hd0 k8 x0 x1 x2 x3 x4 x5 0 S h0 h1 h2 h3 h4 h5 jz0
def f_X0_dearestUntried_b8B (r8 : Int → Int → Int → Int → Int → Int → jSt → Option (Int × jSt)) (x0 : Int) (x1 : Int) (x2 : Int) (x3 : Int) (x4 : Int) (x5 : Int) (S : jSt) : Option (Int × jSt) :=
  fgetr S x0 0 7 (fun v1 => fget S v1 10 0 (fun v2 => if v2 ≤ x5 then some (x3, S) else if (iand32 (ishr32 x2 x5) 1) = 0 then fgetr S x1 1 0 (fun v10 => fald S v10 x5 1 (fun v11 => if v11 = 0 then fgetr S x1 1 1 (fun v12 => fald S v12 x5 1 (fun v13 => fcallv S x1 1 (f_X1_saleFloor x1 S) (fun v14 S15 => if v13 < v14 then f_X0_dearestUntried_b57 r8 x0 x1 x2 x3 x4 x5 S15 else f_X0_dearestUntried_b58 r8 x0 x1 x2 x3 x4 x5 1 S15))) else f_X0_dearestUntried_b57 r8 x0 x1 x2 x3 x4 x5 S)) else f_X0_dearestUntried_b57 r8 x0 x1 x2 x3 x4 x5 S))
theorem p_f_X0_dearestUntried_b8B {G : jG} {d : Nat} {S0 : jSt} (hd0 : 2 ≤ d) {r8 : Int → Int → Int → Int → Int → Int → jSt → Option (Int × jSt)} (k8 : ∀ (x0 : Int) (x1 : Int) (x2 : Int) (x3 : Int) (x4 : Int) (x5 : Int) (S : jSt), (0 ≤ (x0)) → (0 ≤ (x1)) → (R32 (x2)) → (R32 (x3)) → (R32 (x4)) → (R32 (x5)) → J G yX0_dearestUntried cX0_dearestUntried 7 (some .int) d S0 8 [(0, 2, x0), (1, 2, x1), (2, 0, x2), (3, 0, x3), (4, 0, x4), (5, 0, x5)] [] S (r8 x0 x1 x2 x3 x4 x5 S)) : ∀ (x0 : Int) (x1 : Int) (x2 : Int) (x3 : Int) (x4 : Int) (x5 : Int) (S : jSt), (0 ≤ (x0)) → (0 ≤ (x1)) → (R32 (x2)) → (R32 (x3)) → (R32 (x4)) → (R32 (x5)) → J G yX0_dearestUntried cX0_dearestUntried 7 (some .int) d S0 8 [(0, 2, x0), (1, 2, x1), (2, 0, x2), (3, 0, x3), (4, 0, x4), (5, 0, x5)] [] S (f_X0_dearestUntried_b8B r8 x0 x1 x2 x3 x4 x5 S) := by
  intro x0 x1 x2 x3 x4 x5 S h0 h1 h2 h3 h4 h5
  unfold f_X0_dearestUntried_b8B
  refine j_iload 5 dX0_dearestUntried_8 rfl ?_
  refine j_aload_n 0 dX0_dearestUntried_10 rfl rfl ?_
  refine j_getr (ci := 0) (k := 7) rfl in_X0 (Nat.le_of_ble_eq_true rfl) rfl rfl fl_X0_18 dX0_dearestUntried_11 (fun (v1 : Int) (hv1 : 0 ≤ v1) => ?_)
  refine j_get (ci := 10) (k := 0) (t := 0) rfl in_X10 (Nat.le_of_ble_eq_true rfl) rfl rfl fl_X0_40 dX0_dearestUntried_14 (fun (v2 : Int) (hv2 : R32 (v2)) => ?_)
  refine j_icmp_ge (tgt := 101) h5 hv2 dX0_dearestUntried_17 rfl (fun _ => ?_) (fun _ => ?_)
  · refine j_iload_n 3 dX0_dearestUntried_101 rfl rfl ?_
    exact j_ireturn h3 dX0_dearestUntried_102
  · refine j_iload_n 2 dX0_dearestUntried_20 rfl rfl ?_
    refine j_iload 5 dX0_dearestUntried_21 rfl ?_
    refine j_ishr dX0_dearestUntried_23 ?_
    refine j_iconst dX0_dearestUntried_24 ?_
    refine j_iand dX0_dearestUntried_25 ?_
    refine j_if_ne (tgt := 57) (iand32_R _ _) dX0_dearestUntried_26 rfl (fun _ => ?_) (fun _ => ?_)
    · exact p_f_X0_dearestUntried_b57 hd0 k8 x0 x1 x2 x3 x4 x5 S h0 h1 h2 h3 h4 h5
    · refine j_aload_n 1 dX0_dearestUntried_29 rfl rfl ?_
      refine j_getr (ci := 1) (k := 0) rfl in_X1 (Nat.le_of_ble_eq_true rfl) rfl rfl fl_X0_62 dX0_dearestUntried_30 (fun (v10 : Int) (hv10 : 0 ≤ v10) => ?_)
      refine j_iload 5 dX0_dearestUntried_33 rfl ?_
      refine j_iaload h5 dX0_dearestUntried_35 (fun (v11 : Int) (hv11 : R32 (v11)) => ?_)
      refine j_if_ne (tgt := 57) hv11 dX0_dearestUntried_36 rfl (fun _ => ?_) (fun _ => ?_)
      · exact p_f_X0_dearestUntried_b57 hd0 k8 x0 x1 x2 x3 x4 x5 S h0 h1 h2 h3 h4 h5
      · refine j_aload_n 1 dX0_dearestUntried_39 rfl rfl ?_
        refine j_getr (ci := 1) (k := 1) rfl in_X1 (Nat.le_of_ble_eq_true rfl) rfl rfl fl_X0_93 dX0_dearestUntried_40 (fun (v12 : Int) (hv12 : 0 ≤ v12) => ?_)
        refine j_iload 5 dX0_dearestUntried_43 rfl ?_
        refine j_iaload h5 dX0_dearestUntried_45 (fun (v13 : Int) (hv13 : R32 (v13)) => ?_)
        refine j_aload_n 1 dX0_dearestUntried_46 rfl rfl ?_
        refine j_callV (ci := 1) (As := []) (st := [(0, v13)]) kc_X1_saleFloor (c_X1_saleFloor x1 S h1) rfl lm_X0_96 ki_X1_saleFloor ke_X1_saleFloor rfl (Nat.le_of_ble_eq_true rfl) (Nat.le_trans (m := 2) (Nat.le_of_ble_eq_true rfl) hd0) dX0_dearestUntried_47 (fun (v14 : Int) (S15 : jSt) (hv14 : R32 (v14)) => ?_)
        refine j_icmp_lt (tgt := 57) hv13 hv14 dX0_dearestUntried_50 rfl (fun _ => ?_) (fun _ => ?_)
        · exact p_f_X0_dearestUntried_b57 hd0 k8 x0 x1 x2 x3 x4 x5 S15 h0 h1 h2 h3 h4 h5
        · refine j_iconst dX0_dearestUntried_53 ?_
          refine j_goto (tgt := 58) dX0_dearestUntried_54 rfl ?_
          exact p_f_X0_dearestUntried_b58 hd0 k8 x0 x1 x2 x3 x4 x5 1 S15 h0 h1 h2 h3 h4 h5 jz1
def f_X0_dearestUntried_b8 : Int → Int → Int → Int → Int → Int → jSt → Option (Int × jSt) := jrep (β := Int → Int → Int → Int → Int → Int → jSt → Option (Int × jSt)) (fun _ _ _ _ _ _ _ => none) (fun r => f_X0_dearestUntried_b8B r) jN
theorem p_f_X0_dearestUntried_b8 {G : jG} {d : Nat} {S0 : jSt} (hd0 : 2 ≤ d) : ∀ (x0 : Int) (x1 : Int) (x2 : Int) (x3 : Int) (x4 : Int) (x5 : Int) (S : jSt), (0 ≤ (x0)) → (0 ≤ (x1)) → (R32 (x2)) → (R32 (x3)) → (R32 (x4)) → (R32 (x5)) → J G yX0_dearestUntried cX0_dearestUntried 7 (some .int) d S0 8 [(0, 2, x0), (1, 2, x1), (2, 0, x2), (3, 0, x3), (4, 0, x4), (5, 0, x5)] [] S (f_X0_dearestUntried_b8  x0 x1 x2 x3 x4 x5 S) :=
  jrep_ind (P := fun (r : Int → Int → Int → Int → Int → Int → jSt → Option (Int × jSt)) => ∀ (x0 : Int) (x1 : Int) (x2 : Int) (x3 : Int) (x4 : Int) (x5 : Int) (S : jSt), (0 ≤ (x0)) → (0 ≤ (x1)) → (R32 (x2)) → (R32 (x3)) → (R32 (x4)) → (R32 (x5)) → J G yX0_dearestUntried cX0_dearestUntried 7 (some .int) d S0 8 [(0, 2, x0), (1, 2, x1), (2, 0, x2), (3, 0, x3), (4, 0, x4), (5, 0, x5)] [] S (r x0 x1 x2 x3 x4 x5 S)) (by intros; exact j_none) (fun r k => p_f_X0_dearestUntried_b8B hd0 k) jN
def f_X0_dearestUntried (a0 : Int) (a1 : Int) (a2 : Int) (S : jSt) : Option (Int × jSt) :=
  f_X0_dearestUntried_b8 a0 a1 a2 (-1) 0 0 S
theorem e_X0_dearestUntried {G : jG} {d : Nat} {S0 : jSt} (hd0 : 2 ≤ d) (a0 : Int) (a1 : Int) (a2 : Int) (S : jSt) (h0 : 0 ≤ (a0)) (h1 : 0 ≤ (a1)) (h2 : R32 (a2)) : J G yX0_dearestUntried cX0_dearestUntried 7 (some .int) d S0 0 [(0, 2, a0), (1, 2, a1), (2, 0, a2)] [] S (f_X0_dearestUntried a0 a1 a2 S) := by
  unfold f_X0_dearestUntried
  refine j_iconst dX0_dearestUntried_0 ?_
  refine j_istore_n (lv' := [(3, 0, (-1)), (0, 2, a0), (1, 2, a1), (2, 0, a2)]) dX0_dearestUntried_1 rfl (Nat.le_of_ble_eq_true rfl) rfl ?_
  refine j_iconst dX0_dearestUntried_2 ?_
  refine j_istore (lv' := [(4, 0, 0), (3, 0, (-1)), (0, 2, a0), (1, 2, a1), (2, 0, a2)]) dX0_dearestUntried_3 (Nat.le_of_ble_eq_true rfl) rfl ?_
  refine j_iconst dX0_dearestUntried_5 ?_
  refine j_istore (lv' := [(5, 0, 0), (4, 0, 0), (3, 0, (-1)), (0, 2, a0), (1, 2, a1), (2, 0, a2)]) dX0_dearestUntried_6 (Nat.le_of_ble_eq_true rfl) rfl ?_
  refine j_sub [3, 4, 5, 2, 1, 0] rfl ?_
  exact p_f_X0_dearestUntried_b8 hd0 a0 a1 a2 (-1) 0 0 S h0 h1 h2 (j_r32 (-1) rfl) (jZ_R jz0) (jZ_R jz0)
theorem c_X0_dearestUntried {G : jG} (a0 : Int) (a1 : Int) (a2 : Int) (S : jSt) (h0 : 0 ≤ (a0)) (h1 : 0 ≤ (a1)) (h2 : R32 (a2)) : CT G yX0_dearestUntried cX0_dearestUntried 7 (some .int) 2 ([(2, a0), (2, a1), (0, a2)].map jval) S (f_X0_dearestUntried a0 a1 a2 S) := ct_of [(2, a0), (2, a1), (0, a2)] (by decide) rfl (Nat.le_of_ble_eq_true rfl) (e_X0_dearestUntried (Nat.le_refl _) a0 a1 a2 S h0 h1 h2)
-- X0_bestKept
def f_X0_bestKept_b68 (r8 : Int → Int → Int → Int → Int → Int → jSt → Option (Int × jSt)) (x0 : Int) (x1 : Int) (x2 : Int) (x3 : Int) (x4 : Int) (x5 : Int) (S : jSt) : Option (Int × jSt) :=
  flet (w32 (x5 + 1)) (fun v8 => r8 x0 x1 x2 x3 x4 v8 S)
theorem p_f_X0_bestKept_b68 {G : jG} {d : Nat} {S0 : jSt} (hd0 : 3 ≤ d) {r8 : Int → Int → Int → Int → Int → Int → jSt → Option (Int × jSt)} (k8 : ∀ (x0 : Int) (x1 : Int) (x2 : Int) (x3 : Int) (x4 : Int) (x5 : Int) (S : jSt), (0 ≤ (x0)) → (0 ≤ (x1)) → (R32 (x2)) → (R32 (x3)) → (R32 (x4)) → (R32 (x5)) → J G yX0_bestKept cX0_bestKept 7 (some .int) d S0 8 [(0, 2, x0), (1, 2, x1), (2, 0, x2), (3, 0, x3), (4, 0, x4), (5, 0, x5)] [] S (r8 x0 x1 x2 x3 x4 x5 S)) : ∀ (x0 : Int) (x1 : Int) (x2 : Int) (x3 : Int) (x4 : Int) (x5 : Int) (S : jSt), (0 ≤ (x0)) → (0 ≤ (x1)) → (R32 (x2)) → (R32 (x3)) → (R32 (x4)) → (R32 (x5)) → J G yX0_bestKept cX0_bestKept 7 (some .int) d S0 68 [(0, 2, x0), (1, 2, x1), (2, 0, x2), (3, 0, x3), (4, 0, x4), (5, 0, x5)] [] S (f_X0_bestKept_b68 r8 x0 x1 x2 x3 x4 x5 S) := by
  intro x0 x1 x2 x3 x4 x5 S h0 h1 h2 h3 h4 h5
  unfold f_X0_bestKept_b68
  refine j_iincL (q := 5) dX0_bestKept_68 rfl (Nat.le_of_ble_eq_true rfl) (fun v8 hv8 => ?_)
  refine j_lv (lv' := [(5, 0, v8), (0, 2, x0), (1, 2, x1), (2, 0, x2), (3, 0, x3), (4, 0, x4)]) rfl ?_
  refine j_goto (tgt := 8) dX0_bestKept_71 rfl ?_
  refine j_sub [1, 2, 3, 4, 5, 0] rfl ?_
  exact k8 x0 x1 x2 x3 x4 v8 S h0 h1 h2 h3 h4 hv8
def f_X0_bestKept_b8B (r8 : Int → Int → Int → Int → Int → Int → jSt → Option (Int × jSt)) (x0 : Int) (x1 : Int) (x2 : Int) (x3 : Int) (x4 : Int) (x5 : Int) (S : jSt) : Option (Int × jSt) :=
  fgetr S x0 0 7 (fun v1 => fget S v1 10 0 (fun v2 => if v2 ≤ x5 then some (x3, S) else fcallv S x0 0 (f_X0_dearestUntried x0 x1 x4 S) (fun v3 S4 => if v3 = (-1) then some (x3, S4) else flet (ior32 x4 (ishl32 1 v3)) (fun v5 => fcallv S4 x0 0 (f_X0_canBeKept x0 x1 (ior32 x3 (ishl32 1 v3)) x2 S4) (fun v6 S7 => if v6 = 0 then f_X0_bestKept_b68 r8 x0 x1 x2 x3 v5 x5 S7 else flet (ior32 x3 (ishl32 1 v3)) (fun v9 => f_X0_bestKept_b68 r8 x0 x1 x2 v9 v5 x5 S7))))))
theorem p_f_X0_bestKept_b8B {G : jG} {d : Nat} {S0 : jSt} (hd0 : 3 ≤ d) {r8 : Int → Int → Int → Int → Int → Int → jSt → Option (Int × jSt)} (k8 : ∀ (x0 : Int) (x1 : Int) (x2 : Int) (x3 : Int) (x4 : Int) (x5 : Int) (S : jSt), (0 ≤ (x0)) → (0 ≤ (x1)) → (R32 (x2)) → (R32 (x3)) → (R32 (x4)) → (R32 (x5)) → J G yX0_bestKept cX0_bestKept 7 (some .int) d S0 8 [(0, 2, x0), (1, 2, x1), (2, 0, x2), (3, 0, x3), (4, 0, x4), (5, 0, x5)] [] S (r8 x0 x1 x2 x3 x4 x5 S)) : ∀ (x0 : Int) (x1 : Int) (x2 : Int) (x3 : Int) (x4 : Int) (x5 : Int) (S : jSt), (0 ≤ (x0)) → (0 ≤ (x1)) → (R32 (x2)) → (R32 (x3)) → (R32 (x4)) → (R32 (x5)) → J G yX0_bestKept cX0_bestKept 7 (some .int) d S0 8 [(0, 2, x0), (1, 2, x1), (2, 0, x2), (3, 0, x3), (4, 0, x4), (5, 0, x5)] [] S (f_X0_bestKept_b8B r8 x0 x1 x2 x3 x4 x5 S) := by
  intro x0 x1 x2 x3 x4 x5 S h0 h1 h2 h3 h4 h5
  unfold f_X0_bestKept_b8B
  refine j_iload 5 dX0_bestKept_8 rfl ?_
  refine j_aload_n 0 dX0_bestKept_10 rfl rfl ?_
  refine j_getr (ci := 0) (k := 7) rfl in_X0 (Nat.le_of_ble_eq_true rfl) rfl rfl fl_X0_18 dX0_bestKept_11 (fun (v1 : Int) (hv1 : 0 ≤ v1) => ?_)
  refine j_get (ci := 10) (k := 0) (t := 0) rfl in_X10 (Nat.le_of_ble_eq_true rfl) rfl rfl fl_X0_40 dX0_bestKept_14 (fun (v2 : Int) (hv2 : R32 (v2)) => ?_)
  refine j_icmp_ge (tgt := 74) h5 hv2 dX0_bestKept_17 rfl (fun _ => ?_) (fun _ => ?_)
  · refine j_iload_n 3 dX0_bestKept_74 rfl rfl ?_
    exact j_ireturn h3 dX0_bestKept_75
  · refine j_aload_n 0 dX0_bestKept_20 rfl rfl ?_
    refine j_aload_n 1 dX0_bestKept_21 rfl rfl ?_
    refine j_iload 4 dX0_bestKept_22 rfl ?_
    refine j_callV (ci := 0) (As := [(2, x1), (0, x4)]) (st := []) kc_X0_dearestUntried (c_X0_dearestUntried x0 x1 x4 S h0 h1 h4) rfl lm_X0_85 ki_X0_dearestUntried ke_X0_dearestUntried rfl (Nat.le_of_ble_eq_true rfl) (Nat.le_trans (m := 3) (Nat.le_of_ble_eq_true rfl) hd0) dX0_bestKept_24 (fun (v3 : Int) (S4 : jSt) (hv3 : R32 (v3)) => ?_)
    refine j_istore (lv' := [(6, 0, v3), (0, 2, x0), (1, 2, x1), (2, 0, x2), (3, 0, x3), (4, 0, x4), (5, 0, x5)]) dX0_bestKept_27 (Nat.le_of_ble_eq_true rfl) rfl ?_
    refine j_iload 0 dX0_bestKept_29 rfl ?_
    refine j_iconst dX0_bestKept_31 ?_
    refine j_icmp_ne (tgt := 37) hv3 (j_r32 (-1) rfl) dX0_bestKept_32 rfl (fun _ => ?_) (fun _ => ?_)
    · refine j_iload 5 dX0_bestKept_37 rfl ?_
      refine j_iconst dX0_bestKept_39 ?_
      refine j_iload 0 dX0_bestKept_40 rfl ?_
      refine j_ishl dX0_bestKept_42 ?_
      refine j_ior dX0_bestKept_43 ?_
      refine j_leti (ior32_R _ _) (fun v5 hv5 => ?_)
      refine j_istore (lv' := [(4, 0, v5), (6, 0, v3), (0, 2, x0), (1, 2, x1), (2, 0, x2), (3, 0, x3), (5, 0, x5)]) dX0_bestKept_44 (Nat.le_of_ble_eq_true rfl) rfl ?_
      refine j_aload_n 2 dX0_bestKept_46 rfl rfl ?_
      refine j_aload_n 3 dX0_bestKept_47 rfl rfl ?_
      refine j_iload_n 5 dX0_bestKept_48 rfl rfl ?_
      refine j_iconst dX0_bestKept_49 ?_
      refine j_iload 1 dX0_bestKept_50 rfl ?_
      refine j_ishl dX0_bestKept_52 ?_
      refine j_ior dX0_bestKept_53 ?_
      refine j_iload_n 4 dX0_bestKept_54 rfl rfl ?_
      refine j_callV (ci := 0) (As := [(2, x1), (0, ior32 x3 (ishl32 1 v3)), (0, x2)]) (st := []) kc_X0_canBeKept (c_X0_canBeKept x0 x1 (ior32 x3 (ishl32 1 v3)) x2 S4 h0 h1 (ior32_R _ _) h2) rfl lm_X0_89 ki_X0_canBeKept ke_X0_canBeKept rfl (Nat.le_of_ble_eq_true rfl) (Nat.le_trans (m := 3) (Nat.le_of_ble_eq_true rfl) hd0) dX0_bestKept_55 (fun (v6 : Int) (S7 : jSt) (hv6 : (v6) = 0 ∨ (v6) = 1) => ?_)
      refine j_if_eq (tgt := 68) (jZ_R hv6) dX0_bestKept_58 rfl (fun _ => ?_) (fun _ => ?_)
      · refine j_sub [2, 3, 4, 5, 0, 6] rfl ?_
        exact p_f_X0_bestKept_b68 hd0 k8 x0 x1 x2 x3 v5 x5 S7 h0 h1 h2 h3 hv5 h5
      · refine j_iload_n 5 dX0_bestKept_61 rfl rfl ?_
        refine j_iconst dX0_bestKept_62 ?_
        refine j_iload 1 dX0_bestKept_63 rfl ?_
        refine j_ishl dX0_bestKept_65 ?_
        refine j_ior dX0_bestKept_66 ?_
        refine j_leti (ior32_R _ _) (fun v9 hv9 => ?_)
        refine j_istore_n (lv' := [(3, 0, v9), (4, 0, v5), (6, 0, v3), (0, 2, x0), (1, 2, x1), (2, 0, x2), (5, 0, x5)]) dX0_bestKept_67 rfl (Nat.le_of_ble_eq_true rfl) rfl ?_
        refine j_sub [3, 4, 5, 0, 1, 6] rfl ?_
        exact p_f_X0_bestKept_b68 hd0 k8 x0 x1 x2 v9 v5 x5 S7 h0 h1 h2 hv9 hv5 h5
    · refine j_iload_n 4 dX0_bestKept_35 rfl rfl ?_
      exact j_ireturn h3 dX0_bestKept_36
def f_X0_bestKept_b8 : Int → Int → Int → Int → Int → Int → jSt → Option (Int × jSt) := jrep (β := Int → Int → Int → Int → Int → Int → jSt → Option (Int × jSt)) (fun _ _ _ _ _ _ _ => none) (fun r => f_X0_bestKept_b8B r) jN
theorem p_f_X0_bestKept_b8 {G : jG} {d : Nat} {S0 : jSt} (hd0 : 3 ≤ d) : ∀ (x0 : Int) (x1 : Int) (x2 : Int) (x3 : Int) (x4 : Int) (x5 : Int) (S : jSt), (0 ≤ (x0)) → (0 ≤ (x1)) → (R32 (x2)) → (R32 (x3)) → (R32 (x4)) → (R32 (x5)) → J G yX0_bestKept cX0_bestKept 7 (some .int) d S0 8 [(0, 2, x0), (1, 2, x1), (2, 0, x2), (3, 0, x3), (4, 0, x4), (5, 0, x5)] [] S (f_X0_bestKept_b8  x0 x1 x2 x3 x4 x5 S) :=
  jrep_ind (P := fun (r : Int → Int → Int → Int → Int → Int → jSt → Option (Int × jSt)) => ∀ (x0 : Int) (x1 : Int) (x2 : Int) (x3 : Int) (x4 : Int) (x5 : Int) (S : jSt), (0 ≤ (x0)) → (0 ≤ (x1)) → (R32 (x2)) → (R32 (x3)) → (R32 (x4)) → (R32 (x5)) → J G yX0_bestKept cX0_bestKept 7 (some .int) d S0 8 [(0, 2, x0), (1, 2, x1), (2, 0, x2), (3, 0, x3), (4, 0, x4), (5, 0, x5)] [] S (r x0 x1 x2 x3 x4 x5 S)) (by intros; exact j_none) (fun r k => p_f_X0_bestKept_b8B hd0 k) jN
def f_X0_bestKept (a0 : Int) (a1 : Int) (a2 : Int) (S : jSt) : Option (Int × jSt) :=
  f_X0_bestKept_b8 a0 a1 a2 0 0 0 S
theorem e_X0_bestKept {G : jG} {d : Nat} {S0 : jSt} (hd0 : 3 ≤ d) (a0 : Int) (a1 : Int) (a2 : Int) (S : jSt) (h0 : 0 ≤ (a0)) (h1 : 0 ≤ (a1)) (h2 : R32 (a2)) : J G yX0_bestKept cX0_bestKept 7 (some .int) d S0 0 [(0, 2, a0), (1, 2, a1), (2, 0, a2)] [] S (f_X0_bestKept a0 a1 a2 S) := by
  unfold f_X0_bestKept
  refine j_iconst dX0_bestKept_0 ?_
  refine j_istore_n (lv' := [(3, 0, 0), (0, 2, a0), (1, 2, a1), (2, 0, a2)]) dX0_bestKept_1 rfl (Nat.le_of_ble_eq_true rfl) rfl ?_
  refine j_iconst dX0_bestKept_2 ?_
  refine j_istore (lv' := [(4, 0, 0), (3, 0, 0), (0, 2, a0), (1, 2, a1), (2, 0, a2)]) dX0_bestKept_3 (Nat.le_of_ble_eq_true rfl) rfl ?_
  refine j_iconst dX0_bestKept_5 ?_
  refine j_istore (lv' := [(5, 0, 0), (4, 0, 0), (3, 0, 0), (0, 2, a0), (1, 2, a1), (2, 0, a2)]) dX0_bestKept_6 (Nat.le_of_ble_eq_true rfl) rfl ?_
  refine j_sub [3, 4, 5, 2, 1, 0] rfl ?_
  exact p_f_X0_bestKept_b8 hd0 a0 a1 a2 0 0 0 S h0 h1 h2 (jZ_R jz0) (jZ_R jz0) (jZ_R jz0)
theorem c_X0_bestKept {G : jG} (a0 : Int) (a1 : Int) (a2 : Int) (S : jSt) (h0 : 0 ≤ (a0)) (h1 : 0 ≤ (a1)) (h2 : R32 (a2)) : CT G yX0_bestKept cX0_bestKept 7 (some .int) 3 ([(2, a0), (2, a1), (0, a2)].map jval) S (f_X0_bestKept a0 a1 a2 S) := ct_of [(2, a0), (2, a1), (0, a2)] (by decide) rfl (Nat.le_of_ble_eq_true rfl) (e_X0_bestKept (Nat.le_refl _) a0 a1 a2 S h0 h1 h2)
-- X0_tryAshes
def f_X0_tryAshes_b8 (g_X0_tryAshes : Int → Int → Int → Int → Int → jSt → Option (Int × jSt)) (S : jSt) : Option (Int × jSt) :=
  some (0, S)
theorem p_f_X0_tryAshes_b8 {G : jG} {d : Nat} {S0 : jSt} (hd0 : 1 ≤ d) {g_X0_tryAshes : Int → Int → Int → Int → Int → jSt → Option (Int × jSt)} {dg : Nat} (hdg : dg + 1 ≤ d) (q_X0_tryAshes : ∀ (a0 : Int) (a1 : Int) (a2 : Int) (a3 : Int) (a4 : Int) (S : jSt), (0 ≤ (a0)) → (R32 (a1)) → (R32 (a2)) → (R32 (a3)) → (R32 (a4)) → CT G yX0_tryAshes cX0_tryAshes 5 none dg ([(2, a0), (0, a1), (0, a2), (0, a3), (0, a4)].map jval) S (g_X0_tryAshes a0 a1 a2 a3 a4 S)) : ∀ (S : jSt), J G yX0_tryAshes cX0_tryAshes 5 none d S0 8 [] [] S (f_X0_tryAshes_b8 g_X0_tryAshes  S) := by
  intro S
  unfold f_X0_tryAshes_b8
  exact j_return dX0_tryAshes_8
def f_X0_tryAshes_b110 (g_X0_tryAshes : Int → Int → Int → Int → Int → jSt → Option (Int × jSt)) (S : jSt) : Option (Int × jSt) :=
  some (0, S)
theorem p_f_X0_tryAshes_b110 {G : jG} {d : Nat} {S0 : jSt} (hd0 : 1 ≤ d) {g_X0_tryAshes : Int → Int → Int → Int → Int → jSt → Option (Int × jSt)} {dg : Nat} (hdg : dg + 1 ≤ d) (q_X0_tryAshes : ∀ (a0 : Int) (a1 : Int) (a2 : Int) (a3 : Int) (a4 : Int) (S : jSt), (0 ≤ (a0)) → (R32 (a1)) → (R32 (a2)) → (R32 (a3)) → (R32 (a4)) → CT G yX0_tryAshes cX0_tryAshes 5 none dg ([(2, a0), (0, a1), (0, a2), (0, a3), (0, a4)].map jval) S (g_X0_tryAshes a0 a1 a2 a3 a4 S)) : ∀ (S : jSt), J G yX0_tryAshes cX0_tryAshes 5 none d S0 110 [] [] S (f_X0_tryAshes_b110 g_X0_tryAshes  S) := by
  intro S
  unfold f_X0_tryAshes_b110
  exact j_return dX0_tryAshes_110
def f_X0_tryAshes_b60 (g_X0_tryAshes : Int → Int → Int → Int → Int → jSt → Option (Int × jSt)) (S : jSt) : Option (Int × jSt) :=
  some (0, S)
theorem p_f_X0_tryAshes_b60 {G : jG} {d : Nat} {S0 : jSt} (hd0 : 1 ≤ d) {g_X0_tryAshes : Int → Int → Int → Int → Int → jSt → Option (Int × jSt)} {dg : Nat} (hdg : dg + 1 ≤ d) (q_X0_tryAshes : ∀ (a0 : Int) (a1 : Int) (a2 : Int) (a3 : Int) (a4 : Int) (S : jSt), (0 ≤ (a0)) → (R32 (a1)) → (R32 (a2)) → (R32 (a3)) → (R32 (a4)) → CT G yX0_tryAshes cX0_tryAshes 5 none dg ([(2, a0), (0, a1), (0, a2), (0, a3), (0, a4)].map jval) S (g_X0_tryAshes a0 a1 a2 a3 a4 S)) : ∀ (S : jSt), J G yX0_tryAshes cX0_tryAshes 5 none d S0 60 [] [] S (f_X0_tryAshes_b60 g_X0_tryAshes  S) := by
  intro S
  unfold f_X0_tryAshes_b60
  exact j_return dX0_tryAshes_60
def f_X0_tryAshes_G (g_X0_tryAshes : Int → Int → Int → Int → Int → jSt → Option (Int × jSt)) (a0 : Int) (a1 : Int) (a2 : Int) (a3 : Int) (a4 : Int) (S : jSt) : Option (Int × jSt) :=
  if a2 < 0 then f_X0_tryAshes_b8 g_X0_tryAshes S else if 0 ≤ a3 then fgetr S a0 0 7 (fun v1 => fget S v1 10 0 (fun v2 => if a1 < v2 then fcallv S a0 0 (g_X0_tryAshes a0 (w32 (a1 + 1)) a2 a3 a4 S) (fun v3 S4 => fget S4 a0 0 5 (fun v5 => if (iand32 (ishr32 v5 a1) 1) = 0 then f_X0_tryAshes_b110 g_X0_tryAshes S4 else fgetr S4 a0 0 7 (fun v6 => fgetr S4 v6 10 3 (fun v7 => fald S4 v7 a1 1 (fun v8 => fcallv S4 a0 0 (g_X0_tryAshes a0 (w32 (a1 + 1)) (w32 (a2 - v8)) (w32 (a3 - 1)) (ior32 a4 (ishl32 1 a1)) S4) (fun v9 S10 => f_X0_tryAshes_b110 g_X0_tryAshes S10)))))) else if a2 = 0 then if a3 = 0 then fget S a0 0 2 (fun v11 => fput S a0 0 2 (w32 (v11 + 1)) (fun S12 => fget S12 a0 0 3 (fun v13 => fput S12 a0 0 3 (iand32 v13 a4) (fun S14 => fget S14 a0 0 4 (fun v15 => fput S14 a0 0 4 (ior32 v15 a4) (fun S16 => f_X0_tryAshes_b60 g_X0_tryAshes S16)))))) else f_X0_tryAshes_b60 g_X0_tryAshes S else f_X0_tryAshes_b60 g_X0_tryAshes S)) else f_X0_tryAshes_b8 g_X0_tryAshes S
theorem e_X0_tryAshes_G {G : jG} {d : Nat} {S0 : jSt} (hd0 : 1 ≤ d) {g_X0_tryAshes : Int → Int → Int → Int → Int → jSt → Option (Int × jSt)} {dg : Nat} (hdg : dg + 1 ≤ d) (q_X0_tryAshes : ∀ (a0 : Int) (a1 : Int) (a2 : Int) (a3 : Int) (a4 : Int) (S : jSt), (0 ≤ (a0)) → (R32 (a1)) → (R32 (a2)) → (R32 (a3)) → (R32 (a4)) → CT G yX0_tryAshes cX0_tryAshes 5 none dg ([(2, a0), (0, a1), (0, a2), (0, a3), (0, a4)].map jval) S (g_X0_tryAshes a0 a1 a2 a3 a4 S)) (a0 : Int) (a1 : Int) (a2 : Int) (a3 : Int) (a4 : Int) (S : jSt) (h0 : 0 ≤ (a0)) (h1 : R32 (a1)) (h2 : R32 (a2)) (h3 : R32 (a3)) (h4 : R32 (a4)) : J G yX0_tryAshes cX0_tryAshes 5 none d S0 0 [(0, 2, a0), (1, 0, a1), (2, 0, a2), (3, 0, a3), (4, 0, a4)] [] S (f_X0_tryAshes_G g_X0_tryAshes a0 a1 a2 a3 a4 S) := by
  unfold f_X0_tryAshes_G
  refine j_iload_n 2 dX0_tryAshes_0 rfl rfl ?_
  refine j_if_lt (tgt := 8) h2 dX0_tryAshes_1 rfl (fun _ => ?_) (fun _ => ?_)
  · refine j_sub [] rfl ?_
    exact p_f_X0_tryAshes_b8 hd0 hdg q_X0_tryAshes S
  · refine j_iload_n 3 dX0_tryAshes_4 rfl rfl ?_
    refine j_if_ge (tgt := 9) h3 dX0_tryAshes_5 rfl (fun _ => ?_) (fun _ => ?_)
    · refine j_iload_n 1 dX0_tryAshes_9 rfl rfl ?_
      refine j_aload_n 0 dX0_tryAshes_10 rfl rfl ?_
      refine j_getr (ci := 0) (k := 7) rfl in_X0 (Nat.le_of_ble_eq_true rfl) rfl rfl fl_X0_18 dX0_tryAshes_11 (fun (v1 : Int) (hv1 : 0 ≤ v1) => ?_)
      refine j_get (ci := 10) (k := 0) (t := 0) rfl in_X10 (Nat.le_of_ble_eq_true rfl) rfl rfl fl_X0_40 dX0_tryAshes_14 (fun (v2 : Int) (hv2 : R32 (v2)) => ?_)
      refine j_icmp_lt (tgt := 61) h1 hv2 dX0_tryAshes_17 rfl (fun _ => ?_) (fun _ => ?_)
      · refine j_aload_n 0 dX0_tryAshes_61 rfl rfl ?_
        refine j_iload_n 1 dX0_tryAshes_62 rfl rfl ?_
        refine j_iconst dX0_tryAshes_63 ?_
        refine j_iadd dX0_tryAshes_64 ?_
        refine j_iload_n 2 dX0_tryAshes_65 rfl rfl ?_
        refine j_iload_n 3 dX0_tryAshes_66 rfl rfl ?_
        refine j_iload 4 dX0_tryAshes_67 rfl ?_
        refine j_callV (ci := 0) (As := [(0, w32 (a1 + 1)), (0, a2), (0, a3), (0, a4)]) (st := []) kc_X0_tryAshes (q_X0_tryAshes a0 (w32 (a1 + 1)) a2 a3 a4 S h0 (w32_R _) h2 h3 h4) rfl lm_X0_115 ki_X0_tryAshes ke_X0_tryAshes rfl (Nat.le_of_ble_eq_true rfl) hdg dX0_tryAshes_69 (fun v3 S4 _ => ?_)
        refine j_aload_n 0 dX0_tryAshes_72 rfl rfl ?_
        refine j_get (ci := 0) (k := 5) (t := 0) rfl in_X0 (Nat.le_of_ble_eq_true rfl) rfl rfl fl_X0_112 dX0_tryAshes_73 (fun (v5 : Int) (hv5 : R32 (v5)) => ?_)
        refine j_iload_n 1 dX0_tryAshes_76 rfl rfl ?_
        refine j_ishr dX0_tryAshes_77 ?_
        refine j_iconst dX0_tryAshes_78 ?_
        refine j_iand dX0_tryAshes_79 ?_
        refine j_if_eq (tgt := 110) (iand32_R _ _) dX0_tryAshes_80 rfl (fun _ => ?_) (fun _ => ?_)
        · refine j_sub [] rfl ?_
          exact p_f_X0_tryAshes_b110 hd0 hdg q_X0_tryAshes S4
        · refine j_aload_n 0 dX0_tryAshes_83 rfl rfl ?_
          refine j_iload_n 1 dX0_tryAshes_84 rfl rfl ?_
          refine j_iconst dX0_tryAshes_85 ?_
          refine j_iadd dX0_tryAshes_86 ?_
          refine j_iload_n 2 dX0_tryAshes_87 rfl rfl ?_
          refine j_aload_n 0 dX0_tryAshes_88 rfl rfl ?_
          refine j_getr (ci := 0) (k := 7) rfl in_X0 (Nat.le_of_ble_eq_true rfl) rfl rfl fl_X0_18 dX0_tryAshes_89 (fun (v6 : Int) (hv6 : 0 ≤ v6) => ?_)
          refine j_getr (ci := 10) (k := 3) rfl in_X10 (Nat.le_of_ble_eq_true rfl) rfl rfl fl_X0_119 dX0_tryAshes_92 (fun (v7 : Int) (hv7 : 0 ≤ v7) => ?_)
          refine j_iload_n 1 dX0_tryAshes_95 rfl rfl ?_
          refine j_iaload h1 dX0_tryAshes_96 (fun (v8 : Int) (hv8 : R32 (v8)) => ?_)
          refine j_isub dX0_tryAshes_97 ?_
          refine j_iload_n 3 dX0_tryAshes_98 rfl rfl ?_
          refine j_iconst dX0_tryAshes_99 ?_
          refine j_isub dX0_tryAshes_100 ?_
          refine j_iload 4 dX0_tryAshes_101 rfl ?_
          refine j_iconst dX0_tryAshes_103 ?_
          refine j_iload_n 1 dX0_tryAshes_104 rfl rfl ?_
          refine j_ishl dX0_tryAshes_105 ?_
          refine j_ior dX0_tryAshes_106 ?_
          refine j_callV (ci := 0) (As := [(0, w32 (a1 + 1)), (0, w32 (a2 - v8)), (0, w32 (a3 - 1)), (0, ior32 a4 (ishl32 1 a1))]) (st := []) kc_X0_tryAshes (q_X0_tryAshes a0 (w32 (a1 + 1)) (w32 (a2 - v8)) (w32 (a3 - 1)) (ior32 a4 (ishl32 1 a1)) S4 h0 (w32_R _) (w32_R _) (w32_R _) (ior32_R _ _)) rfl lm_X0_115 ki_X0_tryAshes ke_X0_tryAshes rfl (Nat.le_of_ble_eq_true rfl) hdg dX0_tryAshes_107 (fun v9 S10 _ => ?_)
          refine j_sub [] rfl ?_
          exact p_f_X0_tryAshes_b110 hd0 hdg q_X0_tryAshes S10
      · refine j_iload_n 2 dX0_tryAshes_20 rfl rfl ?_
        refine j_if_ne (tgt := 60) h2 dX0_tryAshes_21 rfl (fun _ => ?_) (fun _ => ?_)
        · refine j_sub [] rfl ?_
          exact p_f_X0_tryAshes_b60 hd0 hdg q_X0_tryAshes S
        · refine j_iload_n 3 dX0_tryAshes_24 rfl rfl ?_
          refine j_if_ne (tgt := 60) h3 dX0_tryAshes_25 rfl (fun _ => ?_) (fun _ => ?_)
          · refine j_sub [] rfl ?_
            exact p_f_X0_tryAshes_b60 hd0 hdg q_X0_tryAshes S
          · refine j_aload_n 0 dX0_tryAshes_28 rfl rfl ?_
            refine j_dup dX0_tryAshes_29 (fun h => nomatch h) ?_
            refine j_get (ci := 0) (k := 2) (t := 0) rfl in_X0 (Nat.le_of_ble_eq_true rfl) rfl rfl fl_X0_103 dX0_tryAshes_30 (fun (v11 : Int) (hv11 : R32 (v11)) => ?_)
            refine j_iconst dX0_tryAshes_33 ?_
            refine j_iadd dX0_tryAshes_34 ?_
            refine j_puti (ci := 0) (k := 2) (ty0 := tyX0) rfl in_X0 (Nat.le_of_ble_eq_true rfl) rfl tyX0_ok nmX0 rfl rfl (by decide +kernel) (w32_R _) fl_X0_103 dX0_tryAshes_35 (fun S12 => ?_)
            refine j_aload_n 0 dX0_tryAshes_38 rfl rfl ?_
            refine j_dup dX0_tryAshes_39 (fun h => nomatch h) ?_
            refine j_get (ci := 0) (k := 3) (t := 0) rfl in_X0 (Nat.le_of_ble_eq_true rfl) rfl rfl fl_X0_106 dX0_tryAshes_40 (fun (v13 : Int) (hv13 : R32 (v13)) => ?_)
            refine j_iload 4 dX0_tryAshes_43 rfl ?_
            refine j_iand dX0_tryAshes_45 ?_
            refine j_puti (ci := 0) (k := 3) (ty0 := tyX0) rfl in_X0 (Nat.le_of_ble_eq_true rfl) rfl tyX0_ok nmX0 rfl rfl (by decide +kernel) (iand32_R _ _) fl_X0_106 dX0_tryAshes_46 (fun S14 => ?_)
            refine j_aload_n 0 dX0_tryAshes_49 rfl rfl ?_
            refine j_dup dX0_tryAshes_50 (fun h => nomatch h) ?_
            refine j_get (ci := 0) (k := 4) (t := 0) rfl in_X0 (Nat.le_of_ble_eq_true rfl) rfl rfl fl_X0_109 dX0_tryAshes_51 (fun (v15 : Int) (hv15 : R32 (v15)) => ?_)
            refine j_iload 4 dX0_tryAshes_54 rfl ?_
            refine j_ior dX0_tryAshes_56 ?_
            refine j_puti (ci := 0) (k := 4) (ty0 := tyX0) rfl in_X0 (Nat.le_of_ble_eq_true rfl) rfl tyX0_ok nmX0 rfl rfl (by decide +kernel) (ior32_R _ _) fl_X0_109 dX0_tryAshes_57 (fun S16 => ?_)
            refine j_sub [] rfl ?_
            exact p_f_X0_tryAshes_b60 hd0 hdg q_X0_tryAshes S16
    · refine j_sub [] rfl ?_
      exact p_f_X0_tryAshes_b8 hd0 hdg q_X0_tryAshes S
def grp_X0_tryAshes : Nat → (Int → Int → Int → Int → Int → jSt → Option (Int × jSt)) := jrep (β := (Int → Int → Int → Int → Int → jSt → Option (Int × jSt))) ((fun _ _ _ _ _ _ => none)) (fun g => (f_X0_tryAshes_G g))
theorem cg_X0_tryAshes {G : jG} : ∀ n : Nat, (∀ (a0 : Int) (a1 : Int) (a2 : Int) (a3 : Int) (a4 : Int) (S : jSt), (0 ≤ (a0)) → (R32 (a1)) → (R32 (a2)) → (R32 (a3)) → (R32 (a4)) → CT G yX0_tryAshes cX0_tryAshes 5 none (1 + n) ([(2, a0), (0, a1), (0, a2), (0, a3), (0, a4)].map jval) S (((grp_X0_tryAshes n)) a0 a1 a2 a3 a4 S))
  | 0 => by
    refine ?_
    all_goals (intros; intro _ _ _ h; cases h)
  | n + 1 => by
    have q_X0_tryAshes := cg_X0_tryAshes (G := G) n
    refine ?_
    · intro a0 a1 a2 a3 a4 S h0 h1 h2 h3 h4
      exact ct_of [(2, a0), (0, a1), (0, a2), (0, a3), (0, a4)] (by decide) rfl (Nat.le_of_ble_eq_true rfl) (e_X0_tryAshes_G (by omega) (dg := 1 + n) (by omega) q_X0_tryAshes a0 a1 a2 a3 a4 S h0 h1 h2 h3 h4)
def f_X0_tryAshes : Int → Int → Int → Int → Int → jSt → Option (Int × jSt) := (grp_X0_tryAshes 100)
theorem c_X0_tryAshes {G : jG} (a0 : Int) (a1 : Int) (a2 : Int) (a3 : Int) (a4 : Int) (S : jSt) (h0 : 0 ≤ (a0)) (h1 : R32 (a1)) (h2 : R32 (a2)) (h3 : R32 (a3)) (h4 : R32 (a4)) : CT G yX0_tryAshes cX0_tryAshes 5 none 101 ([(2, a0), (0, a1), (0, a2), (0, a3), (0, a4)].map jval) S (f_X0_tryAshes a0 a1 a2 a3 a4 S) := (cg_X0_tryAshes (G := G) 100) a0 a1 a2 a3 a4 S h0 h1 h2 h3 h4
-- X0_findAshes
def f_X0_findAshes_b79 (r33 : Int → Int → Int → Int → Int → jSt → Option (Int × jSt)) (x0 : Int) (x1 : Int) (x2 : Int) (x3 : Int) (x4 : Int) (S : jSt) : Option (Int × jSt) :=
  flet (w32 (x4 + 1)) (fun v15 => r33 x0 x1 x2 x3 v15 S)
theorem p_f_X0_findAshes_b79 {G : jG} {d : Nat} {S0 : jSt} (hd0 : 102 ≤ d) {r33 : Int → Int → Int → Int → Int → jSt → Option (Int × jSt)} (k33 : ∀ (x0 : Int) (x1 : Int) (x2 : Int) (x3 : Int) (x4 : Int) (S : jSt), (0 ≤ (x0)) → (0 ≤ (x1)) → (R32 (x2)) → (R32 (x3)) → (R32 (x4)) → J G yX0_findAshes cX0_findAshes 5 none d S0 33 [(0, 2, x0), (1, 2, x1), (2, 0, x2), (3, 0, x3), (4, 0, x4)] [] S (r33 x0 x1 x2 x3 x4 S)) : ∀ (x0 : Int) (x1 : Int) (x2 : Int) (x3 : Int) (x4 : Int) (S : jSt), (0 ≤ (x0)) → (0 ≤ (x1)) → (R32 (x2)) → (R32 (x3)) → (R32 (x4)) → J G yX0_findAshes cX0_findAshes 5 none d S0 79 [(0, 2, x0), (1, 2, x1), (2, 0, x2), (3, 0, x3), (4, 0, x4)] [] S (f_X0_findAshes_b79 r33 x0 x1 x2 x3 x4 S) := by
  intro x0 x1 x2 x3 x4 S h0 h1 h2 h3 h4
  unfold f_X0_findAshes_b79
  refine j_iincL (q := 4) dX0_findAshes_79 rfl (Nat.le_of_ble_eq_true rfl) (fun v15 hv15 => ?_)
  refine j_lv (lv' := [(4, 0, v15), (0, 2, x0), (1, 2, x1), (2, 0, x2), (3, 0, x3)]) rfl ?_
  refine j_goto (tgt := 33) dX0_findAshes_82 rfl ?_
  refine j_sub [1, 2, 3, 4, 0] rfl ?_
  exact k33 x0 x1 x2 x3 v15 S h0 h1 h2 h3 hv15
def f_X0_findAshes_b66 (r33 : Int → Int → Int → Int → Int → jSt → Option (Int × jSt)) (x0 : Int) (x1 : Int) (x2 : Int) (x3 : Int) (x4 : Int) (S : jSt) : Option (Int × jSt) :=
  fget S x0 0 5 (fun v13 => fput S x0 0 5 (ior32 v13 (ishl32 1 x4)) (fun S14 => f_X0_findAshes_b79 r33 x0 x1 x2 x3 x4 S14))
theorem p_f_X0_findAshes_b66 {G : jG} {d : Nat} {S0 : jSt} (hd0 : 102 ≤ d) {r33 : Int → Int → Int → Int → Int → jSt → Option (Int × jSt)} (k33 : ∀ (x0 : Int) (x1 : Int) (x2 : Int) (x3 : Int) (x4 : Int) (S : jSt), (0 ≤ (x0)) → (0 ≤ (x1)) → (R32 (x2)) → (R32 (x3)) → (R32 (x4)) → J G yX0_findAshes cX0_findAshes 5 none d S0 33 [(0, 2, x0), (1, 2, x1), (2, 0, x2), (3, 0, x3), (4, 0, x4)] [] S (r33 x0 x1 x2 x3 x4 S)) : ∀ (x0 : Int) (x1 : Int) (x2 : Int) (x3 : Int) (x4 : Int) (S : jSt), (0 ≤ (x0)) → (0 ≤ (x1)) → (R32 (x2)) → (R32 (x3)) → (R32 (x4)) → J G yX0_findAshes cX0_findAshes 5 none d S0 66 [(0, 2, x0), (1, 2, x1), (2, 0, x2), (3, 0, x3), (4, 0, x4)] [] S (f_X0_findAshes_b66 r33 x0 x1 x2 x3 x4 S) := by
  intro x0 x1 x2 x3 x4 S h0 h1 h2 h3 h4
  unfold f_X0_findAshes_b66
  refine j_aload_n 0 dX0_findAshes_66 rfl rfl ?_
  refine j_dup dX0_findAshes_67 (fun h => nomatch h) ?_
  refine j_get (ci := 0) (k := 5) (t := 0) rfl in_X0 (Nat.le_of_ble_eq_true rfl) rfl rfl fl_X0_112 dX0_findAshes_68 (fun (v13 : Int) (hv13 : R32 (v13)) => ?_)
  refine j_iconst dX0_findAshes_71 ?_
  refine j_iload 4 dX0_findAshes_72 rfl ?_
  refine j_ishl dX0_findAshes_74 ?_
  refine j_ior dX0_findAshes_75 ?_
  refine j_puti (ci := 0) (k := 5) (ty0 := tyX0) rfl in_X0 (Nat.le_of_ble_eq_true rfl) rfl tyX0_ok nmX0 rfl rfl (by decide +kernel) (ior32_R _ _) fl_X0_112 dX0_findAshes_76 (fun S14 => ?_)
  exact p_f_X0_findAshes_b79 hd0 k33 x0 x1 x2 x3 x4 S14 h0 h1 h2 h3 h4
def f_X0_findAshes_b33B (r33 : Int → Int → Int → Int → Int → jSt → Option (Int × jSt)) (x0 : Int) (x1 : Int) (x2 : Int) (x3 : Int) (x4 : Int) (S : jSt) : Option (Int × jSt) :=
  fgetr S x0 0 7 (fun v7 => fget S v7 10 0 (fun v8 => if v8 ≤ x4 then fcallv S x0 0 (f_X0_tryAshes x0 0 x2 x3 0 S) (fun v9 S10 => some (0, S10)) else fgetr S x1 1 0 (fun v11 => fald S v11 x4 1 (fun v12 => if v12 = 0 then f_X0_findAshes_b66 r33 x0 x1 x2 x3 x4 S else fgetr S x1 1 0 (fun v16 => fald S v16 x4 1 (fun v17 => if v17 = 2 then f_X0_findAshes_b66 r33 x0 x1 x2 x3 x4 S else f_X0_findAshes_b79 r33 x0 x1 x2 x3 x4 S))))))
theorem p_f_X0_findAshes_b33B {G : jG} {d : Nat} {S0 : jSt} (hd0 : 102 ≤ d) {r33 : Int → Int → Int → Int → Int → jSt → Option (Int × jSt)} (k33 : ∀ (x0 : Int) (x1 : Int) (x2 : Int) (x3 : Int) (x4 : Int) (S : jSt), (0 ≤ (x0)) → (0 ≤ (x1)) → (R32 (x2)) → (R32 (x3)) → (R32 (x4)) → J G yX0_findAshes cX0_findAshes 5 none d S0 33 [(0, 2, x0), (1, 2, x1), (2, 0, x2), (3, 0, x3), (4, 0, x4)] [] S (r33 x0 x1 x2 x3 x4 S)) : ∀ (x0 : Int) (x1 : Int) (x2 : Int) (x3 : Int) (x4 : Int) (S : jSt), (0 ≤ (x0)) → (0 ≤ (x1)) → (R32 (x2)) → (R32 (x3)) → (R32 (x4)) → J G yX0_findAshes cX0_findAshes 5 none d S0 33 [(0, 2, x0), (1, 2, x1), (2, 0, x2), (3, 0, x3), (4, 0, x4)] [] S (f_X0_findAshes_b33B r33 x0 x1 x2 x3 x4 S) := by
  intro x0 x1 x2 x3 x4 S h0 h1 h2 h3 h4
  unfold f_X0_findAshes_b33B
  refine j_iload 4 dX0_findAshes_33 rfl ?_
  refine j_aload_n 0 dX0_findAshes_35 rfl rfl ?_
  refine j_getr (ci := 0) (k := 7) rfl in_X0 (Nat.le_of_ble_eq_true rfl) rfl rfl fl_X0_18 dX0_findAshes_36 (fun (v7 : Int) (hv7 : 0 ≤ v7) => ?_)
  refine j_get (ci := 10) (k := 0) (t := 0) rfl in_X10 (Nat.le_of_ble_eq_true rfl) rfl rfl fl_X0_40 dX0_findAshes_39 (fun (v8 : Int) (hv8 : R32 (v8)) => ?_)
  refine j_icmp_ge (tgt := 85) h4 hv8 dX0_findAshes_42 rfl (fun _ => ?_) (fun _ => ?_)
  · refine j_aload_n 0 dX0_findAshes_85 rfl rfl ?_
    refine j_iconst dX0_findAshes_86 ?_
    refine j_iload_n 2 dX0_findAshes_87 rfl rfl ?_
    refine j_iload_n 3 dX0_findAshes_88 rfl rfl ?_
    refine j_iconst dX0_findAshes_89 ?_
    refine j_callV (ci := 0) (As := [(0, 0), (0, x2), (0, x3), (0, 0)]) (st := []) kc_X0_tryAshes (c_X0_tryAshes x0 0 x2 x3 0 S h0 (jZ_R jz0) h2 h3 (jZ_R jz0)) rfl lm_X0_115 ki_X0_tryAshes ke_X0_tryAshes rfl (Nat.le_of_ble_eq_true rfl) (Nat.le_trans (m := 102) (Nat.le_of_ble_eq_true rfl) hd0) dX0_findAshes_90 (fun v9 S10 _ => ?_)
    exact j_return dX0_findAshes_93
  · refine j_aload_n 1 dX0_findAshes_45 rfl rfl ?_
    refine j_getr (ci := 1) (k := 0) rfl in_X1 (Nat.le_of_ble_eq_true rfl) rfl rfl fl_X0_62 dX0_findAshes_46 (fun (v11 : Int) (hv11 : 0 ≤ v11) => ?_)
    refine j_iload 4 dX0_findAshes_49 rfl ?_
    refine j_iaload h4 dX0_findAshes_51 (fun (v12 : Int) (hv12 : R32 (v12)) => ?_)
    refine j_if_eq (tgt := 66) hv12 dX0_findAshes_52 rfl (fun _ => ?_) (fun _ => ?_)
    · exact p_f_X0_findAshes_b66 hd0 k33 x0 x1 x2 x3 x4 S h0 h1 h2 h3 h4
    · refine j_aload_n 1 dX0_findAshes_55 rfl rfl ?_
      refine j_getr (ci := 1) (k := 0) rfl in_X1 (Nat.le_of_ble_eq_true rfl) rfl rfl fl_X0_62 dX0_findAshes_56 (fun (v16 : Int) (hv16 : 0 ≤ v16) => ?_)
      refine j_iload 4 dX0_findAshes_59 rfl ?_
      refine j_iaload h4 dX0_findAshes_61 (fun (v17 : Int) (hv17 : R32 (v17)) => ?_)
      refine j_iconst dX0_findAshes_62 ?_
      refine j_icmp_ne (tgt := 79) hv17 (j_r32 2 rfl) dX0_findAshes_63 rfl (fun _ => ?_) (fun _ => ?_)
      · exact p_f_X0_findAshes_b79 hd0 k33 x0 x1 x2 x3 x4 S h0 h1 h2 h3 h4
      · exact p_f_X0_findAshes_b66 hd0 k33 x0 x1 x2 x3 x4 S h0 h1 h2 h3 h4
def f_X0_findAshes_b33 : Int → Int → Int → Int → Int → jSt → Option (Int × jSt) := jrep (β := Int → Int → Int → Int → Int → jSt → Option (Int × jSt)) (fun _ _ _ _ _ _ => none) (fun r => f_X0_findAshes_b33B r) jN
theorem p_f_X0_findAshes_b33 {G : jG} {d : Nat} {S0 : jSt} (hd0 : 102 ≤ d) : ∀ (x0 : Int) (x1 : Int) (x2 : Int) (x3 : Int) (x4 : Int) (S : jSt), (0 ≤ (x0)) → (0 ≤ (x1)) → (R32 (x2)) → (R32 (x3)) → (R32 (x4)) → J G yX0_findAshes cX0_findAshes 5 none d S0 33 [(0, 2, x0), (1, 2, x1), (2, 0, x2), (3, 0, x3), (4, 0, x4)] [] S (f_X0_findAshes_b33  x0 x1 x2 x3 x4 S) :=
  jrep_ind (P := fun (r : Int → Int → Int → Int → Int → jSt → Option (Int × jSt)) => ∀ (x0 : Int) (x1 : Int) (x2 : Int) (x3 : Int) (x4 : Int) (S : jSt), (0 ≤ (x0)) → (0 ≤ (x1)) → (R32 (x2)) → (R32 (x3)) → (R32 (x4)) → J G yX0_findAshes cX0_findAshes 5 none d S0 33 [(0, 2, x0), (1, 2, x1), (2, 0, x2), (3, 0, x3), (4, 0, x4)] [] S (r x0 x1 x2 x3 x4 S)) (by intros; exact j_none) (fun r k => p_f_X0_findAshes_b33B hd0 k) jN
def f_X0_findAshes (a0 : Int) (a1 : Int) (a2 : Int) (a3 : Int) (S : jSt) : Option (Int × jSt) :=
  fput S a0 0 2 0 (fun S1 => fgetr S1 a0 0 7 (fun v2 => fget S1 v2 10 0 (fun v3 => fput S1 a0 0 3 (w32 ((ishl32 1 v3) - 1)) (fun S4 => fput S4 a0 0 4 0 (fun S5 => fput S5 a0 0 5 0 (fun S6 => f_X0_findAshes_b33 a0 a1 a2 a3 0 S6))))))
theorem e_X0_findAshes {G : jG} {d : Nat} {S0 : jSt} (hd0 : 102 ≤ d) (a0 : Int) (a1 : Int) (a2 : Int) (a3 : Int) (S : jSt) (h0 : 0 ≤ (a0)) (h1 : 0 ≤ (a1)) (h2 : R32 (a2)) (h3 : R32 (a3)) : J G yX0_findAshes cX0_findAshes 5 none d S0 0 [(0, 2, a0), (1, 2, a1), (2, 0, a2), (3, 0, a3)] [] S (f_X0_findAshes a0 a1 a2 a3 S) := by
  unfold f_X0_findAshes
  refine j_aload_n 0 dX0_findAshes_0 rfl rfl ?_
  refine j_iconst dX0_findAshes_1 ?_
  refine j_puti (ci := 0) (k := 2) (ty0 := tyX0) rfl in_X0 (Nat.le_of_ble_eq_true rfl) rfl tyX0_ok nmX0 rfl rfl (by decide +kernel) (jZ_R jz0) fl_X0_103 dX0_findAshes_2 (fun S1 => ?_)
  refine j_aload_n 0 dX0_findAshes_5 rfl rfl ?_
  refine j_iconst dX0_findAshes_6 ?_
  refine j_aload_n 0 dX0_findAshes_7 rfl rfl ?_
  refine j_getr (ci := 0) (k := 7) rfl in_X0 (Nat.le_of_ble_eq_true rfl) rfl rfl fl_X0_18 dX0_findAshes_8 (fun (v2 : Int) (hv2 : 0 ≤ v2) => ?_)
  refine j_get (ci := 10) (k := 0) (t := 0) rfl in_X10 (Nat.le_of_ble_eq_true rfl) rfl rfl fl_X0_40 dX0_findAshes_11 (fun (v3 : Int) (hv3 : R32 (v3)) => ?_)
  refine j_ishl dX0_findAshes_14 ?_
  refine j_iconst dX0_findAshes_15 ?_
  refine j_isub dX0_findAshes_16 ?_
  refine j_puti (ci := 0) (k := 3) (ty0 := tyX0) rfl in_X0 (Nat.le_of_ble_eq_true rfl) rfl tyX0_ok nmX0 rfl rfl (by decide +kernel) (w32_R _) fl_X0_106 dX0_findAshes_17 (fun S4 => ?_)
  refine j_aload_n 0 dX0_findAshes_20 rfl rfl ?_
  refine j_iconst dX0_findAshes_21 ?_
  refine j_puti (ci := 0) (k := 4) (ty0 := tyX0) rfl in_X0 (Nat.le_of_ble_eq_true rfl) rfl tyX0_ok nmX0 rfl rfl (by decide +kernel) (jZ_R jz0) fl_X0_109 dX0_findAshes_22 (fun S5 => ?_)
  refine j_aload_n 0 dX0_findAshes_25 rfl rfl ?_
  refine j_iconst dX0_findAshes_26 ?_
  refine j_puti (ci := 0) (k := 5) (ty0 := tyX0) rfl in_X0 (Nat.le_of_ble_eq_true rfl) rfl tyX0_ok nmX0 rfl rfl (by decide +kernel) (jZ_R jz0) fl_X0_112 dX0_findAshes_27 (fun S6 => ?_)
  refine j_iconst dX0_findAshes_30 ?_
  refine j_istore (lv' := [(4, 0, 0), (0, 2, a0), (1, 2, a1), (2, 0, a2), (3, 0, a3)]) dX0_findAshes_31 (Nat.le_of_ble_eq_true rfl) rfl ?_
  refine j_sub [1, 2, 3, 4, 0] rfl ?_
  exact p_f_X0_findAshes_b33 hd0 a0 a1 a2 a3 0 S6 h0 h1 h2 h3 (jZ_R jz0)
theorem c_X0_findAshes {G : jG} (a0 : Int) (a1 : Int) (a2 : Int) (a3 : Int) (S : jSt) (h0 : 0 ≤ (a0)) (h1 : 0 ≤ (a1)) (h2 : R32 (a2)) (h3 : R32 (a3)) : CT G yX0_findAshes cX0_findAshes 5 none 102 ([(2, a0), (2, a1), (0, a2), (0, a3)].map jval) S (f_X0_findAshes a0 a1 a2 a3 S) := ct_of [(2, a0), (2, a1), (0, a2), (0, a3)] (by decide) rfl (Nat.le_of_ble_eq_true rfl) (e_X0_findAshes (Nat.le_refl _) a0 a1 a2 a3 S h0 h1 h2 h3)
-- X10_scriptOf
def f_X10_scriptOf_b22 (x0 : Int) (S : jSt) : Option (Int × jSt) :=
  some (x0, S)
theorem p_f_X10_scriptOf_b22 {G : jG} {d : Nat} {S0 : jSt} (hd0 : 1 ≤ d) : ∀ (x0 : Int) (S : jSt), J G yX10_scriptOf cX10_scriptOf 2 (some (.object "HouseClearedUp$Script")) d S0 22 [] [(3, x0)] S (f_X10_scriptOf_b22  x0 S) := by
  intro x0 S
  unfold f_X10_scriptOf_b22
  exact j_areturn dX10_scriptOf_22
def f_X10_scriptOf_b21 (S : jSt) : Option (Int × jSt) :=
  f_X10_scriptOf_b22 (-1) S
theorem p_f_X10_scriptOf_b21 {G : jG} {d : Nat} {S0 : jSt} (hd0 : 1 ≤ d) : ∀ (S : jSt), J G yX10_scriptOf cX10_scriptOf 2 (some (.object "HouseClearedUp$Script")) d S0 21 [] [] S (f_X10_scriptOf_b21   S) := by
  intro S
  unfold f_X10_scriptOf_b21
  refine j_null dX10_scriptOf_21 ?_
  exact p_f_X10_scriptOf_b22 hd0 (-1) S
def f_X10_scriptOf (a0 : Int) (a1 : Int) (S : jSt) : Option (Int × jSt) :=
  if a1 < 0 then f_X10_scriptOf_b21 S else fget S a0 10 4 (fun v1 => if v1 ≤ a1 then f_X10_scriptOf_b21 S else fgetr S a0 10 5 (fun v2 => fald S v2 a1 5 (fun v3 => f_X10_scriptOf_b22 v3 S)))
theorem e_X10_scriptOf {G : jG} {d : Nat} {S0 : jSt} (hd0 : 1 ≤ d) (a0 : Int) (a1 : Int) (S : jSt) (h0 : 0 ≤ (a0)) (h1 : R32 (a1)) : J G yX10_scriptOf cX10_scriptOf 2 (some (.object "HouseClearedUp$Script")) d S0 0 [(0, 2, a0), (1, 0, a1)] [] S (f_X10_scriptOf a0 a1 S) := by
  unfold f_X10_scriptOf
  refine j_iload_n 1 dX10_scriptOf_0 rfl rfl ?_
  refine j_if_lt (tgt := 21) h1 dX10_scriptOf_1 rfl (fun _ => ?_) (fun _ => ?_)
  · refine j_sub [] rfl ?_
    exact p_f_X10_scriptOf_b21 hd0 S
  · refine j_iload_n 1 dX10_scriptOf_4 rfl rfl ?_
    refine j_aload_n 0 dX10_scriptOf_5 rfl rfl ?_
    refine j_get (ci := 10) (k := 4) (t := 0) rfl in_X10 (Nat.le_of_ble_eq_true rfl) rfl rfl fl_X10_63 dX10_scriptOf_6 (fun (v1 : Int) (hv1 : R32 (v1)) => ?_)
    refine j_icmp_ge (tgt := 21) h1 hv1 dX10_scriptOf_9 rfl (fun _ => ?_) (fun _ => ?_)
    · refine j_sub [] rfl ?_
      exact p_f_X10_scriptOf_b21 hd0 S
    · refine j_aload_n 0 dX10_scriptOf_12 rfl rfl ?_
      refine j_getr (ci := 10) (k := 5) rfl in_X10 (Nat.le_of_ble_eq_true rfl) rfl rfl fl_X10_20 dX10_scriptOf_13 (fun (v2 : Int) (hv2 : 0 ≤ v2) => ?_)
      refine j_iload_n 1 dX10_scriptOf_16 rfl rfl ?_
      refine j_aaload5 h1 dX10_scriptOf_17 (fun v3 => ?_)
      refine j_goto (tgt := 22) dX10_scriptOf_18 rfl ?_
      refine j_sub [] rfl ?_
      exact p_f_X10_scriptOf_b22 hd0 v3 S
theorem c_X10_scriptOf {G : jG} (a0 : Int) (a1 : Int) (S : jSt) (h0 : 0 ≤ (a0)) (h1 : R32 (a1)) : CT G yX10_scriptOf cX10_scriptOf 2 (some (.object "HouseClearedUp$Script")) 1 ([(2, a0), (0, a1)].map jval) S (f_X10_scriptOf a0 a1 S) := ct_of [(2, a0), (0, a1)] (by decide) rfl (Nat.le_of_ble_eq_true rfl) (e_X10_scriptOf (Nat.le_refl _) a0 a1 S h0 h1)
-- X11_wantAt
def f_X11_wantAt (a0 : Int) (a1 : Int) (S : jSt) : Option (Int × jSt) :=
  some (w32 ((w32 (a0 * 12)) + a1), S)
theorem e_X11_wantAt {G : jG} {d : Nat} {S0 : jSt} (hd0 : 1 ≤ d) (a0 : Int) (a1 : Int) (S : jSt) (h0 : R32 (a0)) (h1 : R32 (a1)) : J G yX11_wantAt cX11_wantAt 2 (some .int) d S0 0 [(0, 0, a0), (1, 0, a1)] [] S (f_X11_wantAt a0 a1 S) := by
  unfold f_X11_wantAt
  refine j_iload_n 0 dX11_wantAt_0 rfl rfl ?_
  refine j_bipush dX11_wantAt_1 (by decide) ?_
  refine j_imul dX11_wantAt_3 ?_
  refine j_iload_n 1 dX11_wantAt_4 rfl rfl ?_
  refine j_iadd dX11_wantAt_5 ?_
  exact j_ireturn (w32_R _) dX11_wantAt_6
theorem c_X11_wantAt {G : jG} (a0 : Int) (a1 : Int) (S : jSt) (h0 : R32 (a0)) (h1 : R32 (a1)) : CT G yX11_wantAt cX11_wantAt 2 (some .int) 1 ([(0, a0), (0, a1)].map jval) S (f_X11_wantAt a0 a1 S) := ct_of [(0, a0), (0, a1)] (by decide) rfl (Nat.le_of_ble_eq_true rfl) (e_X11_wantAt (Nat.le_refl _) a0 a1 S h0 h1)
-- X11_within
def f_X11_within_b15 (x0 : Int) (S : jSt) : Option (Int × jSt) :=
  some (x0, S)
theorem p_f_X11_within_b15 {G : jG} {d : Nat} {S0 : jSt} (hd0 : 1 ≤ d) : ∀ (x0 : Int) (S : jSt), ((x0) = 0 ∨ (x0) = 1) → J G yX11_within cX11_within 3 (some .boolean) d S0 15 [] [(0, x0)] S (f_X11_within_b15  x0 S) := by
  intro x0 S h0
  unfold f_X11_within_b15
  exact j_zreturn h0 dX11_within_15
def f_X11_within_b14 (S : jSt) : Option (Int × jSt) :=
  f_X11_within_b15 0 S
theorem p_f_X11_within_b14 {G : jG} {d : Nat} {S0 : jSt} (hd0 : 1 ≤ d) : ∀ (S : jSt), J G yX11_within cX11_within 3 (some .boolean) d S0 14 [] [] S (f_X11_within_b14   S) := by
  intro S
  unfold f_X11_within_b14
  refine j_iconst dX11_within_14 ?_
  exact p_f_X11_within_b15 hd0 0 S jz0
def f_X11_within (a0 : Int) (a1 : Int) (a2 : Int) (S : jSt) : Option (Int × jSt) :=
  if a0 < a1 then f_X11_within_b14 S else if a2 < a0 then f_X11_within_b14 S else f_X11_within_b15 1 S
theorem e_X11_within {G : jG} {d : Nat} {S0 : jSt} (hd0 : 1 ≤ d) (a0 : Int) (a1 : Int) (a2 : Int) (S : jSt) (h0 : R32 (a0)) (h1 : R32 (a1)) (h2 : R32 (a2)) : J G yX11_within cX11_within 3 (some .boolean) d S0 0 [(0, 0, a0), (1, 0, a1), (2, 0, a2)] [] S (f_X11_within a0 a1 a2 S) := by
  unfold f_X11_within
  refine j_iload_n 0 dX11_within_0 rfl rfl ?_
  refine j_iload_n 1 dX11_within_1 rfl rfl ?_
  refine j_icmp_lt (tgt := 14) h0 h1 dX11_within_2 rfl (fun _ => ?_) (fun _ => ?_)
  · refine j_sub [] rfl ?_
    exact p_f_X11_within_b14 hd0 S
  · refine j_iload_n 0 dX11_within_5 rfl rfl ?_
    refine j_iload_n 2 dX11_within_6 rfl rfl ?_
    refine j_icmp_gt (tgt := 14) h0 h2 dX11_within_7 rfl (fun _ => ?_) (fun _ => ?_)
    · refine j_sub [] rfl ?_
      exact p_f_X11_within_b14 hd0 S
    · refine j_iconst dX11_within_10 ?_
      refine j_goto (tgt := 15) dX11_within_11 rfl ?_
      refine j_sub [] rfl ?_
      exact p_f_X11_within_b15 hd0 1 S jz1
theorem c_X11_within {G : jG} (a0 : Int) (a1 : Int) (a2 : Int) (S : jSt) (h0 : R32 (a0)) (h1 : R32 (a1)) (h2 : R32 (a2)) : CT G yX11_within cX11_within 3 (some .boolean) 1 ([(0, a0), (0, a1), (0, a2)].map jval) S (f_X11_within a0 a1 a2 S) := ct_of [(0, a0), (0, a1), (0, a2)] (by decide) rfl (Nat.le_of_ble_eq_true rfl) (e_X11_within (Nat.le_refl _) a0 a1 a2 S h0 h1 h2)
-- X2_joined
def f_X2_joined_b279 (x0 : Int) (S : jSt) : Option (Int × jSt) :=
  some (x0, S)
theorem p_f_X2_joined_b279 {G : jG} {d : Nat} {S0 : jSt} (hd0 : 1 ≤ d) : ∀ (x0 : Int) (S : jSt), (R32 (x0)) → J G yX2_joined cX2_joined 7 (some .int) d S0 279 [] [(0, x0)] S (f_X2_joined_b279  x0 S) := by
  intro x0 S h0
  unfold f_X2_joined_b279
  exact j_ireturn h0 dX2_joined_279
def f_X2_joined_b250 (x0 : Int) (S : jSt) : Option (Int × jSt) :=
  if x0 ≤ 1000000 then if (-1000000) ≤ x0 then f_X2_joined_b279 (w32 x0) S else f_X2_joined_b279 (-1000000) S else some (1000000, S)
theorem p_f_X2_joined_b250 {G : jG} {d : Nat} {S0 : jSt} (hd0 : 1 ≤ d) : ∀ (x0 : Int) (S : jSt), (R64 (x0)) → J G yX2_joined cX2_joined 7 (some .int) d S0 250 [(5, 1, x0)] [] S (f_X2_joined_b250  x0 S) := by
  intro x0 S h0
  unfold f_X2_joined_b250
  refine j_lload 0 dX2_joined_250 rfl ?_
  refine j_ldc2 cn_X2_89 dX2_joined_252 ?_
  refine j_lcmp_le (tgt := 262) h0 (j_r64 1000000 rfl) dX2_joined_255 dX2_joined_256 rfl (fun _ => ?_) (fun _ => ?_)
  · refine j_lload 0 dX2_joined_262 rfl ?_
    refine j_ldc2 cn_X2_92 dX2_joined_264 ?_
    refine j_lcmp_ge (tgt := 276) h0 (j_r64 (-1000000) rfl) dX2_joined_267 dX2_joined_268 rfl (fun _ => ?_) (fun _ => ?_)
    · refine j_lload 0 dX2_joined_276 rfl ?_
      refine j_l2i dX2_joined_278 ?_
      refine j_sub [] rfl ?_
      exact p_f_X2_joined_b279 hd0 (w32 x0) S (w32_R _)
    · refine j_ldc cn_X2_94 dX2_joined_271 ?_
      refine j_goto (tgt := 279) dX2_joined_273 rfl ?_
      refine j_sub [] rfl ?_
      exact p_f_X2_joined_b279 hd0 (-1000000) S (j_r32 (-1000000) rfl)
  · refine j_ldc cn_X2_91 dX2_joined_259 ?_
    exact j_ireturn (j_r32 1000000 rfl) dX2_joined_261
def f_X2_joined_b137 (x0 : Int) (S : jSt) : Option (Int × jSt) :=
  f_X2_joined_b250 x0 S
theorem p_f_X2_joined_b137 {G : jG} {d : Nat} {S0 : jSt} (hd0 : 1 ≤ d) : ∀ (x0 : Int) (S : jSt), (R64 (x0)) → J G yX2_joined cX2_joined 7 (some .int) d S0 137 [] [(1, x0)] S (f_X2_joined_b137  x0 S) := by
  intro x0 S h0
  unfold f_X2_joined_b137
  refine j_lstore (lv' := [(5, 1, x0)]) dX2_joined_137 (Nat.le_of_ble_eq_true rfl) rfl ?_
  refine j_goto (tgt := 250) dX2_joined_139 rfl ?_
  exact p_f_X2_joined_b250 hd0 x0 S h0
def f_X2_joined_b249 (x0 : Int) (S : jSt) : Option (Int × jSt) :=
  some (x0, S)
theorem p_f_X2_joined_b249 {G : jG} {d : Nat} {S0 : jSt} (hd0 : 1 ≤ d) : ∀ (x0 : Int) (S : jSt), ((x0) = 0 ∨ (x0) = 1) → J G yX2_joined cX2_joined 7 (some .int) d S0 249 [] [(0, x0)] S (f_X2_joined_b249  x0 S) := by
  intro x0 S h0
  unfold f_X2_joined_b249
  exact j_ireturn (jZ_R h0) dX2_joined_249
def f_X2_joined_b238 (x0 : Int) (x1 : Int) (S : jSt) : Option (Int × jSt) :=
  if x0 = x1 then f_X2_joined_b249 0 S else f_X2_joined_b249 1 S
theorem p_f_X2_joined_b238 {G : jG} {d : Nat} {S0 : jSt} (hd0 : 1 ≤ d) : ∀ (x0 : Int) (x1 : Int) (S : jSt), (R64 (x0)) → (R64 (x1)) → J G yX2_joined cX2_joined 7 (some .int) d S0 238 [(1, 1, x0), (3, 1, x1)] [] S (f_X2_joined_b238  x0 x1 S) := by
  intro x0 x1 S h0 h1
  unfold f_X2_joined_b238
  refine j_lload_n 0 dX2_joined_238 rfl rfl ?_
  refine j_lload_n 1 dX2_joined_239 rfl rfl ?_
  refine j_lcmp_eq (tgt := 248) h0 h1 dX2_joined_240 dX2_joined_241 rfl (fun _ => ?_) (fun _ => ?_)
  · refine j_iconst dX2_joined_248 ?_
    refine j_sub [] rfl ?_
    exact p_f_X2_joined_b249 hd0 0 S jz0
  · refine j_iconst dX2_joined_244 ?_
    refine j_goto (tgt := 249) dX2_joined_245 rfl ?_
    refine j_sub [] rfl ?_
    exact p_f_X2_joined_b249 hd0 1 S jz1
def f_X2_joined_b159 (x0 : Int) (S : jSt) : Option (Int × jSt) :=
  some (x0, S)
theorem p_f_X2_joined_b159 {G : jG} {d : Nat} {S0 : jSt} (hd0 : 1 ≤ d) : ∀ (x0 : Int) (S : jSt), ((x0) = 0 ∨ (x0) = 1) → J G yX2_joined cX2_joined 7 (some .int) d S0 159 [] [(0, x0)] S (f_X2_joined_b159  x0 S) := by
  intro x0 S h0
  unfold f_X2_joined_b159
  exact j_ireturn (jZ_R h0) dX2_joined_159
def f_X2_joined_b154 (S : jSt) : Option (Int × jSt) :=
  f_X2_joined_b159 1 S
theorem p_f_X2_joined_b154 {G : jG} {d : Nat} {S0 : jSt} (hd0 : 1 ≤ d) : ∀ (S : jSt), J G yX2_joined cX2_joined 7 (some .int) d S0 154 [] [] S (f_X2_joined_b154   S) := by
  intro S
  unfold f_X2_joined_b154
  refine j_iconst dX2_joined_154 ?_
  refine j_goto (tgt := 159) dX2_joined_155 rfl ?_
  exact p_f_X2_joined_b159 hd0 1 S jz1
def f_X2_joined_b177 (x0 : Int) (S : jSt) : Option (Int × jSt) :=
  some (x0, S)
theorem p_f_X2_joined_b177 {G : jG} {d : Nat} {S0 : jSt} (hd0 : 1 ≤ d) : ∀ (x0 : Int) (S : jSt), ((x0) = 0 ∨ (x0) = 1) → J G yX2_joined cX2_joined 7 (some .int) d S0 177 [] [(0, x0)] S (f_X2_joined_b177  x0 S) := by
  intro x0 S h0
  unfold f_X2_joined_b177
  exact j_ireturn (jZ_R h0) dX2_joined_177
def f_X2_joined_b176 (S : jSt) : Option (Int × jSt) :=
  f_X2_joined_b177 0 S
theorem p_f_X2_joined_b176 {G : jG} {d : Nat} {S0 : jSt} (hd0 : 1 ≤ d) : ∀ (S : jSt), J G yX2_joined cX2_joined 7 (some .int) d S0 176 [] [] S (f_X2_joined_b176   S) := by
  intro S
  unfold f_X2_joined_b176
  refine j_iconst dX2_joined_176 ?_
  exact p_f_X2_joined_b177 hd0 0 S jz0
def f_X2_joined_b189 (x0 : Int) (S : jSt) : Option (Int × jSt) :=
  some (x0, S)
theorem p_f_X2_joined_b189 {G : jG} {d : Nat} {S0 : jSt} (hd0 : 1 ≤ d) : ∀ (x0 : Int) (S : jSt), ((x0) = 0 ∨ (x0) = 1) → J G yX2_joined cX2_joined 7 (some .int) d S0 189 [] [(0, x0)] S (f_X2_joined_b189  x0 S) := by
  intro x0 S h0
  unfold f_X2_joined_b189
  exact j_ireturn (jZ_R h0) dX2_joined_189
def f_X2_joined_b201 (x0 : Int) (S : jSt) : Option (Int × jSt) :=
  some (x0, S)
theorem p_f_X2_joined_b201 {G : jG} {d : Nat} {S0 : jSt} (hd0 : 1 ≤ d) : ∀ (x0 : Int) (S : jSt), ((x0) = 0 ∨ (x0) = 1) → J G yX2_joined cX2_joined 7 (some .int) d S0 201 [] [(0, x0)] S (f_X2_joined_b201  x0 S) := by
  intro x0 S h0
  unfold f_X2_joined_b201
  exact j_ireturn (jZ_R h0) dX2_joined_201
def f_X2_joined_b213 (x0 : Int) (S : jSt) : Option (Int × jSt) :=
  some (x0, S)
theorem p_f_X2_joined_b213 {G : jG} {d : Nat} {S0 : jSt} (hd0 : 1 ≤ d) : ∀ (x0 : Int) (S : jSt), ((x0) = 0 ∨ (x0) = 1) → J G yX2_joined cX2_joined 7 (some .int) d S0 213 [] [(0, x0)] S (f_X2_joined_b213  x0 S) := by
  intro x0 S h0
  unfold f_X2_joined_b213
  exact j_ireturn (jZ_R h0) dX2_joined_213
def f_X2_joined_b225 (x0 : Int) (S : jSt) : Option (Int × jSt) :=
  some (x0, S)
theorem p_f_X2_joined_b225 {G : jG} {d : Nat} {S0 : jSt} (hd0 : 1 ≤ d) : ∀ (x0 : Int) (S : jSt), ((x0) = 0 ∨ (x0) = 1) → J G yX2_joined cX2_joined 7 (some .int) d S0 225 [] [(0, x0)] S (f_X2_joined_b225  x0 S) := by
  intro x0 S h0
  unfold f_X2_joined_b225
  exact j_ireturn (jZ_R h0) dX2_joined_225
def f_X2_joined_b237 (x0 : Int) (S : jSt) : Option (Int × jSt) :=
  some (x0, S)
theorem p_f_X2_joined_b237 {G : jG} {d : Nat} {S0 : jSt} (hd0 : 1 ≤ d) : ∀ (x0 : Int) (S : jSt), ((x0) = 0 ∨ (x0) = 1) → J G yX2_joined cX2_joined 7 (some .int) d S0 237 [] [(0, x0)] S (f_X2_joined_b237  x0 S) := by
  intro x0 S h0
  unfold f_X2_joined_b237
  exact j_ireturn (jZ_R h0) dX2_joined_237
def f_X2_joined_b117 (x0 : Int) (S : jSt) : Option (Int × jSt) :=
  f_X2_joined_b250 x0 S
theorem p_f_X2_joined_b117 {G : jG} {d : Nat} {S0 : jSt} (hd0 : 1 ≤ d) : ∀ (x0 : Int) (S : jSt), (R64 (x0)) → J G yX2_joined cX2_joined 7 (some .int) d S0 117 [] [(1, x0)] S (f_X2_joined_b117  x0 S) := by
  intro x0 S h0
  unfold f_X2_joined_b117
  refine j_lstore (lv' := [(5, 1, x0)]) dX2_joined_117 (Nat.le_of_ble_eq_true rfl) rfl ?_
  refine j_goto (tgt := 250) dX2_joined_119 rfl ?_
  exact p_f_X2_joined_b250 hd0 x0 S h0
def f_X2_joined (a0 : Int) (a1 : Int) (a2 : Int) (S : jSt) : Option (Int × jSt) :=
  if a0 = 26 then if a2 = 0 then f_X2_joined_b137 0 S else if a2 = 0 then none else f_X2_joined_b137 (w64 (a1 - (lrem64 a1 a2))) S else if a0 = 27 then f_X2_joined_b238 a1 a2 S else if a0 = 28 then if a1 = 0 then if a2 = 0 then f_X2_joined_b159 0 S else f_X2_joined_b154 S else f_X2_joined_b154 S else if a0 = 29 then if a1 = 0 then f_X2_joined_b176 S else if a2 = 0 then f_X2_joined_b176 S else f_X2_joined_b177 1 S else if a0 = 30 then f_X2_joined_b238 a1 a2 S else if a0 = 31 then if a2 ≤ a1 then f_X2_joined_b189 0 S else f_X2_joined_b189 1 S else if a0 = 32 then if a2 < a1 then f_X2_joined_b201 0 S else f_X2_joined_b201 1 S else if a0 = 33 then if a1 ≤ a2 then f_X2_joined_b213 0 S else f_X2_joined_b213 1 S else if a0 = 34 then if a1 < a2 then f_X2_joined_b225 0 S else f_X2_joined_b225 1 S else if a0 = 35 then if a1 = a2 then f_X2_joined_b237 1 S else f_X2_joined_b237 0 S else if a0 = 36 then f_X2_joined_b238 a1 a2 S else if a0 = 37 then flet (w64 (a1 + a2)) (fun v1 => f_X2_joined_b250 v1 S) else if a0 = 38 then flet (w64 (a1 - a2)) (fun v2 => f_X2_joined_b250 v2 S) else if a0 = 39 then flet (w64 (a1 * a2)) (fun v3 => f_X2_joined_b250 v3 S) else if a0 = 40 then if a2 = 0 then f_X2_joined_b117 0 S else if a2 = 0 then none else f_X2_joined_b117 (ldiv64 a1 a2) S else f_X2_joined_b238 a1 a2 S
theorem e_X2_joined {G : jG} {d : Nat} {S0 : jSt} (hd0 : 1 ≤ d) (a0 : Int) (a1 : Int) (a2 : Int) (S : jSt) (h0 : R32 (a0)) (h1 : R64 (a1)) (h2 : R64 (a2)) : J G yX2_joined cX2_joined 7 (some .int) d S0 0 [(0, 0, a0), (1, 1, a1), (3, 1, a2)] [] S (f_X2_joined a0 a1 a2 S) := by
  unfold f_X2_joined
  refine j_lconst (z := 0) dX2_joined_0 rfl ?_
  refine j_lstore (lv' := [(5, 1, 0), (0, 0, a0), (1, 1, a1), (3, 1, a2)]) dX2_joined_1 (Nat.le_of_ble_eq_true rfl) rfl ?_
  refine j_iload_n 1 dX2_joined_3 rfl rfl ?_
  refine j_ite (fun hc0 => ?_) (fun hc0 => ?_)
  · refine j_tableIn (tgt := 122) (off := 118) h0 dX2_joined_4 (by omega) (by omega) (by rw [hc0]; rfl) rfl ?_
    refine j_lload_n 3 dX2_joined_122 rfl rfl ?_
    refine j_lconst (z := 0) dX2_joined_123 rfl ?_
    refine j_lcmp_ne (tgt := 132) h2 (j_r64 0 rfl) dX2_joined_124 dX2_joined_125 rfl (fun _ => ?_) (fun _ => ?_)
    · refine j_lload_n 2 dX2_joined_132 rfl rfl ?_
      refine j_lload_n 2 dX2_joined_133 rfl rfl ?_
      refine j_lload_n 3 dX2_joined_134 rfl rfl ?_
      refine j_lrem h2 dX2_joined_135 ?_
      refine j_lsub dX2_joined_136 ?_
      refine j_sub [] rfl ?_
      exact p_f_X2_joined_b137 hd0 (w64 (a1 - (lrem64 a1 a2))) S (w64_R _)
    · refine j_lconst (z := 0) dX2_joined_128 rfl ?_
      refine j_goto (tgt := 137) dX2_joined_129 rfl ?_
      refine j_sub [] rfl ?_
      exact p_f_X2_joined_b137 hd0 0 S (j_r64 0 rfl)
  refine j_ite (fun hc1 => ?_) (fun hc1 => ?_)
  · refine j_tableIn (tgt := 238) (off := 234) h0 dX2_joined_4 (by omega) (by omega) (by rw [hc1]; rfl) rfl ?_
    refine j_sub [2, 3] rfl ?_
    exact p_f_X2_joined_b238 hd0 a1 a2 S h1 h2
  refine j_ite (fun hc2 => ?_) (fun hc2 => ?_)
  · refine j_tableIn (tgt := 142) (off := 138) h0 dX2_joined_4 (by omega) (by omega) (by rw [hc2]; rfl) rfl ?_
    refine j_lload_n 2 dX2_joined_142 rfl rfl ?_
    refine j_lconst (z := 0) dX2_joined_143 rfl ?_
    refine j_lcmp_ne (tgt := 154) h1 (j_r64 0 rfl) dX2_joined_144 dX2_joined_145 rfl (fun _ => ?_) (fun _ => ?_)
    · refine j_sub [] rfl ?_
      exact p_f_X2_joined_b154 hd0 S
    · refine j_lload_n 3 dX2_joined_148 rfl rfl ?_
      refine j_lconst (z := 0) dX2_joined_149 rfl ?_
      refine j_lcmp_eq (tgt := 158) h2 (j_r64 0 rfl) dX2_joined_150 dX2_joined_151 rfl (fun _ => ?_) (fun _ => ?_)
      · refine j_iconst dX2_joined_158 ?_
        refine j_sub [] rfl ?_
        exact p_f_X2_joined_b159 hd0 0 S jz0
      · refine j_sub [] rfl ?_
        exact p_f_X2_joined_b154 hd0 S
  refine j_ite (fun hc3 => ?_) (fun hc3 => ?_)
  · refine j_tableIn (tgt := 160) (off := 156) h0 dX2_joined_4 (by omega) (by omega) (by rw [hc3]; rfl) rfl ?_
    refine j_lload_n 2 dX2_joined_160 rfl rfl ?_
    refine j_lconst (z := 0) dX2_joined_161 rfl ?_
    refine j_lcmp_eq (tgt := 176) h1 (j_r64 0 rfl) dX2_joined_162 dX2_joined_163 rfl (fun _ => ?_) (fun _ => ?_)
    · refine j_sub [] rfl ?_
      exact p_f_X2_joined_b176 hd0 S
    · refine j_lload_n 3 dX2_joined_166 rfl rfl ?_
      refine j_lconst (z := 0) dX2_joined_167 rfl ?_
      refine j_lcmp_eq (tgt := 176) h2 (j_r64 0 rfl) dX2_joined_168 dX2_joined_169 rfl (fun _ => ?_) (fun _ => ?_)
      · refine j_sub [] rfl ?_
        exact p_f_X2_joined_b176 hd0 S
      · refine j_iconst dX2_joined_172 ?_
        refine j_goto (tgt := 177) dX2_joined_173 rfl ?_
        refine j_sub [] rfl ?_
        exact p_f_X2_joined_b177 hd0 1 S jz1
  refine j_ite (fun hc4 => ?_) (fun hc4 => ?_)
  · refine j_tableIn (tgt := 238) (off := 234) h0 dX2_joined_4 (by omega) (by omega) (by rw [hc4]; rfl) rfl ?_
    refine j_sub [2, 3] rfl ?_
    exact p_f_X2_joined_b238 hd0 a1 a2 S h1 h2
  refine j_ite (fun hc5 => ?_) (fun hc5 => ?_)
  · refine j_tableIn (tgt := 178) (off := 174) h0 dX2_joined_4 (by omega) (by omega) (by rw [hc5]; rfl) rfl ?_
    refine j_lload_n 2 dX2_joined_178 rfl rfl ?_
    refine j_lload_n 3 dX2_joined_179 rfl rfl ?_
    refine j_lcmp_ge (tgt := 188) h1 h2 dX2_joined_180 dX2_joined_181 rfl (fun _ => ?_) (fun _ => ?_)
    · refine j_iconst dX2_joined_188 ?_
      refine j_sub [] rfl ?_
      exact p_f_X2_joined_b189 hd0 0 S jz0
    · refine j_iconst dX2_joined_184 ?_
      refine j_goto (tgt := 189) dX2_joined_185 rfl ?_
      refine j_sub [] rfl ?_
      exact p_f_X2_joined_b189 hd0 1 S jz1
  refine j_ite (fun hc6 => ?_) (fun hc6 => ?_)
  · refine j_tableIn (tgt := 190) (off := 186) h0 dX2_joined_4 (by omega) (by omega) (by rw [hc6]; rfl) rfl ?_
    refine j_lload_n 2 dX2_joined_190 rfl rfl ?_
    refine j_lload_n 3 dX2_joined_191 rfl rfl ?_
    refine j_lcmp_gt (tgt := 200) h1 h2 dX2_joined_192 dX2_joined_193 rfl (fun _ => ?_) (fun _ => ?_)
    · refine j_iconst dX2_joined_200 ?_
      refine j_sub [] rfl ?_
      exact p_f_X2_joined_b201 hd0 0 S jz0
    · refine j_iconst dX2_joined_196 ?_
      refine j_goto (tgt := 201) dX2_joined_197 rfl ?_
      refine j_sub [] rfl ?_
      exact p_f_X2_joined_b201 hd0 1 S jz1
  refine j_ite (fun hc7 => ?_) (fun hc7 => ?_)
  · refine j_tableIn (tgt := 202) (off := 198) h0 dX2_joined_4 (by omega) (by omega) (by rw [hc7]; rfl) rfl ?_
    refine j_lload_n 2 dX2_joined_202 rfl rfl ?_
    refine j_lload_n 3 dX2_joined_203 rfl rfl ?_
    refine j_lcmp_le (tgt := 212) h1 h2 dX2_joined_204 dX2_joined_205 rfl (fun _ => ?_) (fun _ => ?_)
    · refine j_iconst dX2_joined_212 ?_
      refine j_sub [] rfl ?_
      exact p_f_X2_joined_b213 hd0 0 S jz0
    · refine j_iconst dX2_joined_208 ?_
      refine j_goto (tgt := 213) dX2_joined_209 rfl ?_
      refine j_sub [] rfl ?_
      exact p_f_X2_joined_b213 hd0 1 S jz1
  refine j_ite (fun hc8 => ?_) (fun hc8 => ?_)
  · refine j_tableIn (tgt := 214) (off := 210) h0 dX2_joined_4 (by omega) (by omega) (by rw [hc8]; rfl) rfl ?_
    refine j_lload_n 2 dX2_joined_214 rfl rfl ?_
    refine j_lload_n 3 dX2_joined_215 rfl rfl ?_
    refine j_lcmp_lt (tgt := 224) h1 h2 dX2_joined_216 dX2_joined_217 rfl (fun _ => ?_) (fun _ => ?_)
    · refine j_iconst dX2_joined_224 ?_
      refine j_sub [] rfl ?_
      exact p_f_X2_joined_b225 hd0 0 S jz0
    · refine j_iconst dX2_joined_220 ?_
      refine j_goto (tgt := 225) dX2_joined_221 rfl ?_
      refine j_sub [] rfl ?_
      exact p_f_X2_joined_b225 hd0 1 S jz1
  refine j_ite (fun hc9 => ?_) (fun hc9 => ?_)
  · refine j_tableIn (tgt := 226) (off := 222) h0 dX2_joined_4 (by omega) (by omega) (by rw [hc9]; rfl) rfl ?_
    refine j_lload_n 2 dX2_joined_226 rfl rfl ?_
    refine j_lload_n 3 dX2_joined_227 rfl rfl ?_
    refine j_lcmp_ne (tgt := 236) h1 h2 dX2_joined_228 dX2_joined_229 rfl (fun _ => ?_) (fun _ => ?_)
    · refine j_iconst dX2_joined_236 ?_
      refine j_sub [] rfl ?_
      exact p_f_X2_joined_b237 hd0 0 S jz0
    · refine j_iconst dX2_joined_232 ?_
      refine j_goto (tgt := 237) dX2_joined_233 rfl ?_
      refine j_sub [] rfl ?_
      exact p_f_X2_joined_b237 hd0 1 S jz1
  refine j_ite (fun hc10 => ?_) (fun hc10 => ?_)
  · refine j_tableIn (tgt := 238) (off := 234) h0 dX2_joined_4 (by omega) (by omega) (by rw [hc10]; rfl) rfl ?_
    refine j_sub [2, 3] rfl ?_
    exact p_f_X2_joined_b238 hd0 a1 a2 S h1 h2
  refine j_ite (fun hc11 => ?_) (fun hc11 => ?_)
  · refine j_tableIn (tgt := 80) (off := 76) h0 dX2_joined_4 (by omega) (by omega) (by rw [hc11]; rfl) rfl ?_
    refine j_lload_n 2 dX2_joined_80 rfl rfl ?_
    refine j_lload_n 3 dX2_joined_81 rfl rfl ?_
    refine j_ladd dX2_joined_82 ?_
    refine j_letl (w64_R _) (fun v1 hv1 => ?_)
    refine j_lstore (lv' := [(5, 1, v1), (0, 0, a0), (1, 1, a1), (3, 1, a2)]) dX2_joined_83 (Nat.le_of_ble_eq_true rfl) rfl ?_
    refine j_goto (tgt := 250) dX2_joined_85 rfl ?_
    refine j_sub [0] rfl ?_
    exact p_f_X2_joined_b250 hd0 v1 S hv1
  refine j_ite (fun hc12 => ?_) (fun hc12 => ?_)
  · refine j_tableIn (tgt := 88) (off := 84) h0 dX2_joined_4 (by omega) (by omega) (by rw [hc12]; rfl) rfl ?_
    refine j_lload_n 2 dX2_joined_88 rfl rfl ?_
    refine j_lload_n 3 dX2_joined_89 rfl rfl ?_
    refine j_lsub dX2_joined_90 ?_
    refine j_letl (w64_R _) (fun v2 hv2 => ?_)
    refine j_lstore (lv' := [(5, 1, v2), (0, 0, a0), (1, 1, a1), (3, 1, a2)]) dX2_joined_91 (Nat.le_of_ble_eq_true rfl) rfl ?_
    refine j_goto (tgt := 250) dX2_joined_93 rfl ?_
    refine j_sub [0] rfl ?_
    exact p_f_X2_joined_b250 hd0 v2 S hv2
  refine j_ite (fun hc13 => ?_) (fun hc13 => ?_)
  · refine j_tableIn (tgt := 96) (off := 92) h0 dX2_joined_4 (by omega) (by omega) (by rw [hc13]; rfl) rfl ?_
    refine j_lload_n 2 dX2_joined_96 rfl rfl ?_
    refine j_lload_n 3 dX2_joined_97 rfl rfl ?_
    refine j_lmul dX2_joined_98 ?_
    refine j_letl (w64_R _) (fun v3 hv3 => ?_)
    refine j_lstore (lv' := [(5, 1, v3), (0, 0, a0), (1, 1, a1), (3, 1, a2)]) dX2_joined_99 (Nat.le_of_ble_eq_true rfl) rfl ?_
    refine j_goto (tgt := 250) dX2_joined_101 rfl ?_
    refine j_sub [0] rfl ?_
    exact p_f_X2_joined_b250 hd0 v3 S hv3
  refine j_ite (fun hc14 => ?_) (fun hc14 => ?_)
  · refine j_tableIn (tgt := 104) (off := 100) h0 dX2_joined_4 (by omega) (by omega) (by rw [hc14]; rfl) rfl ?_
    refine j_lload_n 3 dX2_joined_104 rfl rfl ?_
    refine j_lconst (z := 0) dX2_joined_105 rfl ?_
    refine j_lcmp_ne (tgt := 114) h2 (j_r64 0 rfl) dX2_joined_106 dX2_joined_107 rfl (fun _ => ?_) (fun _ => ?_)
    · refine j_lload_n 2 dX2_joined_114 rfl rfl ?_
      refine j_lload_n 3 dX2_joined_115 rfl rfl ?_
      refine j_ldiv h2 dX2_joined_116 ?_
      refine j_sub [] rfl ?_
      exact p_f_X2_joined_b117 hd0 (ldiv64 a1 a2) S (ldiv64_R _ _)
    · refine j_lconst (z := 0) dX2_joined_110 rfl ?_
      refine j_goto (tgt := 117) dX2_joined_111 rfl ?_
      refine j_sub [] rfl ?_
      exact p_f_X2_joined_b117 hd0 0 S (j_r64 0 rfl)
  refine j_tableOut (tgt := 238) h0 dX2_joined_4 (by omega) rfl ?_
  refine j_sub [2, 3] rfl ?_
  exact p_f_X2_joined_b238 hd0 a1 a2 S h1 h2
theorem c_X2_joined {G : jG} (a0 : Int) (a1 : Int) (a2 : Int) (S : jSt) (h0 : R32 (a0)) (h1 : R64 (a1)) (h2 : R64 (a2)) : CT G yX2_joined cX2_joined 7 (some .int) 1 ([(0, a0), (1, a1), (1, a2)].map jval) S (f_X2_joined a0 a1 a2 S) := ct_of [(0, a0), (1, a1), (1, a2)] (by decide) rfl (Nat.le_of_ble_eq_true rfl) (e_X2_joined (Nat.le_refl _) a0 a1 a2 S h0 h1 h2)
-- X2_nameAll
def f_X2_nameAll_b198 (x0 : Int) (x1 : Int) (S : jSt) : Option (Int × jSt) :=
  fgetr S x0 2 2 (fun v26 => fast S v26 8 1 x1 (fun S27 => some (0, S27)))
theorem p_f_X2_nameAll_b198 {G : jG} {d : Nat} {S0 : jSt} (hd0 : 1 ≤ d) : ∀ (x0 : Int) (x1 : Int) (S : jSt), (0 ≤ (x0)) → (R32 (x1)) → J G yX2_nameAll cX2_nameAll 7 none d S0 198 [(0, 2, x0), (5, 0, x1)] [] S (f_X2_nameAll_b198  x0 x1 S) := by
  intro x0 x1 S h0 h1
  unfold f_X2_nameAll_b198
  refine j_aload_n 0 dX2_nameAll_198 rfl rfl ?_
  refine j_getr (ci := 2) (k := 2) rfl in_X2 (Nat.le_of_ble_eq_true rfl) rfl rfl fl_X2_15 dX2_nameAll_199 (fun (v26 : Int) (hv26 : 0 ≤ v26) => ?_)
  refine j_bipush dX2_nameAll_202 (by decide) ?_
  refine j_iload 1 dX2_nameAll_204 rfl ?_
  refine j_iastore (j_r32 8 rfl) h1 dX2_nameAll_206 (fun S27 => ?_)
  exact j_return dX2_nameAll_207
def f_X2_nameAll_b189 (r152 : Int → Int → Int → Int → Int → Int → jSt → Option (Int × jSt)) (x0 : Int) (x1 : Int) (x2 : Int) (x3 : Int) (x4 : Int) (x5 : Int) (x6 : Int) (S : jSt) : Option (Int × jSt) :=
  flet (w32 (x5 + x6)) (fun v32 => flet (w32 (x4 + 1)) (fun v33 => r152 x0 x1 x2 x3 v32 v33 S))
theorem p_f_X2_nameAll_b189 {G : jG} {d : Nat} {S0 : jSt} (hd0 : 1 ≤ d) {r152 : Int → Int → Int → Int → Int → Int → jSt → Option (Int × jSt)} (k152 : ∀ (x0 : Int) (x1 : Int) (x2 : Int) (x3 : Int) (x4 : Int) (x5 : Int) (S : jSt), (0 ≤ (x0)) → (0 ≤ (x1)) → (R32 (x2)) → ((x3) = 0 ∨ (x3) = 1) → (R32 (x4)) → (R32 (x5)) → J G yX2_nameAll cX2_nameAll 7 none d S0 152 [(0, 2, x0), (1, 2, x1), (3, 0, x2), (4, 0, x3), (5, 0, x4), (6, 0, x5)] [] S (r152 x0 x1 x2 x3 x4 x5 S)) : ∀ (x0 : Int) (x1 : Int) (x2 : Int) (x3 : Int) (x4 : Int) (x5 : Int) (x6 : Int) (S : jSt), (0 ≤ (x0)) → (0 ≤ (x1)) → (R32 (x2)) → ((x3) = 0 ∨ (x3) = 1) → (R32 (x4)) → (R32 (x5)) → ((x6) = 0 ∨ (x6) = 1) → J G yX2_nameAll cX2_nameAll 7 none d S0 189 [(0, 2, x0), (1, 2, x1), (3, 0, x2), (4, 0, x3), (6, 0, x4)] [(0, x6), (0, x5)] S (f_X2_nameAll_b189 r152 x0 x1 x2 x3 x4 x5 x6 S) := by
  intro x0 x1 x2 x3 x4 x5 x6 S h0 h1 h2 h3 h4 h5 h6
  unfold f_X2_nameAll_b189
  refine j_iadd dX2_nameAll_189 ?_
  refine j_leti (w32_R _) (fun v32 hv32 => ?_)
  refine j_istore (lv' := [(5, 0, v32), (0, 2, x0), (1, 2, x1), (3, 0, x2), (4, 0, x3), (6, 0, x4)]) dX2_nameAll_190 (Nat.le_of_ble_eq_true rfl) rfl ?_
  refine j_iincL (q := 5) dX2_nameAll_192 rfl (Nat.le_of_ble_eq_true rfl) (fun v33 hv33 => ?_)
  refine j_lv (lv' := [(6, 0, v33), (5, 0, v32), (0, 2, x0), (1, 2, x1), (3, 0, x2), (4, 0, x3)]) rfl ?_
  refine j_goto (tgt := 152) dX2_nameAll_195 rfl ?_
  refine j_sub [2, 3, 4, 5, 1, 0] rfl ?_
  exact k152 x0 x1 x2 x3 v32 v33 S h0 h1 h2 h3 hv32 hv33
def f_X2_nameAll_b152B (r152 : Int → Int → Int → Int → Int → Int → jSt → Option (Int × jSt)) (x0 : Int) (x1 : Int) (x2 : Int) (x3 : Int) (x4 : Int) (x5 : Int) (S : jSt) : Option (Int × jSt) :=
  if x3 = 0 then f_X2_nameAll_b198 x0 x4 S else fgetr S x0 2 0 (fun v28 => fget S v28 10 0 (fun v29 => if v29 ≤ x5 then f_X2_nameAll_b198 x0 x4 S else fgetr S x1 1 0 (fun v30 => fald S v30 x5 1 (fun v31 => if v31 = (w32 (3 + x2)) then f_X2_nameAll_b189 r152 x0 x1 x2 x3 x5 x4 1 S else f_X2_nameAll_b189 r152 x0 x1 x2 x3 x5 x4 0 S))))
theorem p_f_X2_nameAll_b152B {G : jG} {d : Nat} {S0 : jSt} (hd0 : 1 ≤ d) {r152 : Int → Int → Int → Int → Int → Int → jSt → Option (Int × jSt)} (k152 : ∀ (x0 : Int) (x1 : Int) (x2 : Int) (x3 : Int) (x4 : Int) (x5 : Int) (S : jSt), (0 ≤ (x0)) → (0 ≤ (x1)) → (R32 (x2)) → ((x3) = 0 ∨ (x3) = 1) → (R32 (x4)) → (R32 (x5)) → J G yX2_nameAll cX2_nameAll 7 none d S0 152 [(0, 2, x0), (1, 2, x1), (3, 0, x2), (4, 0, x3), (5, 0, x4), (6, 0, x5)] [] S (r152 x0 x1 x2 x3 x4 x5 S)) : ∀ (x0 : Int) (x1 : Int) (x2 : Int) (x3 : Int) (x4 : Int) (x5 : Int) (S : jSt), (0 ≤ (x0)) → (0 ≤ (x1)) → (R32 (x2)) → ((x3) = 0 ∨ (x3) = 1) → (R32 (x4)) → (R32 (x5)) → J G yX2_nameAll cX2_nameAll 7 none d S0 152 [(0, 2, x0), (1, 2, x1), (3, 0, x2), (4, 0, x3), (5, 0, x4), (6, 0, x5)] [] S (f_X2_nameAll_b152B r152 x0 x1 x2 x3 x4 x5 S) := by
  intro x0 x1 x2 x3 x4 x5 S h0 h1 h2 h3 h4 h5
  unfold f_X2_nameAll_b152B
  refine j_iload 3 dX2_nameAll_152 rfl ?_
  refine j_if_eq (tgt := 198) (jZ_R h3) dX2_nameAll_154 rfl (fun _ => ?_) (fun _ => ?_)
  · refine j_sub [0, 4] rfl ?_
    exact p_f_X2_nameAll_b198 hd0 x0 x4 S h0 h4
  · refine j_iload 5 dX2_nameAll_157 rfl ?_
    refine j_aload_n 0 dX2_nameAll_159 rfl rfl ?_
    refine j_getr (ci := 2) (k := 0) rfl in_X2 (Nat.le_of_ble_eq_true rfl) rfl rfl fl_X2_18 dX2_nameAll_160 (fun (v28 : Int) (hv28 : 0 ≤ v28) => ?_)
    refine j_get (ci := 10) (k := 0) (t := 0) rfl in_X10 (Nat.le_of_ble_eq_true rfl) rfl rfl fl_X2_83 dX2_nameAll_163 (fun (v29 : Int) (hv29 : R32 (v29)) => ?_)
    refine j_icmp_ge (tgt := 198) h5 hv29 dX2_nameAll_166 rfl (fun _ => ?_) (fun _ => ?_)
    · refine j_sub [0, 4] rfl ?_
      exact p_f_X2_nameAll_b198 hd0 x0 x4 S h0 h4
    · refine j_iload 4 dX2_nameAll_169 rfl ?_
      refine j_aload_n 1 dX2_nameAll_171 rfl rfl ?_
      refine j_getr (ci := 1) (k := 0) rfl in_X1 (Nat.le_of_ble_eq_true rfl) rfl rfl fl_X2_86 dX2_nameAll_172 (fun (v30 : Int) (hv30 : 0 ≤ v30) => ?_)
      refine j_iload 5 dX2_nameAll_175 rfl ?_
      refine j_iaload h5 dX2_nameAll_177 (fun (v31 : Int) (hv31 : R32 (v31)) => ?_)
      refine j_iconst dX2_nameAll_178 ?_
      refine j_iload_n 2 dX2_nameAll_179 rfl rfl ?_
      refine j_iadd dX2_nameAll_180 ?_
      refine j_icmp_ne (tgt := 188) hv31 (w32_R _) dX2_nameAll_181 rfl (fun _ => ?_) (fun _ => ?_)
      · refine j_iconst dX2_nameAll_188 ?_
        refine j_sub [0, 1, 2, 3, 5] rfl ?_
        exact p_f_X2_nameAll_b189 hd0 k152 x0 x1 x2 x3 x5 x4 0 S h0 h1 h2 h3 h5 h4 jz0
      · refine j_iconst dX2_nameAll_184 ?_
        refine j_goto (tgt := 189) dX2_nameAll_185 rfl ?_
        refine j_sub [0, 1, 2, 3, 5] rfl ?_
        exact p_f_X2_nameAll_b189 hd0 k152 x0 x1 x2 x3 x5 x4 1 S h0 h1 h2 h3 h5 h4 jz1
def f_X2_nameAll_b152 : Int → Int → Int → Int → Int → Int → jSt → Option (Int × jSt) := jrep (β := Int → Int → Int → Int → Int → Int → jSt → Option (Int × jSt)) (fun _ _ _ _ _ _ _ => none) (fun r => f_X2_nameAll_b152B r) jN
theorem p_f_X2_nameAll_b152 {G : jG} {d : Nat} {S0 : jSt} (hd0 : 1 ≤ d) : ∀ (x0 : Int) (x1 : Int) (x2 : Int) (x3 : Int) (x4 : Int) (x5 : Int) (S : jSt), (0 ≤ (x0)) → (0 ≤ (x1)) → (R32 (x2)) → ((x3) = 0 ∨ (x3) = 1) → (R32 (x4)) → (R32 (x5)) → J G yX2_nameAll cX2_nameAll 7 none d S0 152 [(0, 2, x0), (1, 2, x1), (3, 0, x2), (4, 0, x3), (5, 0, x4), (6, 0, x5)] [] S (f_X2_nameAll_b152  x0 x1 x2 x3 x4 x5 S) :=
  jrep_ind (P := fun (r : Int → Int → Int → Int → Int → Int → jSt → Option (Int × jSt)) => ∀ (x0 : Int) (x1 : Int) (x2 : Int) (x3 : Int) (x4 : Int) (x5 : Int) (S : jSt), (0 ≤ (x0)) → (0 ≤ (x1)) → (R32 (x2)) → ((x3) = 0 ∨ (x3) = 1) → (R32 (x4)) → (R32 (x5)) → J G yX2_nameAll cX2_nameAll 7 none d S0 152 [(0, 2, x0), (1, 2, x1), (3, 0, x2), (4, 0, x3), (5, 0, x4), (6, 0, x5)] [] S (r x0 x1 x2 x3 x4 x5 S)) (by intros; exact j_none) (fun r k => p_f_X2_nameAll_b152B hd0 k) jN
def f_X2_nameAll_b145 (x0 : Int) (x1 : Int) (x2 : Int) (x3 : Int) (x4 : Int) (x5 : Int) (x6 : Int) (S : jSt) : Option (Int × jSt) :=
  fast S x4 x5 1 x6 (fun S25 => f_X2_nameAll_b152 x0 x1 x2 x3 0 0 S25)
theorem p_f_X2_nameAll_b145 {G : jG} {d : Nat} {S0 : jSt} (hd0 : 1 ≤ d) : ∀ (x0 : Int) (x1 : Int) (x2 : Int) (x3 : Int) (x4 : Int) (x5 : Int) (x6 : Int) (S : jSt), (0 ≤ (x0)) → (0 ≤ (x1)) → (R32 (x2)) → ((x3) = 0 ∨ (x3) = 1) → (0 ≤ (x4)) → (R32 (x5)) → (R32 (x6)) → J G yX2_nameAll cX2_nameAll 7 none d S0 145 [(0, 2, x0), (1, 2, x1), (3, 0, x2), (4, 0, x3)] [(0, x6), (0, x5), (2, x4)] S (f_X2_nameAll_b145  x0 x1 x2 x3 x4 x5 x6 S) := by
  intro x0 x1 x2 x3 x4 x5 x6 S h0 h1 h2 h3 h4 h5 h6
  unfold f_X2_nameAll_b145
  refine j_iastore h5 h6 dX2_nameAll_145 (fun S25 => ?_)
  refine j_iconst dX2_nameAll_146 ?_
  refine j_istore (lv' := [(5, 0, 0), (0, 2, x0), (1, 2, x1), (3, 0, x2), (4, 0, x3)]) dX2_nameAll_147 (Nat.le_of_ble_eq_true rfl) rfl ?_
  refine j_iconst dX2_nameAll_149 ?_
  refine j_istore (lv' := [(6, 0, 0), (5, 0, 0), (0, 2, x0), (1, 2, x1), (3, 0, x2), (4, 0, x3)]) dX2_nameAll_150 (Nat.le_of_ble_eq_true rfl) rfl ?_
  refine j_sub [2, 3, 4, 5, 1, 0] rfl ?_
  exact p_f_X2_nameAll_b152 hd0 x0 x1 x2 x3 0 0 S25 h0 h1 h2 h3 (jZ_R jz0) (jZ_R jz0)
def f_X2_nameAll_b128 (x0 : Int) (x1 : Int) (x2 : Int) (x3 : Int) (x4 : Int) (x5 : Int) (x6 : Int) (S : jSt) : Option (Int × jSt) :=
  fast S x4 x5 1 x6 (fun S23 => fgetr S23 x0 2 2 (fun v24 => if x3 = 0 then f_X2_nameAll_b145 x0 x1 x2 x3 v24 7 0 S23 else f_X2_nameAll_b145 x0 x1 x2 x3 v24 7 x2 S23))
theorem p_f_X2_nameAll_b128 {G : jG} {d : Nat} {S0 : jSt} (hd0 : 1 ≤ d) : ∀ (x0 : Int) (x1 : Int) (x2 : Int) (x3 : Int) (x4 : Int) (x5 : Int) (x6 : Int) (S : jSt), (0 ≤ (x0)) → (0 ≤ (x1)) → (R32 (x2)) → ((x3) = 0 ∨ (x3) = 1) → (0 ≤ (x4)) → (R32 (x5)) → (R32 (x6)) → J G yX2_nameAll cX2_nameAll 7 none d S0 128 [(0, 2, x0), (1, 2, x1), (3, 0, x2), (4, 0, x3)] [(0, x6), (0, x5), (2, x4)] S (f_X2_nameAll_b128  x0 x1 x2 x3 x4 x5 x6 S) := by
  intro x0 x1 x2 x3 x4 x5 x6 S h0 h1 h2 h3 h4 h5 h6
  unfold f_X2_nameAll_b128
  refine j_iastore h5 h6 dX2_nameAll_128 (fun S23 => ?_)
  refine j_aload_n 0 dX2_nameAll_129 rfl rfl ?_
  refine j_getr (ci := 2) (k := 2) rfl in_X2 (Nat.le_of_ble_eq_true rfl) rfl rfl fl_X2_15 dX2_nameAll_130 (fun (v24 : Int) (hv24 : 0 ≤ v24) => ?_)
  refine j_bipush dX2_nameAll_133 (by decide) ?_
  refine j_iload 3 dX2_nameAll_135 rfl ?_
  refine j_if_eq (tgt := 144) (jZ_R h3) dX2_nameAll_137 rfl (fun _ => ?_) (fun _ => ?_)
  · refine j_iconst dX2_nameAll_144 ?_
    exact p_f_X2_nameAll_b145 hd0 x0 x1 x2 x3 v24 7 0 S23 h0 h1 h2 h3 hv24 (j_r32 7 rfl) (jZ_R jz0)
  · refine j_iload_n 2 dX2_nameAll_140 rfl rfl ?_
    refine j_goto (tgt := 145) dX2_nameAll_141 rfl ?_
    exact p_f_X2_nameAll_b145 hd0 x0 x1 x2 x3 v24 7 x2 S23 h0 h1 h2 h3 hv24 (j_r32 7 rfl) h2
def f_X2_nameAll_b106 (x0 : Int) (x1 : Int) (x2 : Int) (x3 : Int) (x4 : Int) (x5 : Int) (x6 : Int) (S : jSt) : Option (Int × jSt) :=
  fast S x4 x5 1 x6 (fun S21 => fgetr S21 x0 2 2 (fun v22 => if x3 = 0 then f_X2_nameAll_b128 x0 x1 x2 x3 v22 6 0 S21 else fgetr S21 x1 1 2 (fun v34 => fald S21 v34 x2 1 (fun v35 => f_X2_nameAll_b128 x0 x1 x2 x3 v22 6 v35 S21))))
theorem p_f_X2_nameAll_b106 {G : jG} {d : Nat} {S0 : jSt} (hd0 : 1 ≤ d) : ∀ (x0 : Int) (x1 : Int) (x2 : Int) (x3 : Int) (x4 : Int) (x5 : Int) (x6 : Int) (S : jSt), (0 ≤ (x0)) → (0 ≤ (x1)) → (R32 (x2)) → ((x3) = 0 ∨ (x3) = 1) → (0 ≤ (x4)) → ((x5) = 0 ∨ (x5) = 1) → (R32 (x6)) → J G yX2_nameAll cX2_nameAll 7 none d S0 106 [(0, 2, x0), (1, 2, x1), (3, 0, x2), (4, 0, x3)] [(0, x6), (0, x5), (2, x4)] S (f_X2_nameAll_b106  x0 x1 x2 x3 x4 x5 x6 S) := by
  intro x0 x1 x2 x3 x4 x5 x6 S h0 h1 h2 h3 h4 h5 h6
  unfold f_X2_nameAll_b106
  refine j_iastore (jZ_R h5) h6 dX2_nameAll_106 (fun S21 => ?_)
  refine j_aload_n 0 dX2_nameAll_107 rfl rfl ?_
  refine j_getr (ci := 2) (k := 2) rfl in_X2 (Nat.le_of_ble_eq_true rfl) rfl rfl fl_X2_15 dX2_nameAll_108 (fun (v22 : Int) (hv22 : 0 ≤ v22) => ?_)
  refine j_bipush dX2_nameAll_111 (by decide) ?_
  refine j_iload 3 dX2_nameAll_113 rfl ?_
  refine j_if_eq (tgt := 127) (jZ_R h3) dX2_nameAll_115 rfl (fun _ => ?_) (fun _ => ?_)
  · refine j_iconst dX2_nameAll_127 ?_
    exact p_f_X2_nameAll_b128 hd0 x0 x1 x2 x3 v22 6 0 S21 h0 h1 h2 h3 hv22 (j_r32 6 rfl) (jZ_R jz0)
  · refine j_aload_n 1 dX2_nameAll_118 rfl rfl ?_
    refine j_getr (ci := 1) (k := 2) rfl in_X1 (Nat.le_of_ble_eq_true rfl) rfl rfl fl_X2_80 dX2_nameAll_119 (fun (v34 : Int) (hv34 : 0 ≤ v34) => ?_)
    refine j_iload_n 2 dX2_nameAll_122 rfl rfl ?_
    refine j_iaload h2 dX2_nameAll_123 (fun (v35 : Int) (hv35 : R32 (v35)) => ?_)
    refine j_goto (tgt := 128) dX2_nameAll_124 rfl ?_
    exact p_f_X2_nameAll_b128 hd0 x0 x1 x2 x3 v22 6 v35 S21 h0 h1 h2 h3 hv22 (j_r32 6 rfl) hv35
def f_X2_nameAll_b79 (x0 : Int) (x1 : Int) (x2 : Int) (x3 : Int) (x4 : Int) (S : jSt) : Option (Int × jSt) :=
  fgetr S x0 2 2 (fun v20 => if x4 = 0 then f_X2_nameAll_b106 x0 x1 x3 x4 v20 1 0 S else fgetr S x1 1 3 (fun v36 => fald S v36 (w32 ((w32 (x3 * 12)) + x2)) 1 (fun v37 => f_X2_nameAll_b106 x0 x1 x3 x4 v20 1 v37 S)))
theorem p_f_X2_nameAll_b79 {G : jG} {d : Nat} {S0 : jSt} (hd0 : 1 ≤ d) : ∀ (x0 : Int) (x1 : Int) (x2 : Int) (x3 : Int) (x4 : Int) (S : jSt), (0 ≤ (x0)) → (0 ≤ (x1)) → (R32 (x2)) → (R32 (x3)) → ((x4) = 0 ∨ (x4) = 1) → J G yX2_nameAll cX2_nameAll 7 none d S0 79 [(0, 2, x0), (1, 2, x1), (2, 0, x2), (3, 0, x3)] [(0, x4)] S (f_X2_nameAll_b79  x0 x1 x2 x3 x4 S) := by
  intro x0 x1 x2 x3 x4 S h0 h1 h2 h3 h4
  unfold f_X2_nameAll_b79
  refine j_istore (lv' := [(4, 0, x4), (0, 2, x0), (1, 2, x1), (2, 0, x2), (3, 0, x3)]) dX2_nameAll_79 (Nat.le_of_ble_eq_true rfl) rfl ?_
  refine j_aload_n 1 dX2_nameAll_81 rfl rfl ?_
  refine j_getr (ci := 2) (k := 2) rfl in_X2 (Nat.le_of_ble_eq_true rfl) rfl rfl fl_X2_15 dX2_nameAll_82 (fun (v20 : Int) (hv20 : 0 ≤ v20) => ?_)
  refine j_iconst dX2_nameAll_85 ?_
  refine j_iload 0 dX2_nameAll_86 rfl ?_
  refine j_if_eq (tgt := 105) (jZ_R h4) dX2_nameAll_88 rfl (fun _ => ?_) (fun _ => ?_)
  · refine j_iconst dX2_nameAll_105 ?_
    refine j_sub [1, 2, 4, 0] rfl ?_
    exact p_f_X2_nameAll_b106 hd0 x0 x1 x3 x4 v20 1 0 S h0 h1 h3 h4 hv20 jz1 (jZ_R jz0)
  · refine j_aload_n 2 dX2_nameAll_91 rfl rfl ?_
    refine j_getr (ci := 1) (k := 3) rfl in_X1 (Nat.le_of_ble_eq_true rfl) rfl rfl fl_X2_77 dX2_nameAll_92 (fun (v36 : Int) (hv36 : 0 ≤ v36) => ?_)
    refine j_iload_n 4 dX2_nameAll_95 rfl rfl ?_
    refine j_bipush dX2_nameAll_96 (by decide) ?_
    refine j_imul dX2_nameAll_98 ?_
    refine j_iload_n 3 dX2_nameAll_99 rfl rfl ?_
    refine j_iadd dX2_nameAll_100 ?_
    refine j_iaload (w32_R _) dX2_nameAll_101 (fun (v37 : Int) (hv37 : R32 (v37)) => ?_)
    refine j_goto (tgt := 106) dX2_nameAll_102 rfl ?_
    refine j_sub [1, 2, 4, 0] rfl ?_
    exact p_f_X2_nameAll_b106 hd0 x0 x1 x3 x4 v20 1 v37 S h0 h1 h3 h4 hv20 jz1 hv37
def f_X2_nameAll_b78 (x0 : Int) (x1 : Int) (x2 : Int) (x3 : Int) (S : jSt) : Option (Int × jSt) :=
  f_X2_nameAll_b79 x0 x1 x2 x3 0 S
theorem p_f_X2_nameAll_b78 {G : jG} {d : Nat} {S0 : jSt} (hd0 : 1 ≤ d) : ∀ (x0 : Int) (x1 : Int) (x2 : Int) (x3 : Int) (S : jSt), (0 ≤ (x0)) → (0 ≤ (x1)) → (R32 (x2)) → (R32 (x3)) → J G yX2_nameAll cX2_nameAll 7 none d S0 78 [(0, 2, x0), (1, 2, x1), (2, 0, x2), (3, 0, x3)] [] S (f_X2_nameAll_b78  x0 x1 x2 x3 S) := by
  intro x0 x1 x2 x3 S h0 h1 h2 h3
  unfold f_X2_nameAll_b78
  refine j_iconst dX2_nameAll_78 ?_
  exact p_f_X2_nameAll_b79 hd0 x0 x1 x2 x3 0 S h0 h1 h2 h3 jz0
def f_X2_nameAll (a0 : Int) (a1 : Int) (a2 : Int) (a3 : Int) (S : jSt) : Option (Int × jSt) :=
  fgetr S a0 2 2 (fun v1 => fast S v1 0 1 a2 (fun S2 => fgetr S2 a0 2 2 (fun v3 => fget S2 a1 1 7 (fun v4 => fast S2 v3 2 1 v4 (fun S5 => fgetr S5 a0 2 2 (fun v6 => fgetr S5 a0 2 0 (fun v7 => fgetr S5 v7 10 2 (fun v8 => fald S5 v8 a2 1 (fun v9 => fast S5 v6 3 1 v9 (fun S10 => fgetr S10 a0 2 2 (fun v11 => fgetr S10 a0 2 0 (fun v12 => fgetr S10 v12 10 3 (fun v13 => fald S10 v13 a2 1 (fun v14 => fast S10 v11 4 1 v14 (fun S15 => fgetr S15 a0 2 2 (fun v16 => fgetr S15 a1 1 1 (fun v17 => fald S15 v17 a2 1 (fun v18 => fast S15 v16 5 1 v18 (fun S19 => if a3 < 0 then f_X2_nameAll_b78 a0 a1 a2 a3 S19 else fgetr S19 a0 2 0 (fun v38 => fget S19 v38 10 1 (fun v39 => if v39 ≤ a3 then f_X2_nameAll_b78 a0 a1 a2 a3 S19 else f_X2_nameAll_b79 a0 a1 a2 a3 1 S19)))))))))))))))))))))
theorem e_X2_nameAll {G : jG} {d : Nat} {S0 : jSt} (hd0 : 1 ≤ d) (a0 : Int) (a1 : Int) (a2 : Int) (a3 : Int) (S : jSt) (h0 : 0 ≤ (a0)) (h1 : 0 ≤ (a1)) (h2 : R32 (a2)) (h3 : R32 (a3)) : J G yX2_nameAll cX2_nameAll 7 none d S0 0 [(0, 2, a0), (1, 2, a1), (2, 0, a2), (3, 0, a3)] [] S (f_X2_nameAll a0 a1 a2 a3 S) := by
  unfold f_X2_nameAll
  refine j_aload_n 0 dX2_nameAll_0 rfl rfl ?_
  refine j_getr (ci := 2) (k := 2) rfl in_X2 (Nat.le_of_ble_eq_true rfl) rfl rfl fl_X2_15 dX2_nameAll_1 (fun (v1 : Int) (hv1 : 0 ≤ v1) => ?_)
  refine j_iconst dX2_nameAll_4 ?_
  refine j_iload_n 2 dX2_nameAll_5 rfl rfl ?_
  refine j_iastore (jZ_R jz0) h2 dX2_nameAll_6 (fun S2 => ?_)
  refine j_aload_n 0 dX2_nameAll_7 rfl rfl ?_
  refine j_getr (ci := 2) (k := 2) rfl in_X2 (Nat.le_of_ble_eq_true rfl) rfl rfl fl_X2_15 dX2_nameAll_8 (fun (v3 : Int) (hv3 : 0 ≤ v3) => ?_)
  refine j_iconst dX2_nameAll_11 ?_
  refine j_aload_n 1 dX2_nameAll_12 rfl rfl ?_
  refine j_get (ci := 1) (k := 7) (t := 0) rfl in_X1 (Nat.le_of_ble_eq_true rfl) rfl rfl fl_X2_57 dX2_nameAll_13 (fun (v4 : Int) (hv4 : R32 (v4)) => ?_)
  refine j_iastore (j_r32 2 rfl) hv4 dX2_nameAll_16 (fun S5 => ?_)
  refine j_aload_n 0 dX2_nameAll_17 rfl rfl ?_
  refine j_getr (ci := 2) (k := 2) rfl in_X2 (Nat.le_of_ble_eq_true rfl) rfl rfl fl_X2_15 dX2_nameAll_18 (fun (v6 : Int) (hv6 : 0 ≤ v6) => ?_)
  refine j_iconst dX2_nameAll_21 ?_
  refine j_aload_n 0 dX2_nameAll_22 rfl rfl ?_
  refine j_getr (ci := 2) (k := 0) rfl in_X2 (Nat.le_of_ble_eq_true rfl) rfl rfl fl_X2_18 dX2_nameAll_23 (fun (v7 : Int) (hv7 : 0 ≤ v7) => ?_)
  refine j_getr (ci := 10) (k := 2) rfl in_X10 (Nat.le_of_ble_eq_true rfl) rfl rfl fl_X2_63 dX2_nameAll_26 (fun (v8 : Int) (hv8 : 0 ≤ v8) => ?_)
  refine j_iload_n 2 dX2_nameAll_29 rfl rfl ?_
  refine j_iaload h2 dX2_nameAll_30 (fun (v9 : Int) (hv9 : R32 (v9)) => ?_)
  refine j_iastore (j_r32 3 rfl) hv9 dX2_nameAll_31 (fun S10 => ?_)
  refine j_aload_n 0 dX2_nameAll_32 rfl rfl ?_
  refine j_getr (ci := 2) (k := 2) rfl in_X2 (Nat.le_of_ble_eq_true rfl) rfl rfl fl_X2_15 dX2_nameAll_33 (fun (v11 : Int) (hv11 : 0 ≤ v11) => ?_)
  refine j_iconst dX2_nameAll_36 ?_
  refine j_aload_n 0 dX2_nameAll_37 rfl rfl ?_
  refine j_getr (ci := 2) (k := 0) rfl in_X2 (Nat.le_of_ble_eq_true rfl) rfl rfl fl_X2_18 dX2_nameAll_38 (fun (v12 : Int) (hv12 : 0 ≤ v12) => ?_)
  refine j_getr (ci := 10) (k := 3) rfl in_X10 (Nat.le_of_ble_eq_true rfl) rfl rfl fl_X2_68 dX2_nameAll_41 (fun (v13 : Int) (hv13 : 0 ≤ v13) => ?_)
  refine j_iload_n 2 dX2_nameAll_44 rfl rfl ?_
  refine j_iaload h2 dX2_nameAll_45 (fun (v14 : Int) (hv14 : R32 (v14)) => ?_)
  refine j_iastore (j_r32 4 rfl) hv14 dX2_nameAll_46 (fun S15 => ?_)
  refine j_aload_n 0 dX2_nameAll_47 rfl rfl ?_
  refine j_getr (ci := 2) (k := 2) rfl in_X2 (Nat.le_of_ble_eq_true rfl) rfl rfl fl_X2_15 dX2_nameAll_48 (fun (v16 : Int) (hv16 : 0 ≤ v16) => ?_)
  refine j_iconst dX2_nameAll_51 ?_
  refine j_aload_n 1 dX2_nameAll_52 rfl rfl ?_
  refine j_getr (ci := 1) (k := 1) rfl in_X1 (Nat.le_of_ble_eq_true rfl) rfl rfl fl_X2_71 dX2_nameAll_53 (fun (v17 : Int) (hv17 : 0 ≤ v17) => ?_)
  refine j_iload_n 2 dX2_nameAll_56 rfl rfl ?_
  refine j_iaload h2 dX2_nameAll_57 (fun (v18 : Int) (hv18 : R32 (v18)) => ?_)
  refine j_iastore (j_r32 5 rfl) hv18 dX2_nameAll_58 (fun S19 => ?_)
  refine j_iload_n 3 dX2_nameAll_59 rfl rfl ?_
  refine j_if_lt (tgt := 78) h3 dX2_nameAll_60 rfl (fun _ => ?_) (fun _ => ?_)
  · exact p_f_X2_nameAll_b78 hd0 a0 a1 a2 a3 S19 h0 h1 h2 h3
  · refine j_iload_n 3 dX2_nameAll_63 rfl rfl ?_
    refine j_aload_n 0 dX2_nameAll_64 rfl rfl ?_
    refine j_getr (ci := 2) (k := 0) rfl in_X2 (Nat.le_of_ble_eq_true rfl) rfl rfl fl_X2_18 dX2_nameAll_65 (fun (v38 : Int) (hv38 : 0 ≤ v38) => ?_)
    refine j_get (ci := 10) (k := 1) (t := 0) rfl in_X10 (Nat.le_of_ble_eq_true rfl) rfl rfl fl_X2_74 dX2_nameAll_68 (fun (v39 : Int) (hv39 : R32 (v39)) => ?_)
    refine j_icmp_ge (tgt := 78) h3 hv39 dX2_nameAll_71 rfl (fun _ => ?_) (fun _ => ?_)
    · exact p_f_X2_nameAll_b78 hd0 a0 a1 a2 a3 S19 h0 h1 h2 h3
    · refine j_iconst dX2_nameAll_74 ?_
      refine j_goto (tgt := 79) dX2_nameAll_75 rfl ?_
      exact p_f_X2_nameAll_b79 hd0 a0 a1 a2 a3 1 S19 h0 h1 h2 h3 jz1
theorem c_X2_nameAll {G : jG} (a0 : Int) (a1 : Int) (a2 : Int) (a3 : Int) (S : jSt) (h0 : 0 ≤ (a0)) (h1 : 0 ≤ (a1)) (h2 : R32 (a2)) (h3 : R32 (a3)) : CT G yX2_nameAll cX2_nameAll 7 none 1 ([(2, a0), (2, a1), (0, a2), (0, a3)].map jval) S (f_X2_nameAll a0 a1 a2 a3 S) := ct_of [(2, a0), (2, a1), (0, a2), (0, a3)] (by decide) rfl (Nat.le_of_ble_eq_true rfl) (e_X2_nameAll (Nat.le_refl _) a0 a1 a2 a3 S h0 h1 h2 h3)
-- X2_turned
def f_X2_turned_b53 (x0 : Int) (S : jSt) : Option (Int × jSt) :=
  some (x0, S)
theorem p_f_X2_turned_b53 {G : jG} {d : Nat} {S0 : jSt} (hd0 : 1 ≤ d) : ∀ (x0 : Int) (S : jSt), (R32 (x0)) → J G yX2_turned cX2_turned 3 (some .int) d S0 53 [] [(0, x0)] S (f_X2_turned_b53  x0 S) := by
  intro x0 S h0
  unfold f_X2_turned_b53
  exact j_ireturn h0 dX2_turned_53
def f_X2_turned_b52 (S : jSt) : Option (Int × jSt) :=
  f_X2_turned_b53 0 S
theorem p_f_X2_turned_b52 {G : jG} {d : Nat} {S0 : jSt} (hd0 : 1 ≤ d) : ∀ (S : jSt), J G yX2_turned cX2_turned 3 (some .int) d S0 52 [] [] S (f_X2_turned_b52   S) := by
  intro S
  unfold f_X2_turned_b52
  refine j_iconst dX2_turned_52 ?_
  exact p_f_X2_turned_b53 hd0 0 S (jZ_R jz0)
def f_X2_turned_b24 (x0 : Int) (S : jSt) : Option (Int × jSt) :=
  some (x0, S)
theorem p_f_X2_turned_b24 {G : jG} {d : Nat} {S0 : jSt} (hd0 : 1 ≤ d) : ∀ (x0 : Int) (S : jSt), ((x0) = 0 ∨ (x0) = 1) → J G yX2_turned cX2_turned 3 (some .int) d S0 24 [] [(0, x0)] S (f_X2_turned_b24  x0 S) := by
  intro x0 S h0
  unfold f_X2_turned_b24
  exact j_ireturn (jZ_R h0) dX2_turned_24
def f_X2_turned (a0 : Int) (a1 : Int) (a2 : Int) (S : jSt) : Option (Int × jSt) :=
  if a1 = 45 then some (w32 (-a2), S) else if a1 = 25 then if a2 = 0 then f_X2_turned_b24 1 S else f_X2_turned_b24 0 S else if a2 < 0 then f_X2_turned_b52 S else fgetr S a0 2 0 (fun v1 => fget S v1 10 0 (fun v2 => if v2 ≤ a2 then f_X2_turned_b52 S else fgetr S a0 2 0 (fun v3 => fgetr S v3 10 2 (fun v4 => fald S v4 a2 1 (fun v5 => f_X2_turned_b53 v5 S)))))
theorem e_X2_turned {G : jG} {d : Nat} {S0 : jSt} (hd0 : 1 ≤ d) (a0 : Int) (a1 : Int) (a2 : Int) (S : jSt) (h0 : 0 ≤ (a0)) (h1 : R32 (a1)) (h2 : R32 (a2)) : J G yX2_turned cX2_turned 3 (some .int) d S0 0 [(0, 2, a0), (1, 0, a1), (2, 0, a2)] [] S (f_X2_turned a0 a1 a2 S) := by
  unfold f_X2_turned
  refine j_iload_n 1 dX2_turned_0 rfl rfl ?_
  refine j_bipush dX2_turned_1 (by decide) ?_
  refine j_icmp_ne (tgt := 9) h1 (j_r32 45 rfl) dX2_turned_3 rfl (fun _ => ?_) (fun _ => ?_)
  · refine j_iload_n 1 dX2_turned_9 rfl rfl ?_
    refine j_bipush dX2_turned_10 (by decide) ?_
    refine j_icmp_ne (tgt := 25) h1 (j_r32 25 rfl) dX2_turned_12 rfl (fun _ => ?_) (fun _ => ?_)
    · refine j_iload_n 2 dX2_turned_25 rfl rfl ?_
      refine j_if_lt (tgt := 52) h2 dX2_turned_26 rfl (fun _ => ?_) (fun _ => ?_)
      · refine j_sub [] rfl ?_
        exact p_f_X2_turned_b52 hd0 S
      · refine j_iload_n 2 dX2_turned_29 rfl rfl ?_
        refine j_aload_n 0 dX2_turned_30 rfl rfl ?_
        refine j_getr (ci := 2) (k := 0) rfl in_X2 (Nat.le_of_ble_eq_true rfl) rfl rfl fl_X2_18 dX2_turned_31 (fun (v1 : Int) (hv1 : 0 ≤ v1) => ?_)
        refine j_get (ci := 10) (k := 0) (t := 0) rfl in_X10 (Nat.le_of_ble_eq_true rfl) rfl rfl fl_X2_83 dX2_turned_34 (fun (v2 : Int) (hv2 : R32 (v2)) => ?_)
        refine j_icmp_ge (tgt := 52) h2 hv2 dX2_turned_37 rfl (fun _ => ?_) (fun _ => ?_)
        · refine j_sub [] rfl ?_
          exact p_f_X2_turned_b52 hd0 S
        · refine j_aload_n 0 dX2_turned_40 rfl rfl ?_
          refine j_getr (ci := 2) (k := 0) rfl in_X2 (Nat.le_of_ble_eq_true rfl) rfl rfl fl_X2_18 dX2_turned_41 (fun (v3 : Int) (hv3 : 0 ≤ v3) => ?_)
          refine j_getr (ci := 10) (k := 2) rfl in_X10 (Nat.le_of_ble_eq_true rfl) rfl rfl fl_X2_63 dX2_turned_44 (fun (v4 : Int) (hv4 : 0 ≤ v4) => ?_)
          refine j_iload_n 2 dX2_turned_47 rfl rfl ?_
          refine j_iaload h2 dX2_turned_48 (fun (v5 : Int) (hv5 : R32 (v5)) => ?_)
          refine j_goto (tgt := 53) dX2_turned_49 rfl ?_
          refine j_sub [] rfl ?_
          exact p_f_X2_turned_b53 hd0 v5 S hv5
    · refine j_iload_n 2 dX2_turned_15 rfl rfl ?_
      refine j_if_ne (tgt := 23) h2 dX2_turned_16 rfl (fun _ => ?_) (fun _ => ?_)
      · refine j_iconst dX2_turned_23 ?_
        refine j_sub [] rfl ?_
        exact p_f_X2_turned_b24 hd0 0 S jz0
      · refine j_iconst dX2_turned_19 ?_
        refine j_goto (tgt := 24) dX2_turned_20 rfl ?_
        refine j_sub [] rfl ?_
        exact p_f_X2_turned_b24 hd0 1 S jz1
  · refine j_iload_n 2 dX2_turned_6 rfl rfl ?_
    refine j_ineg dX2_turned_7 ?_
    exact j_ireturn (w32_R _) dX2_turned_8
theorem c_X2_turned {G : jG} (a0 : Int) (a1 : Int) (a2 : Int) (S : jSt) (h0 : 0 ≤ (a0)) (h1 : R32 (a1)) (h2 : R32 (a2)) : CT G yX2_turned cX2_turned 3 (some .int) 1 ([(2, a0), (0, a1), (0, a2)].map jval) S (f_X2_turned a0 a1 a2 S) := ct_of [(2, a0), (0, a1), (0, a2)] (by decide) rfl (Nat.le_of_ble_eq_true rfl) (e_X2_turned (Nat.le_refl _) a0 a1 a2 S h0 h1 h2)
-- X2_value
def f_X2_value_b316 (x0 : Int) (S : jSt) : Option (Int × jSt) :=
  some (x0, S)
theorem p_f_X2_value_b316 {G : jG} {d : Nat} {S0 : jSt} (hd0 : 2 ≤ d) : ∀ (x0 : Int) (S : jSt), (R32 (x0)) → J G yX2_value cX2_value 11 (some .int) d S0 316 [] [(0, x0)] S (f_X2_value_b316  x0 S) := by
  intro x0 S h0
  unfold f_X2_value_b316
  exact j_ireturn h0 dX2_value_316
def f_X2_value_b294 (r36 : Int → Int → Int → Int → Int → jSt → Option (Int × jSt)) (x0 : Int) (x1 : Int) (x2 : Int) (x3 : Int) (x4 : Int) (S : jSt) : Option (Int × jSt) :=
  flet (w32 (x4 + 1)) (fun v25 => r36 x0 x1 x2 x3 v25 S)
theorem p_f_X2_value_b294 {G : jG} {d : Nat} {S0 : jSt} (hd0 : 2 ≤ d) {r36 : Int → Int → Int → Int → Int → jSt → Option (Int × jSt)} (k36 : ∀ (x0 : Int) (x1 : Int) (x2 : Int) (x3 : Int) (x4 : Int) (S : jSt), (0 ≤ (x0)) → (R32 (x2)) → (R32 (x3)) → (R32 (x4)) → J G yX2_value cX2_value 11 (some .int) d S0 36 [(0, 2, x0), (1, 3, x1), (6, 0, x2), (7, 0, x3), (8, 0, x4)] [] S (r36 x0 x1 x2 x3 x4 S)) : ∀ (x0 : Int) (x1 : Int) (x2 : Int) (x3 : Int) (x4 : Int) (S : jSt), (0 ≤ (x0)) → (R32 (x2)) → (R32 (x3)) → (R32 (x4)) → J G yX2_value cX2_value 11 (some .int) d S0 294 [(0, 2, x0), (1, 3, x1), (6, 0, x2), (7, 0, x3), (8, 0, x4)] [] S (f_X2_value_b294 r36 x0 x1 x2 x3 x4 S) := by
  intro x0 x1 x2 x3 x4 S h0 h2 h3 h4
  unfold f_X2_value_b294
  refine j_iincL (q := 4) dX2_value_294 rfl (Nat.le_of_ble_eq_true rfl) (fun v25 hv25 => ?_)
  refine j_lv (lv' := [(8, 0, v25), (0, 2, x0), (1, 3, x1), (6, 0, x2), (7, 0, x3)]) rfl ?_
  refine j_goto (tgt := 36) dX2_value_297 rfl ?_
  refine j_sub [1, 2, 3, 4, 0] rfl ?_
  exact k36 x0 x1 x2 x3 v25 S h0 h2 h3 hv25
def f_X2_value_b149 (r36 : Int → Int → Int → Int → Int → jSt → Option (Int × jSt)) (x0 : Int) (x1 : Int) (x2 : Int) (x3 : Int) (x4 : Int) (x5 : Int) (x6 : Int) (x7 : Int) (S : jSt) : Option (Int × jSt) :=
  fast S x5 x6 1 x7 (fun S23 => flet (w32 (x2 + 1)) (fun v24 => f_X2_value_b294 r36 x0 x1 v24 x3 x4 S23))
theorem p_f_X2_value_b149 {G : jG} {d : Nat} {S0 : jSt} (hd0 : 2 ≤ d) {r36 : Int → Int → Int → Int → Int → jSt → Option (Int × jSt)} (k36 : ∀ (x0 : Int) (x1 : Int) (x2 : Int) (x3 : Int) (x4 : Int) (S : jSt), (0 ≤ (x0)) → (R32 (x2)) → (R32 (x3)) → (R32 (x4)) → J G yX2_value cX2_value 11 (some .int) d S0 36 [(0, 2, x0), (1, 3, x1), (6, 0, x2), (7, 0, x3), (8, 0, x4)] [] S (r36 x0 x1 x2 x3 x4 S)) : ∀ (x0 : Int) (x1 : Int) (x2 : Int) (x3 : Int) (x4 : Int) (x5 : Int) (x6 : Int) (x7 : Int) (S : jSt), (0 ≤ (x0)) → (R32 (x2)) → (R32 (x3)) → (R32 (x4)) → (0 ≤ (x5)) → (R32 (x6)) → (R32 (x7)) → J G yX2_value cX2_value 11 (some .int) d S0 149 [(0, 2, x0), (1, 3, x1), (6, 0, x2), (7, 0, x3), (8, 0, x4)] [(0, x7), (0, x6), (2, x5)] S (f_X2_value_b149 r36 x0 x1 x2 x3 x4 x5 x6 x7 S) := by
  intro x0 x1 x2 x3 x4 x5 x6 x7 S h0 h2 h3 h4 h5 h6 h7
  unfold f_X2_value_b149
  refine j_iastore h6 h7 dX2_value_149 (fun S23 => ?_)
  refine j_iincL (q := 2) dX2_value_150 rfl (Nat.le_of_ble_eq_true rfl) (fun v24 hv24 => ?_)
  refine j_lv (lv' := [(6, 0, v24), (0, 2, x0), (1, 3, x1), (7, 0, x3), (8, 0, x4)]) rfl ?_
  refine j_goto (tgt := 294) dX2_value_153 rfl ?_
  refine j_sub [1, 2, 0, 3, 4] rfl ?_
  exact p_f_X2_value_b294 hd0 k36 x0 x1 v24 x3 x4 S23 h0 hv24 h3 h4
def f_X2_value_b109 (r36 : Int → Int → Int → Int → Int → jSt → Option (Int × jSt)) (x0 : Int) (x1 : Int) (x2 : Int) (x3 : Int) (x4 : Int) (x5 : Int) (x6 : Int) (S : jSt) : Option (Int × jSt) :=
  fgetr S x0 2 1 (fun v18 => flen S v18 1 (fun v19 => if x2 < v19 then fgetr S x0 2 1 (fun v20 => if x5 = 30 then f_X2_value_b149 r36 x0 x1 x2 x3 x4 v20 x2 x6 S else fgetr S x0 2 2 (fun v21 => fald S v21 (w32 (x5 - 9)) 1 (fun v22 => f_X2_value_b149 r36 x0 x1 x2 x3 x4 v20 x2 v22 S))) else some (0, S)))
theorem p_f_X2_value_b109 {G : jG} {d : Nat} {S0 : jSt} (hd0 : 2 ≤ d) {r36 : Int → Int → Int → Int → Int → jSt → Option (Int × jSt)} (k36 : ∀ (x0 : Int) (x1 : Int) (x2 : Int) (x3 : Int) (x4 : Int) (S : jSt), (0 ≤ (x0)) → (R32 (x2)) → (R32 (x3)) → (R32 (x4)) → J G yX2_value cX2_value 11 (some .int) d S0 36 [(0, 2, x0), (1, 3, x1), (6, 0, x2), (7, 0, x3), (8, 0, x4)] [] S (r36 x0 x1 x2 x3 x4 S)) : ∀ (x0 : Int) (x1 : Int) (x2 : Int) (x3 : Int) (x4 : Int) (x5 : Int) (x6 : Int) (S : jSt), (0 ≤ (x0)) → (R32 (x2)) → (R32 (x3)) → (R32 (x4)) → (R32 (x5)) → (R32 (x6)) → J G yX2_value cX2_value 11 (some .int) d S0 109 [(0, 2, x0), (1, 3, x1), (6, 0, x2), (7, 0, x3), (8, 0, x4), (9, 0, x5), (10, 0, x6)] [] S (f_X2_value_b109 r36 x0 x1 x2 x3 x4 x5 x6 S) := by
  intro x0 x1 x2 x3 x4 x5 x6 S h0 h2 h3 h4 h5 h6
  unfold f_X2_value_b109
  refine j_iload 2 dX2_value_109 rfl ?_
  refine j_aload_n 0 dX2_value_111 rfl rfl ?_
  refine j_getr (ci := 2) (k := 1) rfl in_X2 (Nat.le_of_ble_eq_true rfl) rfl rfl fl_X2_9 dX2_value_112 (fun (v18 : Int) (hv18 : 0 ≤ v18) => ?_)
  refine j_alen dX2_value_115 (fun (v19 : Int) (hv19 : R32 v19) => ?_)
  refine j_icmp_lt (tgt := 121) h2 hv19 dX2_value_116 rfl (fun _ => ?_) (fun _ => ?_)
  · refine j_aload_n 0 dX2_value_121 rfl rfl ?_
    refine j_getr (ci := 2) (k := 1) rfl in_X2 (Nat.le_of_ble_eq_true rfl) rfl rfl fl_X2_9 dX2_value_122 (fun (v20 : Int) (hv20 : 0 ≤ v20) => ?_)
    refine j_iload 2 dX2_value_125 rfl ?_
    refine j_iload 5 dX2_value_127 rfl ?_
    refine j_bipush dX2_value_129 (by decide) ?_
    refine j_icmp_ne (tgt := 139) h5 (j_r32 30 rfl) dX2_value_131 rfl (fun _ => ?_) (fun _ => ?_)
    · refine j_aload_n 0 dX2_value_139 rfl rfl ?_
      refine j_getr (ci := 2) (k := 2) rfl in_X2 (Nat.le_of_ble_eq_true rfl) rfl rfl fl_X2_15 dX2_value_140 (fun (v21 : Int) (hv21 : 0 ≤ v21) => ?_)
      refine j_iload 5 dX2_value_143 rfl ?_
      refine j_bipush dX2_value_145 (by decide) ?_
      refine j_isub dX2_value_147 ?_
      refine j_iaload (w32_R _) dX2_value_148 (fun (v22 : Int) (hv22 : R32 (v22)) => ?_)
      refine j_sub [0, 1, 2, 3, 4] rfl ?_
      exact p_f_X2_value_b149 hd0 k36 x0 x1 x2 x3 x4 v20 x2 v22 S h0 h2 h3 h4 hv20 h2 hv22
    · refine j_iload 6 dX2_value_134 rfl ?_
      refine j_goto (tgt := 149) dX2_value_136 rfl ?_
      refine j_sub [0, 1, 2, 3, 4] rfl ?_
      exact p_f_X2_value_b149 hd0 k36 x0 x1 x2 x3 x4 v20 x2 x6 S h0 h2 h3 h4 hv20 h2 h6
  · refine j_iconst dX2_value_119 ?_
    exact j_ireturn (jZ_R jz0) dX2_value_120
def f_X2_value_b224 (r36 : Int → Int → Int → Int → Int → jSt → Option (Int × jSt)) (x0 : Int) (x1 : Int) (x2 : Int) (x3 : Int) (x4 : Int) (x5 : Int) (S : jSt) : Option (Int × jSt) :=
  fgetr S x0 2 1 (fun v28 => fgetr S x0 2 1 (fun v29 => fald S v29 (w32 (x2 - 1)) 1 (fun v30 => fcallv S x0 2 (f_X2_turned x0 x5 v30 S) (fun v31 S32 => fast S32 v28 (w32 (x2 - 1)) 1 v31 (fun S33 => f_X2_value_b294 r36 x0 x1 x2 x3 x4 S33)))))
theorem p_f_X2_value_b224 {G : jG} {d : Nat} {S0 : jSt} (hd0 : 2 ≤ d) {r36 : Int → Int → Int → Int → Int → jSt → Option (Int × jSt)} (k36 : ∀ (x0 : Int) (x1 : Int) (x2 : Int) (x3 : Int) (x4 : Int) (S : jSt), (0 ≤ (x0)) → (R32 (x2)) → (R32 (x3)) → (R32 (x4)) → J G yX2_value cX2_value 11 (some .int) d S0 36 [(0, 2, x0), (1, 3, x1), (6, 0, x2), (7, 0, x3), (8, 0, x4)] [] S (r36 x0 x1 x2 x3 x4 S)) : ∀ (x0 : Int) (x1 : Int) (x2 : Int) (x3 : Int) (x4 : Int) (x5 : Int) (S : jSt), (0 ≤ (x0)) → (R32 (x2)) → (R32 (x3)) → (R32 (x4)) → (R32 (x5)) → J G yX2_value cX2_value 11 (some .int) d S0 224 [(0, 2, x0), (1, 3, x1), (6, 0, x2), (7, 0, x3), (8, 0, x4), (9, 0, x5)] [] S (f_X2_value_b224 r36 x0 x1 x2 x3 x4 x5 S) := by
  intro x0 x1 x2 x3 x4 x5 S h0 h2 h3 h4 h5
  unfold f_X2_value_b224
  refine j_aload_n 0 dX2_value_224 rfl rfl ?_
  refine j_getr (ci := 2) (k := 1) rfl in_X2 (Nat.le_of_ble_eq_true rfl) rfl rfl fl_X2_9 dX2_value_225 (fun (v28 : Int) (hv28 : 0 ≤ v28) => ?_)
  refine j_iload 2 dX2_value_228 rfl ?_
  refine j_iconst dX2_value_230 ?_
  refine j_isub dX2_value_231 ?_
  refine j_aload_n 0 dX2_value_232 rfl rfl ?_
  refine j_iload 5 dX2_value_233 rfl ?_
  refine j_aload_n 0 dX2_value_235 rfl rfl ?_
  refine j_getr (ci := 2) (k := 1) rfl in_X2 (Nat.le_of_ble_eq_true rfl) rfl rfl fl_X2_9 dX2_value_236 (fun (v29 : Int) (hv29 : 0 ≤ v29) => ?_)
  refine j_iload 2 dX2_value_239 rfl ?_
  refine j_iconst dX2_value_241 ?_
  refine j_isub dX2_value_242 ?_
  refine j_iaload (w32_R _) dX2_value_243 (fun (v30 : Int) (hv30 : R32 (v30)) => ?_)
  refine j_callV (ci := 2) (As := [(0, x5), (0, v30)]) (st := [(0, w32 (x2 - 1)), (2, v28)]) kc_X2_turned (c_X2_turned x0 x5 v30 S h0 h5 hv30) rfl lm_X2_50 ki_X2_turned ke_X2_turned rfl (Nat.le_of_ble_eq_true rfl) (Nat.le_trans (m := 2) (Nat.le_of_ble_eq_true rfl) hd0) dX2_value_244 (fun (v31 : Int) (S32 : jSt) (hv31 : R32 (v31)) => ?_)
  refine j_iastore (w32_R _) hv31 dX2_value_247 (fun S33 => ?_)
  refine j_goto (tgt := 294) dX2_value_248 rfl ?_
  refine j_sub [0, 1, 2, 3, 4] rfl ?_
  exact p_f_X2_value_b294 hd0 k36 x0 x1 x2 x3 x4 S33 h0 h2 h3 h4
def f_X2_value_b198 (r36 : Int → Int → Int → Int → Int → jSt → Option (Int × jSt)) (x0 : Int) (x1 : Int) (x2 : Int) (x3 : Int) (x4 : Int) (S : jSt) : Option (Int × jSt) :=
  f_X2_value_b294 r36 x0 x1 x2 x3 x4 S
theorem p_f_X2_value_b198 {G : jG} {d : Nat} {S0 : jSt} (hd0 : 2 ≤ d) {r36 : Int → Int → Int → Int → Int → jSt → Option (Int × jSt)} (k36 : ∀ (x0 : Int) (x1 : Int) (x2 : Int) (x3 : Int) (x4 : Int) (S : jSt), (0 ≤ (x0)) → (R32 (x2)) → (R32 (x3)) → (R32 (x4)) → J G yX2_value cX2_value 11 (some .int) d S0 36 [(0, 2, x0), (1, 3, x1), (6, 0, x2), (7, 0, x3), (8, 0, x4)] [] S (r36 x0 x1 x2 x3 x4 S)) : ∀ (x0 : Int) (x1 : Int) (x2 : Int) (x3 : Int) (x4 : Int) (S : jSt), (0 ≤ (x0)) → (R32 (x2)) → (R32 (x3)) → (R32 (x4)) → J G yX2_value cX2_value 11 (some .int) d S0 198 [(0, 2, x0), (1, 3, x1), (6, 0, x2), (7, 0, x3)] [(0, x4)] S (f_X2_value_b198 r36 x0 x1 x2 x3 x4 S) := by
  intro x0 x1 x2 x3 x4 S h0 h2 h3 h4
  unfold f_X2_value_b198
  refine j_istore (lv' := [(8, 0, x4), (0, 2, x0), (1, 3, x1), (6, 0, x2), (7, 0, x3)]) dX2_value_198 (Nat.le_of_ble_eq_true rfl) rfl ?_
  refine j_goto (tgt := 294) dX2_value_200 rfl ?_
  refine j_sub [1, 2, 3, 4, 0] rfl ?_
  exact p_f_X2_value_b294 hd0 k36 x0 x1 x2 x3 x4 S h0 h2 h3 h4
def f_X2_value_b36B (r36 : Int → Int → Int → Int → Int → jSt → Option (Int × jSt)) (x0 : Int) (x1 : Int) (x2 : Int) (x3 : Int) (x4 : Int) (S : jSt) : Option (Int × jSt) :=
  if x3 ≤ x4 then if 1 ≤ x2 then fgetr S x0 2 1 (fun v10 => fald S v10 0 1 (fun v11 => f_X2_value_b316 v11 S)) else f_X2_value_b316 0 S else if 0 ≤ x1 then fgetr S x1 6 2 (fun v12 => fald S v12 x4 1 (fun v13 => if 16384 = 0 then none else flet (idiv32 v13 16384) (fun v14 => if 0 ≤ x1 then fgetr S x1 6 2 (fun v15 => fald S v15 x4 1 (fun v16 => if 16384 = 0 then none else flet (irem32 v16 16384) (fun v17 => if v14 = 22 then flet (imax x4 (w32 (v17 - 1))) (fun v46 => f_X2_value_b294 r36 x0 x1 x2 x3 v46 S) else if v14 = 30 then f_X2_value_b109 r36 x0 x1 x2 x3 x4 v14 v17 S else fcall (f_X11_within v14 9 17 S) (fun v26 S27 => if v26 = 0 then if 1 ≤ x2 then if v14 = 21 then flet (w32 (x2 + (-1))) (fun v43 => fgetr S27 x0 2 1 (fun v44 => fald S27 v44 v43 1 (fun v45 => if v45 = 0 then f_X2_value_b198 r36 x0 x1 v43 x3 (imax x4 (w32 (v17 - 1))) S27 else f_X2_value_b198 r36 x0 x1 v43 x3 x4 S27))) else if v14 = 45 then f_X2_value_b224 r36 x0 x1 x2 x3 x4 v14 S27 else if v14 = 25 then f_X2_value_b224 r36 x0 x1 x2 x3 x4 v14 S27 else if v14 = 27 then f_X2_value_b224 r36 x0 x1 x2 x3 x4 v14 S27 else if 2 ≤ x2 then flet (w32 (x2 + (-1))) (fun v34 => fgetr S27 x0 2 1 (fun v35 => fgetr S27 x0 2 1 (fun v36 => fald S27 v36 (w32 (v34 - 1)) 1 (fun v37 => fgetr S27 x0 2 1 (fun v38 => fald S27 v38 v34 1 (fun v39 => fcall (f_X2_joined v14 v37 v39 S27) (fun v40 S41 => fast S41 v35 (w32 (v34 - 1)) 1 v40 (fun S42 => f_X2_value_b294 r36 x0 x1 v34 x3 x4 S42)))))))) else some (0, S27) else some (0, S27) else f_X2_value_b109 r36 x0 x1 x2 x3 x4 v14 v17 S27)))) else none))) else none
theorem p_f_X2_value_b36B {G : jG} {d : Nat} {S0 : jSt} (hd0 : 2 ≤ d) {r36 : Int → Int → Int → Int → Int → jSt → Option (Int × jSt)} (k36 : ∀ (x0 : Int) (x1 : Int) (x2 : Int) (x3 : Int) (x4 : Int) (S : jSt), (0 ≤ (x0)) → (R32 (x2)) → (R32 (x3)) → (R32 (x4)) → J G yX2_value cX2_value 11 (some .int) d S0 36 [(0, 2, x0), (1, 3, x1), (6, 0, x2), (7, 0, x3), (8, 0, x4)] [] S (r36 x0 x1 x2 x3 x4 S)) : ∀ (x0 : Int) (x1 : Int) (x2 : Int) (x3 : Int) (x4 : Int) (S : jSt), (0 ≤ (x0)) → (R32 (x2)) → (R32 (x3)) → (R32 (x4)) → J G yX2_value cX2_value 11 (some .int) d S0 36 [(0, 2, x0), (1, 3, x1), (6, 0, x2), (7, 0, x3), (8, 0, x4)] [] S (f_X2_value_b36B r36 x0 x1 x2 x3 x4 S) := by
  intro x0 x1 x2 x3 x4 S h0 h2 h3 h4
  unfold f_X2_value_b36B
  refine j_iload 4 dX2_value_36 rfl ?_
  refine j_iload 3 dX2_value_38 rfl ?_
  refine j_icmp_ge (tgt := 300) h4 h3 dX2_value_40 rfl (fun _ => ?_) (fun _ => ?_)
  · refine j_iload 2 dX2_value_300 rfl ?_
    refine j_iconst dX2_value_302 ?_
    refine j_icmp_ge (tgt := 310) h2 (jZ_R jz1) dX2_value_303 rfl (fun _ => ?_) (fun _ => ?_)
    · refine j_aload_n 0 dX2_value_310 rfl rfl ?_
      refine j_getr (ci := 2) (k := 1) rfl in_X2 (Nat.le_of_ble_eq_true rfl) rfl rfl fl_X2_9 dX2_value_311 (fun (v10 : Int) (hv10 : 0 ≤ v10) => ?_)
      refine j_iconst dX2_value_314 ?_
      refine j_iaload (jZ_R jz0) dX2_value_315 (fun (v11 : Int) (hv11 : R32 (v11)) => ?_)
      refine j_sub [] rfl ?_
      exact p_f_X2_value_b316 hd0 v11 S hv11
    · refine j_iconst dX2_value_306 ?_
      refine j_goto (tgt := 316) dX2_value_307 rfl ?_
      refine j_sub [] rfl ?_
      exact p_f_X2_value_b316 hd0 0 S (jZ_R jz0)
  · refine j_aload_nq 1 dX2_value_43 rfl rfl ?_
    refine j_cast (z := x1) (st' := [(2, x1)]) (fun h => by simp only [List.map_cons, jpush, jtag, jval3r h]) (fun hq44 => ?_)
    refine j_getN (ci := 6) (k := 2) (host := RX11) rfl in_X6 (Nat.le_of_ble_eq_true rfl) rfl rfl (by decide +kernel) dX2_value_44 (fun (v12 : Int) (hv12 : 0 ≤ v12) => ?_)
    refine j_iload 4 dX2_value_47 rfl ?_
    refine j_iaload h4 dX2_value_49 (fun (v13 : Int) (hv13 : R32 (v13)) => ?_)
    refine j_sipush dX2_value_50 (by decide) ?_
    refine j_idiv (j_r32 16384 rfl) dX2_value_53 ?_
    refine j_leti (idiv32_R _ _) (fun v14 hv14 => ?_)
    refine j_istore (lv' := [(9, 0, v14), (0, 2, x0), (1, 3, x1), (6, 0, x2), (7, 0, x3), (8, 0, x4)]) dX2_value_54 (Nat.le_of_ble_eq_true rfl) rfl ?_
    refine j_aload_nq 2 dX2_value_56 rfl rfl ?_
    refine j_cast (z := x1) (st' := [(2, x1)]) (fun h => by simp only [List.map_cons, jpush, jtag, jval3r h]) (fun hq57 => ?_)
    refine j_getN (ci := 6) (k := 2) (host := RX11) rfl in_X6 (Nat.le_of_ble_eq_true rfl) rfl rfl (by decide +kernel) dX2_value_57 (fun (v15 : Int) (hv15 : 0 ≤ v15) => ?_)
    refine j_iload 5 dX2_value_60 rfl ?_
    refine j_iaload h4 dX2_value_62 (fun (v16 : Int) (hv16 : R32 (v16)) => ?_)
    refine j_sipush dX2_value_63 (by decide) ?_
    refine j_irem (j_r32 16384 rfl) dX2_value_66 ?_
    refine j_leti (irem32_R _ _) (fun v17 hv17 => ?_)
    refine j_istore (lv' := [(10, 0, v17), (9, 0, v14), (0, 2, x0), (1, 3, x1), (6, 0, x2), (7, 0, x3), (8, 0, x4)]) dX2_value_67 (Nat.le_of_ble_eq_true rfl) rfl ?_
    refine j_iload 1 dX2_value_69 rfl ?_
    refine j_bipush dX2_value_71 (by decide) ?_
    refine j_icmp_ne (tgt := 90) hv14 (j_r32 22 rfl) dX2_value_73 rfl (fun _ => ?_) (fun _ => ?_)
    · refine j_iload 1 dX2_value_90 rfl ?_
      refine j_bipush dX2_value_92 (by decide) ?_
      refine j_icmp_eq (tgt := 109) hv14 (j_r32 30 rfl) dX2_value_94 rfl (fun _ => ?_) (fun _ => ?_)
      · refine j_sub [2, 3, 4, 5, 6, 1, 0] rfl ?_
        exact p_f_X2_value_b109 hd0 k36 x0 x1 x2 x3 x4 v14 v17 S h0 h2 h3 h4 hv14 hv17
      · refine j_iload 1 dX2_value_97 rfl ?_
        refine j_bipush dX2_value_99 (by decide) ?_
        refine j_bipush dX2_value_101 (by decide) ?_
        refine j_callSN (As := [(0, v14), (0, 9), (0, 17)]) (st := []) (host := RX11) kc_X11_within (c_X11_within v14 9 17 S hv14 (j_r32 9 rfl) (j_r32 17 rfl)) (by decide +kernel) ks_X11_within rfl (Nat.le_of_ble_eq_true rfl) (Nat.le_trans (m := 2) (Nat.le_of_ble_eq_true rfl) hd0) dX2_value_103 (fun (v26 : Int) (S27 : jSt) (hv26 : (v26) = 0 ∨ (v26) = 1) => ?_)
        refine j_if_eq (tgt := 156) (jZ_R hv26) dX2_value_106 rfl (fun _ => ?_) (fun _ => ?_)
        · refine j_iload 4 dX2_value_156 rfl ?_
          refine j_iconst dX2_value_158 ?_
          refine j_icmp_ge (tgt := 164) h2 (jZ_R jz1) dX2_value_159 rfl (fun _ => ?_) (fun _ => ?_)
          · refine j_iload 1 dX2_value_164 rfl ?_
            refine j_bipush dX2_value_166 (by decide) ?_
            refine j_icmp_ne (tgt := 203) hv14 (j_r32 21 rfl) dX2_value_168 rfl (fun _ => ?_) (fun _ => ?_)
            · refine j_iload 1 dX2_value_203 rfl ?_
              refine j_bipush dX2_value_205 (by decide) ?_
              refine j_icmp_eq (tgt := 224) hv14 (j_r32 45 rfl) dX2_value_207 rfl (fun _ => ?_) (fun _ => ?_)
              · refine j_sub [2, 3, 4, 5, 6, 1] rfl ?_
                exact p_f_X2_value_b224 hd0 k36 x0 x1 x2 x3 x4 v14 S27 h0 h2 h3 h4 hv14
              · refine j_iload 1 dX2_value_210 rfl ?_
                refine j_bipush dX2_value_212 (by decide) ?_
                refine j_icmp_eq (tgt := 224) hv14 (j_r32 25 rfl) dX2_value_214 rfl (fun _ => ?_) (fun _ => ?_)
                · refine j_sub [2, 3, 4, 5, 6, 1] rfl ?_
                  exact p_f_X2_value_b224 hd0 k36 x0 x1 x2 x3 x4 v14 S27 h0 h2 h3 h4 hv14
                · refine j_iload 1 dX2_value_217 rfl ?_
                  refine j_bipush dX2_value_219 (by decide) ?_
                  refine j_icmp_ne (tgt := 251) hv14 (j_r32 27 rfl) dX2_value_221 rfl (fun _ => ?_) (fun _ => ?_)
                  · refine j_iload 4 dX2_value_251 rfl ?_
                    refine j_iconst dX2_value_253 ?_
                    refine j_icmp_ge (tgt := 259) h2 (j_r32 2 rfl) dX2_value_254 rfl (fun _ => ?_) (fun _ => ?_)
                    · refine j_iincL (q := 4) dX2_value_259 rfl (Nat.le_of_ble_eq_true rfl) (fun v34 hv34 => ?_)
                      refine j_lv (lv' := [(6, 0, v34), (10, 0, v17), (9, 0, v14), (0, 2, x0), (1, 3, x1), (7, 0, x3), (8, 0, x4)]) rfl ?_
                      refine j_aload_n 3 dX2_value_262 rfl rfl ?_
                      refine j_getr (ci := 2) (k := 1) rfl in_X2 (Nat.le_of_ble_eq_true rfl) rfl rfl fl_X2_9 dX2_value_263 (fun (v35 : Int) (hv35 : 0 ≤ v35) => ?_)
                      refine j_iload 0 dX2_value_266 rfl ?_
                      refine j_iconst dX2_value_268 ?_
                      refine j_isub dX2_value_269 ?_
                      refine j_iload 2 dX2_value_270 rfl ?_
                      refine j_aload_n 3 dX2_value_272 rfl rfl ?_
                      refine j_getr (ci := 2) (k := 1) rfl in_X2 (Nat.le_of_ble_eq_true rfl) rfl rfl fl_X2_9 dX2_value_273 (fun (v36 : Int) (hv36 : 0 ≤ v36) => ?_)
                      refine j_iload 0 dX2_value_276 rfl ?_
                      refine j_iconst dX2_value_278 ?_
                      refine j_isub dX2_value_279 ?_
                      refine j_iaload (w32_R _) dX2_value_280 (fun (v37 : Int) (hv37 : R32 (v37)) => ?_)
                      refine j_i2l hv37 dX2_value_281 ?_
                      refine j_aload_n 3 dX2_value_282 rfl rfl ?_
                      refine j_getr (ci := 2) (k := 1) rfl in_X2 (Nat.le_of_ble_eq_true rfl) rfl rfl fl_X2_9 dX2_value_283 (fun (v38 : Int) (hv38 : 0 ≤ v38) => ?_)
                      refine j_iload 0 dX2_value_286 rfl ?_
                      refine j_iaload hv34 dX2_value_288 (fun (v39 : Int) (hv39 : R32 (v39)) => ?_)
                      refine j_i2l hv39 dX2_value_289 ?_
                      refine j_callS (As := [(0, v14), (1, v37), (1, v39)]) (st := [(0, w32 (v34 - 1)), (2, v35)]) kc_X2_joined (c_X2_joined v14 v37 v39 S27 hv14 (R32_R64 hv37) (R32_R64 hv39)) lm_X2_53 ks_X2_joined rfl (Nat.le_of_ble_eq_true rfl) (Nat.le_trans (m := 2) (Nat.le_of_ble_eq_true rfl) hd0) dX2_value_290 (fun (v40 : Int) (S41 : jSt) (hv40 : R32 (v40)) => ?_)
                      refine j_iastore (w32_R _) hv40 dX2_value_293 (fun S42 => ?_)
                      refine j_sub [3, 4, 0, 5, 6] rfl ?_
                      exact p_f_X2_value_b294 hd0 k36 x0 x1 v34 x3 x4 S42 h0 hv34 h3 h4
                    · refine j_iconst dX2_value_257 ?_
                      exact j_ireturn (jZ_R jz0) dX2_value_258
                  · refine j_sub [2, 3, 4, 5, 6, 1] rfl ?_
                    exact p_f_X2_value_b224 hd0 k36 x0 x1 x2 x3 x4 v14 S27 h0 h2 h3 h4 hv14
            · refine j_iincL (q := 4) dX2_value_171 rfl (Nat.le_of_ble_eq_true rfl) (fun v43 hv43 => ?_)
              refine j_lv (lv' := [(6, 0, v43), (10, 0, v17), (9, 0, v14), (0, 2, x0), (1, 3, x1), (7, 0, x3), (8, 0, x4)]) rfl ?_
              refine j_aload_n 3 dX2_value_174 rfl rfl ?_
              refine j_getr (ci := 2) (k := 1) rfl in_X2 (Nat.le_of_ble_eq_true rfl) rfl rfl fl_X2_9 dX2_value_175 (fun (v44 : Int) (hv44 : 0 ≤ v44) => ?_)
              refine j_iload 0 dX2_value_178 rfl ?_
              refine j_iaload hv43 dX2_value_180 (fun (v45 : Int) (hv45 : R32 (v45)) => ?_)
              refine j_if_eq (tgt := 189) hv45 dX2_value_181 rfl (fun _ => ?_) (fun _ => ?_)
              · refine j_iload 6 dX2_value_189 rfl ?_
                refine j_iload 1 dX2_value_191 rfl ?_
                refine j_iconst dX2_value_193 ?_
                refine j_isub dX2_value_194 ?_
                refine j_mmax h4 (w32_R _) lx_X2_43 mx_s_mmax mx_i mx_c_mmax (Nat.le_of_ble_eq_true rfl) (Nat.le_trans (Nat.le_of_ble_eq_true rfl) hd0) dX2_value_195 ?_
                refine j_sub [3, 4, 0, 5] rfl ?_
                exact p_f_X2_value_b198 hd0 k36 x0 x1 v43 x3 (imax x4 (w32 (v17 - 1))) S27 h0 hv43 h3 (imax_R h4 (w32_R _))
              · refine j_iload 6 dX2_value_184 rfl ?_
                refine j_goto (tgt := 198) dX2_value_186 rfl ?_
                refine j_sub [3, 4, 0, 5] rfl ?_
                exact p_f_X2_value_b198 hd0 k36 x0 x1 v43 x3 x4 S27 h0 hv43 h3 h4
          · refine j_iconst dX2_value_162 ?_
            exact j_ireturn (jZ_R jz0) dX2_value_163
        · refine j_sub [2, 3, 4, 5, 6, 1, 0] rfl ?_
          exact p_f_X2_value_b109 hd0 k36 x0 x1 x2 x3 x4 v14 v17 S27 h0 h2 h3 h4 hv14 hv17
    · refine j_iload 6 dX2_value_76 rfl ?_
      refine j_iload 0 dX2_value_78 rfl ?_
      refine j_iconst dX2_value_80 ?_
      refine j_isub dX2_value_81 ?_
      refine j_mmax h4 (w32_R _) lx_X2_43 mx_s_mmax mx_i mx_c_mmax (Nat.le_of_ble_eq_true rfl) (Nat.le_trans (Nat.le_of_ble_eq_true rfl) hd0) dX2_value_82 ?_
      refine j_leti (imax_R h4 (w32_R _)) (fun v46 hv46 => ?_)
      refine j_istore (lv' := [(8, 0, v46), (10, 0, v17), (9, 0, v14), (0, 2, x0), (1, 3, x1), (6, 0, x2), (7, 0, x3)]) dX2_value_85 (Nat.le_of_ble_eq_true rfl) rfl ?_
      refine j_goto (tgt := 294) dX2_value_87 rfl ?_
      refine j_sub [3, 4, 5, 6, 0] rfl ?_
      exact p_f_X2_value_b294 hd0 k36 x0 x1 x2 x3 v46 S h0 h2 h3 hv46
def f_X2_value_b36 : Int → Int → Int → Int → Int → jSt → Option (Int × jSt) := jrep (β := Int → Int → Int → Int → Int → jSt → Option (Int × jSt)) (fun _ _ _ _ _ _ => none) (fun r => f_X2_value_b36B r) jN
theorem p_f_X2_value_b36 {G : jG} {d : Nat} {S0 : jSt} (hd0 : 2 ≤ d) : ∀ (x0 : Int) (x1 : Int) (x2 : Int) (x3 : Int) (x4 : Int) (S : jSt), (0 ≤ (x0)) → (R32 (x2)) → (R32 (x3)) → (R32 (x4)) → J G yX2_value cX2_value 11 (some .int) d S0 36 [(0, 2, x0), (1, 3, x1), (6, 0, x2), (7, 0, x3), (8, 0, x4)] [] S (f_X2_value_b36  x0 x1 x2 x3 x4 S) :=
  jrep_ind (P := fun (r : Int → Int → Int → Int → Int → jSt → Option (Int × jSt)) => ∀ (x0 : Int) (x1 : Int) (x2 : Int) (x3 : Int) (x4 : Int) (S : jSt), (0 ≤ (x0)) → (R32 (x2)) → (R32 (x3)) → (R32 (x4)) → J G yX2_value cX2_value 11 (some .int) d S0 36 [(0, 2, x0), (1, 3, x1), (6, 0, x2), (7, 0, x3), (8, 0, x4)] [] S (r x0 x1 x2 x3 x4 S)) (by intros; exact j_none) (fun r k => p_f_X2_value_b36B hd0 k) jN
def f_X2_value (a0 : Int) (a1 : Int) (a2 : Int) (a3 : Int) (a4 : Int) (a5 : Int) (S : jSt) : Option (Int × jSt) :=
  fcallv S a0 2 (f_X2_nameAll a0 a3 a4 a5 S) (fun v1 S2 => if 0 ≤ a1 then fgetr S2 a1 6 4 (fun v3 => fald S2 v3 a2 1 (fun v4 => if 0 ≤ a1 then fgetr S2 a1 6 2 (fun v5 => flen S2 v5 1 (fun v6 => flet (imin v4 v6) (fun v7 => if 0 ≤ a1 then fgetr S2 a1 6 3 (fun v8 => fald S2 v8 a2 1 (fun v9 => f_X2_value_b36 a0 a1 0 v7 v9 S2)) else none))) else none)) else none)
theorem e_X2_value {G : jG} {d : Nat} {S0 : jSt} (hd0 : 2 ≤ d) (a0 : Int) (a1 : Int) (a2 : Int) (a3 : Int) (a4 : Int) (a5 : Int) (S : jSt) (h0 : 0 ≤ (a0)) (h2 : R32 (a2)) (h3 : 0 ≤ (a3)) (h4 : R32 (a4)) (h5 : R32 (a5)) : J G yX2_value cX2_value 11 (some .int) d S0 0 [(0, 2, a0), (1, 3, a1), (2, 0, a2), (3, 2, a3), (4, 0, a4), (5, 0, a5)] [] S (f_X2_value a0 a1 a2 a3 a4 a5 S) := by
  unfold f_X2_value
  refine j_aload_n 0 dX2_value_0 rfl rfl ?_
  refine j_aload_n 3 dX2_value_1 rfl rfl ?_
  refine j_iload 4 dX2_value_2 rfl ?_
  refine j_iload 5 dX2_value_4 rfl ?_
  refine j_callV (ci := 2) (As := [(2, a3), (0, a4), (0, a5)]) (st := []) kc_X2_nameAll (c_X2_nameAll a0 a3 a4 a5 S h0 h3 h4 h5) rfl lm_X2_22 ki_X2_nameAll ke_X2_nameAll rfl (Nat.le_of_ble_eq_true rfl) (Nat.le_trans (m := 2) (Nat.le_of_ble_eq_true rfl) hd0) dX2_value_6 (fun v1 S2 _ => ?_)
  refine j_iconst dX2_value_9 ?_
  refine j_istore (lv' := [(6, 0, 0), (0, 2, a0), (1, 3, a1), (2, 0, a2), (3, 2, a3), (4, 0, a4), (5, 0, a5)]) dX2_value_10 (Nat.le_of_ble_eq_true rfl) rfl ?_
  refine j_aload_nq 2 dX2_value_12 rfl rfl ?_
  refine j_cast (z := a1) (st' := [(2, a1)]) (fun h => by simp only [List.map_cons, jpush, jtag, jval3r h]) (fun hq13 => ?_)
  refine j_getN (ci := 6) (k := 4) (host := RX11) rfl in_X6 (Nat.le_of_ble_eq_true rfl) rfl rfl (by decide +kernel) dX2_value_13 (fun (v3 : Int) (hv3 : 0 ≤ v3) => ?_)
  refine j_iload_n 3 dX2_value_16 rfl rfl ?_
  refine j_iaload h2 dX2_value_17 (fun (v4 : Int) (hv4 : R32 (v4)) => ?_)
  refine j_aload_nq 2 dX2_value_18 rfl rfl ?_
  refine j_cast (z := a1) (st' := [(2, a1), (0, v4)]) (fun h => by simp only [List.map_cons, jpush, jtag, jval3r h]) (fun hq19 => ?_)
  refine j_getN (ci := 6) (k := 2) (host := RX11) rfl in_X6 (Nat.le_of_ble_eq_true rfl) rfl rfl (by decide +kernel) dX2_value_19 (fun (v5 : Int) (hv5 : 0 ≤ v5) => ?_)
  refine j_alen dX2_value_22 (fun (v6 : Int) (hv6 : R32 v6) => ?_)
  refine j_mmin hv4 hv6 lx_X2_34 mx_s_mmin mx_i mx_c_mmin (Nat.le_of_ble_eq_true rfl) (Nat.le_trans (Nat.le_of_ble_eq_true rfl) hd0) dX2_value_23 ?_
  refine j_leti (imin_R hv4 hv6) (fun v7 hv7 => ?_)
  refine j_istore (lv' := [(7, 0, v7), (6, 0, 0), (0, 2, a0), (1, 3, a1), (2, 0, a2), (3, 2, a3), (4, 0, a4), (5, 0, a5)]) dX2_value_26 (Nat.le_of_ble_eq_true rfl) rfl ?_
  refine j_aload_nq 3 dX2_value_28 rfl rfl ?_
  refine j_cast (z := a1) (st' := [(2, a1)]) (fun h => by simp only [List.map_cons, jpush, jtag, jval3r h]) (fun hq29 => ?_)
  refine j_getN (ci := 6) (k := 3) (host := RX11) rfl in_X6 (Nat.le_of_ble_eq_true rfl) rfl rfl (by decide +kernel) dX2_value_29 (fun (v8 : Int) (hv8 : 0 ≤ v8) => ?_)
  refine j_iload_n 4 dX2_value_32 rfl rfl ?_
  refine j_iaload h2 dX2_value_33 (fun (v9 : Int) (hv9 : R32 (v9)) => ?_)
  refine j_istore (lv' := [(8, 0, v9), (7, 0, v7), (6, 0, 0), (0, 2, a0), (1, 3, a1), (2, 0, a2), (3, 2, a3), (4, 0, a4), (5, 0, a5)]) dX2_value_34 (Nat.le_of_ble_eq_true rfl) rfl ?_
  refine j_sub [3, 4, 2, 1, 0] rfl ?_
  exact p_f_X2_value_b36 hd0 a0 a1 0 v7 v9 S2 h0 (jZ_R jz0) hv7 hv9
theorem c_X2_value {G : jG} (a0 : Int) (a1 : Int) (a2 : Int) (a3 : Int) (a4 : Int) (a5 : Int) (S : jSt) (h0 : 0 ≤ (a0)) (h2 : R32 (a2)) (h3 : 0 ≤ (a3)) (h4 : R32 (a4)) (h5 : R32 (a5)) : CT G yX2_value cX2_value 11 (some .int) 2 ([(2, a0), (3, a1), (0, a2), (2, a3), (0, a4), (0, a5)].map jval) S (f_X2_value a0 a1 a2 a3 a4 a5 S) := ct_of [(2, a0), (3, a1), (0, a2), (2, a3), (0, a4), (0, a5)] (by decide) rfl (Nat.le_of_ble_eq_true rfl) (e_X2_value (Nat.le_refl _) a0 a1 a2 a3 a4 a5 S h0 h2 h3 h4 h5)
