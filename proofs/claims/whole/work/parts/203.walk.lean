-- X8_init
def f_X8_init_b15B (r15 : Int → Int → jSt → Option (Int × jSt)) (x0 : Int) (x1 : Int) (S : jSt) : Option (Int × jSt) :=
  if 30 ≤ x1 then some (0, S) else fgetr S x0 8 0 (fun v4 => fnew S 1 (fun v5 S6 => fcall (f_X1_init v5 S6) (fun v7 S8 => fastr S8 v4 x1 4 1 v5 (fun S9 => flet (w32 (x1 + 1)) (fun v10 => r15 x0 v10 S9)))))
theorem p_f_X8_init_b15B {G : jG} {d : Nat} {S0 : jSt} (hd0 : 2 ≤ d) {r15 : Int → Int → jSt → Option (Int × jSt)} (k15 : ∀ (x0 : Int) (x1 : Int) (S : jSt), (0 ≤ (x0)) → (R32 (x1)) → J G yX8_init cX8_init 2 none d S0 15 [(0, 2, x0), (1, 0, x1)] [] S (r15 x0 x1 S)) : ∀ (x0 : Int) (x1 : Int) (S : jSt), (0 ≤ (x0)) → (R32 (x1)) → J G yX8_init cX8_init 2 none d S0 15 [(0, 2, x0), (1, 0, x1)] [] S (f_X8_init_b15B r15 x0 x1 S) := by
  intro x0 x1 S h0 h1
  unfold f_X8_init_b15B
  refine j_iload_n 1 dX8_init_15 rfl rfl ?_
  refine j_bipush dX8_init_16 (by decide) ?_
  refine j_icmp_ge (tgt := 40) h1 (j_r32 30 rfl) dX8_init_18 rfl (fun _ => ?_) (fun _ => ?_)
  · exact j_return dX8_init_40
  · refine j_aload_n 0 dX8_init_21 rfl rfl ?_
    refine j_getr (ci := 8) (k := 0) rfl in_X8 (Nat.le_of_ble_eq_true rfl) rfl rfl fl_X8_11 dX8_init_22 (fun (v4 : Int) (hv4 : 0 ≤ v4) => ?_)
    refine j_iload_n 1 dX8_init_25 rfl rfl ?_
    refine j_new (ci := 1) rfl in_X1 rfl tyX1_ok rfl pl_X1 cl_X8_9 is_X1 iz_X1 dX8_init_26 (fun (v5 : Int) (S6 : jSt) hv5 => ?_)
    refine j_dup dX8_init_29 (fun h => nomatch h) ?_
    refine j_callIN (As := []) (st := [(2, v5), (0, x1), (2, v4)]) (host := RX11) kc_X1_init (c_X1_init v5 S6 hv5) (by decide +kernel) ki_X1_init rfl rfl (Nat.le_of_ble_eq_true rfl) (Nat.le_trans (m := 2) (Nat.le_of_ble_eq_true rfl) hd0) dX8_init_30 (fun v7 S8 => ?_)
    refine j_weak (z := v5) (st' := [(3, v5), (0, x1), (2, v4)]) (fun h => by simp only [List.map_cons, jpush, jtag, jval3r h]) hv5 ?_
    refine j_aastore4 h1 dX8_init_33 (fun S9 => ?_)
    refine j_iincL (q := 1) dX8_init_34 rfl (Nat.le_of_ble_eq_true rfl) (fun v10 hv10 => ?_)
    refine j_lv (lv' := [(1, 0, v10), (0, 2, x0)]) rfl ?_
    refine j_goto (tgt := 15) dX8_init_37 rfl ?_
    refine j_sub [1, 0] rfl ?_
    exact k15 x0 v10 S9 h0 hv10
def f_X8_init_b15 : Int → Int → jSt → Option (Int × jSt) := jrep (β := Int → Int → jSt → Option (Int × jSt)) (fun _ _ _ => none) (fun r => f_X8_init_b15B r) jN
theorem p_f_X8_init_b15 {G : jG} {d : Nat} {S0 : jSt} (hd0 : 2 ≤ d) : ∀ (x0 : Int) (x1 : Int) (S : jSt), (0 ≤ (x0)) → (R32 (x1)) → J G yX8_init cX8_init 2 none d S0 15 [(0, 2, x0), (1, 0, x1)] [] S (f_X8_init_b15  x0 x1 S) :=
  jrep_ind (P := fun (r : Int → Int → jSt → Option (Int × jSt)) => ∀ (x0 : Int) (x1 : Int) (S : jSt), (0 ≤ (x0)) → (R32 (x1)) → J G yX8_init cX8_init 2 none d S0 15 [(0, 2, x0), (1, 0, x1)] [] S (r x0 x1 S)) (by intros; exact j_none) (fun r k => p_f_X8_init_b15B hd0 k) jN
def f_X8_init (a0 : Int) (S : jSt) : Option (Int × jSt) :=
  fnewr S 4 30 (fun v1 S2 => fput S2 a0 8 0 v1 (fun S3 => f_X8_init_b15 a0 0 S3))
theorem e_X8_init {G : jG} {d : Nat} {S0 : jSt} (hd0 : 2 ≤ d) (a0 : Int) (S : jSt) (h0 : 0 ≤ (a0)) : J G yX8_init cX8_init 2 none d S0 0 [(0, 2, a0)] [] S (f_X8_init a0 S) := by
  unfold f_X8_init
  refine j_aload_n 0 dX8_init_0 rfl rfl ?_
  refine j_objInit lo_X8_3 oi_i oi_c (Nat.le_of_ble_eq_true rfl) (Nat.le_trans (Nat.le_of_ble_eq_true rfl) hd0) dX8_init_1 ?_
  refine j_aload_n 0 dX8_init_4 rfl rfl ?_
  refine j_bipush dX8_init_5 (by decide) ?_
  refine j_newr4 (j_r32 30 rfl) cl_X8_9 dX8_init_7 (fun (v1 : Int) (S2 : jSt) hv1 => ?_)
  refine j_putFr (ci := 8) (k := 0) (ty0 := tyX8) rfl in_X8 (Nat.le_of_ble_eq_true rfl) rfl tyX8_ok nmX8 rfl (Or.inr ⟨_, rfl⟩) rfl rfl rfl (by decide +kernel) hv1 fl_X8_11 dX8_init_10 (fun S3 => ?_)
  refine j_iconst dX8_init_13 ?_
  refine j_istore_n (lv' := [(1, 0, 0), (0, 2, a0)]) dX8_init_14 rfl (Nat.le_of_ble_eq_true rfl) rfl ?_
  refine j_sub [1, 0] rfl ?_
  exact p_f_X8_init_b15 hd0 a0 0 S3 h0 (jZ_R jz0)
theorem c_X8_init {G : jG} (a0 : Int) (S : jSt) (h0 : 0 ≤ (a0)) : CT G yX8_init cX8_init 2 none 2 ([(2, a0)].map jval) S (f_X8_init a0 S) := ct_of [(2, a0)] (by decide) rfl (Nat.le_of_ble_eq_true rfl) (e_X8_init (Nat.le_refl _) a0 S h0)
-- X9_init
def f_X9_init (a0 : Int) (S : jSt) : Option (Int × jSt) :=
  fnewa S 1 300 (fun v1 S2 => fput S2 a0 9 2 v1 (fun S3 => fnewa S3 1 301 (fun v4 S5 => fput S5 a0 9 3 v4 (fun S6 => fnewa S6 1 301 (fun v7 S8 => fput S8 a0 9 4 v7 (fun S9 => fnewa S9 1 301 (fun v10 S11 => fput S11 a0 9 5 v10 (fun S12 => some (0, S12)))))))))
theorem e_X9_init {G : jG} {d : Nat} {S0 : jSt} (hd0 : 1 ≤ d) (a0 : Int) (S : jSt) (h0 : 0 ≤ (a0)) : J G yX9_init cX9_init 1 none d S0 0 [(0, 2, a0)] [] S (f_X9_init a0 S) := by
  unfold f_X9_init
  refine j_aload_n 0 dX9_init_0 rfl rfl ?_
  refine j_objInit lo_X9_3 oi_i oi_c (Nat.le_of_ble_eq_true rfl) (Nat.le_trans (Nat.le_of_ble_eq_true rfl) hd0) dX9_init_1 ?_
  refine j_aload_n 0 dX9_init_4 rfl rfl ?_
  refine j_sipush dX9_init_5 (by decide) ?_
  refine j_newai (j_r32 300 rfl) ac_i dX9_init_8 (fun (v1 : Int) (S2 : jSt) hv1 => ?_)
  refine j_putFr (ci := 9) (k := 2) (ty0 := tyX9) rfl in_X9 (Nat.le_of_ble_eq_true rfl) rfl tyX9_ok nmX9 rfl (Or.inr ⟨_, rfl⟩) rfl rfl rfl (by decide +kernel) hv1 fl_X9_9 dX9_init_10 (fun S3 => ?_)
  refine j_aload_n 0 dX9_init_13 rfl rfl ?_
  refine j_sipush dX9_init_14 (by decide) ?_
  refine j_newai (j_r32 301 rfl) ac_i dX9_init_17 (fun (v4 : Int) (S5 : jSt) hv4 => ?_)
  refine j_putFr (ci := 9) (k := 3) (ty0 := tyX9) rfl in_X9 (Nat.le_of_ble_eq_true rfl) rfl tyX9_ok nmX9 rfl (Or.inr ⟨_, rfl⟩) rfl rfl rfl (by decide +kernel) hv4 fl_X9_15 dX9_init_19 (fun S6 => ?_)
  refine j_aload_n 0 dX9_init_22 rfl rfl ?_
  refine j_sipush dX9_init_23 (by decide) ?_
  refine j_newai (j_r32 301 rfl) ac_i dX9_init_26 (fun (v7 : Int) (S8 : jSt) hv7 => ?_)
  refine j_putFr (ci := 9) (k := 4) (ty0 := tyX9) rfl in_X9 (Nat.le_of_ble_eq_true rfl) rfl tyX9_ok nmX9 rfl (Or.inr ⟨_, rfl⟩) rfl rfl rfl (by decide +kernel) hv7 fl_X9_18 dX9_init_28 (fun S9 => ?_)
  refine j_aload_n 0 dX9_init_31 rfl rfl ?_
  refine j_sipush dX9_init_32 (by decide) ?_
  refine j_newai (j_r32 301 rfl) ac_i dX9_init_35 (fun (v10 : Int) (S11 : jSt) hv10 => ?_)
  refine j_putFr (ci := 9) (k := 5) (ty0 := tyX9) rfl in_X9 (Nat.le_of_ble_eq_true rfl) rfl tyX9_ok nmX9 rfl (Or.inr ⟨_, rfl⟩) rfl rfl rfl (by decide +kernel) hv10 fl_X9_21 dX9_init_37 (fun S12 => ?_)
  exact j_return dX9_init_40
theorem c_X9_init {G : jG} (a0 : Int) (S : jSt) (h0 : 0 ≤ (a0)) : CT G yX9_init cX9_init 1 none 1 ([(2, a0)].map jval) S (f_X9_init a0 S) := ct_of [(2, a0)] (by decide) rfl (Nat.le_of_ble_eq_true rfl) (e_X9_init (Nat.le_refl _) a0 S h0)
-- X11_init
def f_X11_init (a0 : Int) (S : jSt) : Option (Int × jSt) :=
  fnew S 10 (fun v1 S2 => fcall (f_X10_init v1 S2) (fun v3 S4 => fput S4 a0 11 0 v1 (fun S5 => fnew S5 1 (fun v6 S7 => fcall (f_X1_init v6 S7) (fun v8 S9 => fput S9 a0 11 1 v6 (fun S10 => fnew S10 8 (fun v11 S12 => fcall (f_X8_init v11 S12) (fun v13 S14 => fput S14 a0 11 2 v11 (fun S15 => fnew S15 10 (fun v16 S17 => fcall (f_X10_init v16 S17) (fun v18 S19 => fput S19 a0 11 3 v16 (fun S20 => fnew S20 1 (fun v21 S22 => fcall (f_X1_init v21 S22) (fun v23 S24 => fput S24 a0 11 4 v21 (fun S25 => fnew S25 8 (fun v26 S27 => fcall (f_X8_init v26 S27) (fun v28 S29 => fput S29 a0 11 5 v26 (fun S30 => fnew S30 9 (fun v31 S32 => fcall (f_X9_init v31 S32) (fun v33 S34 => fput S34 a0 11 6 v31 (fun S35 => fnew S35 4 (fun v36 S37 => fgetr S37 a0 11 6 (fun v38 => fcall (f_X4_init v36 v38 S37) (fun v39 S40 => fput S40 a0 11 7 v36 (fun S41 => fnew S41 5 (fun v42 S43 => fgetr S43 a0 11 0 (fun v44 => fcall (f_X5_init v42 v44 S43) (fun v45 S46 => fput S46 a0 11 8 v42 (fun S47 => fnew S47 0 (fun v48 S49 => fgetr S49 a0 11 0 (fun v50 => fgetr S49 a0 11 8 (fun v51 => fcall (f_X0_init v48 v50 v51 S49) (fun v52 S53 => fput S53 a0 11 9 v48 (fun S54 => fnew S54 1 (fun v55 S56 => fcall (f_X1_init v55 S56) (fun v57 S58 => fput S58 a0 11 10 v55 (fun S59 => some (0, S59))))))))))))))))))))))))))))))))))))))
theorem e_X11_init {G : jG} {d : Nat} {S0 : jSt} (hd0 : 3 ≤ d) (a0 : Int) (S : jSt) (h0 : 0 ≤ (a0)) : J G yX11_init cX11_init 1 none d S0 0 [(0, 2, a0)] [] S (f_X11_init a0 S) := by
  unfold f_X11_init
  refine j_aload_n 0 dX11_init_0 rfl rfl ?_
  refine j_objInit lo_X11_1 oi_i oi_c (Nat.le_of_ble_eq_true rfl) (Nat.le_trans (Nat.le_of_ble_eq_true rfl) hd0) dX11_init_1 ?_
  refine j_aload_n 0 dX11_init_4 rfl rfl ?_
  refine j_new (ci := 10) rfl in_X10 rfl tyX10_ok rfl pl_X10 cl_X11_7 is_X10 iz_X10 dX11_init_5 (fun (v1 : Int) (S2 : jSt) hv1 => ?_)
  refine j_dup dX11_init_8 (fun h => nomatch h) ?_
  refine j_callIN (As := []) (st := [(2, v1), (2, a0)]) (host := RX11) kc_X10_init (c_X10_init v1 S2 hv1) (by decide +kernel) ki_X10_init rfl rfl (Nat.le_of_ble_eq_true rfl) (Nat.le_trans (m := 3) (Nat.le_of_ble_eq_true rfl) hd0) dX11_init_9 (fun v3 S4 => ?_)
  refine j_putFr (ci := 11) (k := 0) (ty0 := tyX11) rfl in_X11 (Nat.le_of_ble_eq_true rfl) rfl tyX11_ok nmX11 rfl (Or.inl ⟨_, rfl⟩) rfl rfl rfl (by decide +kernel) hv1 fl_X11_10 dX11_init_12 (fun S5 => ?_)
  refine j_aload_n 0 dX11_init_15 rfl rfl ?_
  refine j_new (ci := 1) rfl in_X1 rfl tyX1_ok rfl pl_X1 cl_X11_16 is_X1 iz_X1 dX11_init_16 (fun (v6 : Int) (S7 : jSt) hv6 => ?_)
  refine j_dup dX11_init_19 (fun h => nomatch h) ?_
  refine j_callIN (As := []) (st := [(2, v6), (2, a0)]) (host := RX11) kc_X1_init (c_X1_init v6 S7 hv6) (by decide +kernel) ki_X1_init rfl rfl (Nat.le_of_ble_eq_true rfl) (Nat.le_trans (m := 3) (Nat.le_of_ble_eq_true rfl) hd0) dX11_init_20 (fun v8 S9 => ?_)
  refine j_putFr (ci := 11) (k := 1) (ty0 := tyX11) rfl in_X11 (Nat.le_of_ble_eq_true rfl) rfl tyX11_ok nmX11 rfl (Or.inl ⟨_, rfl⟩) rfl rfl rfl (by decide +kernel) hv6 fl_X11_19 dX11_init_23 (fun S10 => ?_)
  refine j_aload_n 0 dX11_init_26 rfl rfl ?_
  refine j_new (ci := 8) rfl in_X8 rfl tyX8_ok rfl pl_X8 cl_X11_23 is_X8 iz_X8 dX11_init_27 (fun (v11 : Int) (S12 : jSt) hv11 => ?_)
  refine j_dup dX11_init_30 (fun h => nomatch h) ?_
  refine j_callI (As := []) (st := [(2, v11), (2, a0)]) kc_X8_init (c_X8_init v11 S12 hv11) lm_X11_25 ki_X8_init rfl rfl (Nat.le_of_ble_eq_true rfl) (Nat.le_trans (m := 3) (Nat.le_of_ble_eq_true rfl) hd0) dX11_init_31 (fun v13 S14 => ?_)
  refine j_putFr (ci := 11) (k := 2) (ty0 := tyX11) rfl in_X11 (Nat.le_of_ble_eq_true rfl) rfl tyX11_ok nmX11 rfl (Or.inl ⟨_, rfl⟩) rfl rfl rfl (by decide +kernel) hv11 fl_X11_26 dX11_init_34 (fun S15 => ?_)
  refine j_aload_n 0 dX11_init_37 rfl rfl ?_
  refine j_new (ci := 10) rfl in_X10 rfl tyX10_ok rfl pl_X10 cl_X11_7 is_X10 iz_X10 dX11_init_38 (fun (v16 : Int) (S17 : jSt) hv16 => ?_)
  refine j_dup dX11_init_41 (fun h => nomatch h) ?_
  refine j_callIN (As := []) (st := [(2, v16), (2, a0)]) (host := RX11) kc_X10_init (c_X10_init v16 S17 hv16) (by decide +kernel) ki_X10_init rfl rfl (Nat.le_of_ble_eq_true rfl) (Nat.le_trans (m := 3) (Nat.le_of_ble_eq_true rfl) hd0) dX11_init_42 (fun v18 S19 => ?_)
  refine j_putFr (ci := 11) (k := 3) (ty0 := tyX11) rfl in_X11 (Nat.le_of_ble_eq_true rfl) rfl tyX11_ok nmX11 rfl (Or.inl ⟨_, rfl⟩) rfl rfl rfl (by decide +kernel) hv16 fl_X11_30 dX11_init_45 (fun S20 => ?_)
  refine j_aload_n 0 dX11_init_48 rfl rfl ?_
  refine j_new (ci := 1) rfl in_X1 rfl tyX1_ok rfl pl_X1 cl_X11_16 is_X1 iz_X1 dX11_init_49 (fun (v21 : Int) (S22 : jSt) hv21 => ?_)
  refine j_dup dX11_init_52 (fun h => nomatch h) ?_
  refine j_callIN (As := []) (st := [(2, v21), (2, a0)]) (host := RX11) kc_X1_init (c_X1_init v21 S22 hv21) (by decide +kernel) ki_X1_init rfl rfl (Nat.le_of_ble_eq_true rfl) (Nat.le_trans (m := 3) (Nat.le_of_ble_eq_true rfl) hd0) dX11_init_53 (fun v23 S24 => ?_)
  refine j_putFr (ci := 11) (k := 4) (ty0 := tyX11) rfl in_X11 (Nat.le_of_ble_eq_true rfl) rfl tyX11_ok nmX11 rfl (Or.inl ⟨_, rfl⟩) rfl rfl rfl (by decide +kernel) hv21 fl_X11_33 dX11_init_56 (fun S25 => ?_)
  refine j_aload_n 0 dX11_init_59 rfl rfl ?_
  refine j_new (ci := 8) rfl in_X8 rfl tyX8_ok rfl pl_X8 cl_X11_23 is_X8 iz_X8 dX11_init_60 (fun (v26 : Int) (S27 : jSt) hv26 => ?_)
  refine j_dup dX11_init_63 (fun h => nomatch h) ?_
  refine j_callI (As := []) (st := [(2, v26), (2, a0)]) kc_X8_init (c_X8_init v26 S27 hv26) lm_X11_25 ki_X8_init rfl rfl (Nat.le_of_ble_eq_true rfl) (Nat.le_trans (m := 3) (Nat.le_of_ble_eq_true rfl) hd0) dX11_init_64 (fun v28 S29 => ?_)
  refine j_putFr (ci := 11) (k := 5) (ty0 := tyX11) rfl in_X11 (Nat.le_of_ble_eq_true rfl) rfl tyX11_ok nmX11 rfl (Or.inl ⟨_, rfl⟩) rfl rfl rfl (by decide +kernel) hv26 fl_X11_36 dX11_init_67 (fun S30 => ?_)
  refine j_aload_n 0 dX11_init_70 rfl rfl ?_
  refine j_new (ci := 9) rfl in_X9 rfl tyX9_ok rfl pl_X9 cl_X11_39 is_X9 iz_X9 dX11_init_71 (fun (v31 : Int) (S32 : jSt) hv31 => ?_)
  refine j_dup dX11_init_74 (fun h => nomatch h) ?_
  refine j_callIN (As := []) (st := [(2, v31), (2, a0)]) (host := RX11) kc_X9_init (c_X9_init v31 S32 hv31) (by decide +kernel) ki_X9_init rfl rfl (Nat.le_of_ble_eq_true rfl) (Nat.le_trans (m := 3) (Nat.le_of_ble_eq_true rfl) hd0) dX11_init_75 (fun v33 S34 => ?_)
  refine j_putFr (ci := 11) (k := 6) (ty0 := tyX11) rfl in_X11 (Nat.le_of_ble_eq_true rfl) rfl tyX11_ok nmX11 rfl (Or.inl ⟨_, rfl⟩) rfl rfl rfl (by decide +kernel) hv31 fl_X11_42 dX11_init_78 (fun S35 => ?_)
  refine j_aload_n 0 dX11_init_81 rfl rfl ?_
  refine j_new (ci := 4) rfl in_X4 rfl tyX4_ok rfl pl_X4 cl_X11_46 is_X4 iz_X4 dX11_init_82 (fun (v36 : Int) (S37 : jSt) hv36 => ?_)
  refine j_dup dX11_init_85 (fun h => nomatch h) ?_
  refine j_aload_n 0 dX11_init_86 rfl rfl ?_
  refine j_getr (ci := 11) (k := 6) rfl in_X11 (Nat.le_of_ble_eq_true rfl) rfl rfl fl_X11_42 dX11_init_87 (fun (v38 : Int) (hv38 : 0 ≤ v38) => ?_)
  refine j_callI (As := [(2, v38)]) (st := [(2, v36), (2, a0)]) kc_X4_init (c_X4_init v36 v38 S37 hv36 hv38) lm_X11_48 ki_X4_init rfl rfl (Nat.le_of_ble_eq_true rfl) (Nat.le_trans (m := 3) (Nat.le_of_ble_eq_true rfl) hd0) dX11_init_90 (fun v39 S40 => ?_)
  refine j_putFr (ci := 11) (k := 7) (ty0 := tyX11) rfl in_X11 (Nat.le_of_ble_eq_true rfl) rfl tyX11_ok nmX11 rfl (Or.inl ⟨_, rfl⟩) rfl rfl rfl (by decide +kernel) hv36 fl_X11_51 dX11_init_93 (fun S41 => ?_)
  refine j_aload_n 0 dX11_init_96 rfl rfl ?_
  refine j_new (ci := 5) rfl in_X5 rfl tyX5_ok rfl pl_X5 cl_X11_55 is_X5 iz_X5 dX11_init_97 (fun (v42 : Int) (S43 : jSt) hv42 => ?_)
  refine j_dup dX11_init_100 (fun h => nomatch h) ?_
  refine j_aload_n 0 dX11_init_101 rfl rfl ?_
  refine j_getr (ci := 11) (k := 0) rfl in_X11 (Nat.le_of_ble_eq_true rfl) rfl rfl fl_X11_10 dX11_init_102 (fun (v44 : Int) (hv44 : 0 ≤ v44) => ?_)
  refine j_callI (As := [(2, v44)]) (st := [(2, v42), (2, a0)]) kc_X5_init (c_X5_init v42 v44 S43 hv42 hv44) lm_X11_57 ki_X5_init rfl rfl (Nat.le_of_ble_eq_true rfl) (Nat.le_trans (m := 3) (Nat.le_of_ble_eq_true rfl) hd0) dX11_init_105 (fun v45 S46 => ?_)
  refine j_putFr (ci := 11) (k := 8) (ty0 := tyX11) rfl in_X11 (Nat.le_of_ble_eq_true rfl) rfl tyX11_ok nmX11 rfl (Or.inl ⟨_, rfl⟩) rfl rfl rfl (by decide +kernel) hv42 fl_X11_60 dX11_init_108 (fun S47 => ?_)
  refine j_aload_n 0 dX11_init_111 rfl rfl ?_
  refine j_new (ci := 0) rfl in_X0 rfl tyX0_ok rfl pl_X0 cl_X11_64 is_X0 iz_X0 dX11_init_112 (fun (v48 : Int) (S49 : jSt) hv48 => ?_)
  refine j_dup dX11_init_115 (fun h => nomatch h) ?_
  refine j_aload_n 0 dX11_init_116 rfl rfl ?_
  refine j_getr (ci := 11) (k := 0) rfl in_X11 (Nat.le_of_ble_eq_true rfl) rfl rfl fl_X11_10 dX11_init_117 (fun (v50 : Int) (hv50 : 0 ≤ v50) => ?_)
  refine j_aload_n 0 dX11_init_120 rfl rfl ?_
  refine j_getr (ci := 11) (k := 8) rfl in_X11 (Nat.le_of_ble_eq_true rfl) rfl rfl fl_X11_60 dX11_init_121 (fun (v51 : Int) (hv51 : 0 ≤ v51) => ?_)
  refine j_callI (As := [(2, v50), (2, v51)]) (st := [(2, v48), (2, a0)]) kc_X0_init (c_X0_init v48 v50 v51 S49 hv48 hv50 hv51) lm_X11_66 ki_X0_init rfl rfl (Nat.le_of_ble_eq_true rfl) (Nat.le_trans (m := 3) (Nat.le_of_ble_eq_true rfl) hd0) dX11_init_124 (fun v52 S53 => ?_)
  refine j_putFr (ci := 11) (k := 9) (ty0 := tyX11) rfl in_X11 (Nat.le_of_ble_eq_true rfl) rfl tyX11_ok nmX11 rfl (Or.inl ⟨_, rfl⟩) rfl rfl rfl (by decide +kernel) hv48 fl_X11_69 dX11_init_127 (fun S54 => ?_)
  refine j_aload_n 0 dX11_init_130 rfl rfl ?_
  refine j_new (ci := 1) rfl in_X1 rfl tyX1_ok rfl pl_X1 cl_X11_16 is_X1 iz_X1 dX11_init_131 (fun (v55 : Int) (S56 : jSt) hv55 => ?_)
  refine j_dup dX11_init_134 (fun h => nomatch h) ?_
  refine j_callIN (As := []) (st := [(2, v55), (2, a0)]) (host := RX11) kc_X1_init (c_X1_init v55 S56 hv55) (by decide +kernel) ki_X1_init rfl rfl (Nat.le_of_ble_eq_true rfl) (Nat.le_trans (m := 3) (Nat.le_of_ble_eq_true rfl) hd0) dX11_init_135 (fun v57 S58 => ?_)
  refine j_putFr (ci := 11) (k := 10) (ty0 := tyX11) rfl in_X11 (Nat.le_of_ble_eq_true rfl) rfl tyX11_ok nmX11 rfl (Or.inl ⟨_, rfl⟩) rfl rfl rfl (by decide +kernel) hv55 fl_X11_73 dX11_init_138 (fun S59 => ?_)
  exact j_return dX11_init_141
theorem c_X11_init {G : jG} (a0 : Int) (S : jSt) (h0 : 0 ≤ (a0)) : CT G yX11_init cX11_init 1 none 3 ([(2, a0)].map jval) S (f_X11_init a0 S) := ct_of [(2, a0)] (by decide) rfl (Nat.le_of_ble_eq_true rfl) (e_X11_init (Nat.le_refl _) a0 S h0)
-- X1_lotsAt
def f_X1_lotsAt_b28 (r5 : Int → Int → Int → Int → Int → jSt → Option (Int × jSt)) (x0 : Int) (x1 : Int) (x2 : Int) (x3 : Int) (x4 : Int) (S : jSt) : Option (Int × jSt) :=
  flet (w32 (x4 + 1)) (fun v3 => r5 x0 x1 x2 x3 v3 S)
theorem p_f_X1_lotsAt_b28 {G : jG} {d : Nat} {S0 : jSt} (hd0 : 2 ≤ d) {r5 : Int → Int → Int → Int → Int → jSt → Option (Int × jSt)} (k5 : ∀ (x0 : Int) (x1 : Int) (x2 : Int) (x3 : Int) (x4 : Int) (S : jSt), (0 ≤ (x0)) → (R32 (x1)) → (R32 (x2)) → (R32 (x3)) → (R32 (x4)) → J G yX1_lotsAt cX1_lotsAt 5 (some .int) d S0 5 [(0, 2, x0), (1, 0, x1), (2, 0, x2), (3, 0, x3), (4, 0, x4)] [] S (r5 x0 x1 x2 x3 x4 S)) : ∀ (x0 : Int) (x1 : Int) (x2 : Int) (x3 : Int) (x4 : Int) (S : jSt), (0 ≤ (x0)) → (R32 (x1)) → (R32 (x2)) → (R32 (x3)) → (R32 (x4)) → J G yX1_lotsAt cX1_lotsAt 5 (some .int) d S0 28 [(0, 2, x0), (1, 0, x1), (2, 0, x2), (3, 0, x3), (4, 0, x4)] [] S (f_X1_lotsAt_b28 r5 x0 x1 x2 x3 x4 S) := by
  intro x0 x1 x2 x3 x4 S h0 h1 h2 h3 h4
  unfold f_X1_lotsAt_b28
  refine j_iincL (q := 4) dX1_lotsAt_28 rfl (Nat.le_of_ble_eq_true rfl) (fun v3 hv3 => ?_)
  refine j_lv (lv' := [(4, 0, v3), (0, 2, x0), (1, 0, x1), (2, 0, x2), (3, 0, x3)]) rfl ?_
  refine j_goto (tgt := 5) dX1_lotsAt_31 rfl ?_
  refine j_sub [1, 2, 3, 4, 0] rfl ?_
  exact k5 x0 x1 x2 x3 v3 S h0 h1 h2 h3 hv3
def f_X1_lotsAt_b5B (r5 : Int → Int → Int → Int → Int → jSt → Option (Int × jSt)) (x0 : Int) (x1 : Int) (x2 : Int) (x3 : Int) (x4 : Int) (S : jSt) : Option (Int × jSt) :=
  if x2 ≤ x4 then some (x3, S) else fcallv S x0 1 (f_X1_keepsAt x0 x4 x1 S) (fun v1 S2 => if v1 = 0 then f_X1_lotsAt_b28 r5 x0 x1 x2 x3 x4 S2 else flet (ior32 x3 (ishl32 1 x4)) (fun v4 => f_X1_lotsAt_b28 r5 x0 x1 x2 v4 x4 S2))
theorem p_f_X1_lotsAt_b5B {G : jG} {d : Nat} {S0 : jSt} (hd0 : 2 ≤ d) {r5 : Int → Int → Int → Int → Int → jSt → Option (Int × jSt)} (k5 : ∀ (x0 : Int) (x1 : Int) (x2 : Int) (x3 : Int) (x4 : Int) (S : jSt), (0 ≤ (x0)) → (R32 (x1)) → (R32 (x2)) → (R32 (x3)) → (R32 (x4)) → J G yX1_lotsAt cX1_lotsAt 5 (some .int) d S0 5 [(0, 2, x0), (1, 0, x1), (2, 0, x2), (3, 0, x3), (4, 0, x4)] [] S (r5 x0 x1 x2 x3 x4 S)) : ∀ (x0 : Int) (x1 : Int) (x2 : Int) (x3 : Int) (x4 : Int) (S : jSt), (0 ≤ (x0)) → (R32 (x1)) → (R32 (x2)) → (R32 (x3)) → (R32 (x4)) → J G yX1_lotsAt cX1_lotsAt 5 (some .int) d S0 5 [(0, 2, x0), (1, 0, x1), (2, 0, x2), (3, 0, x3), (4, 0, x4)] [] S (f_X1_lotsAt_b5B r5 x0 x1 x2 x3 x4 S) := by
  intro x0 x1 x2 x3 x4 S h0 h1 h2 h3 h4
  unfold f_X1_lotsAt_b5B
  refine j_iload 4 dX1_lotsAt_5 rfl ?_
  refine j_iload_n 2 dX1_lotsAt_7 rfl rfl ?_
  refine j_icmp_ge (tgt := 34) h4 h2 dX1_lotsAt_8 rfl (fun _ => ?_) (fun _ => ?_)
  · refine j_iload_n 3 dX1_lotsAt_34 rfl rfl ?_
    exact j_ireturn h3 dX1_lotsAt_35
  · refine j_aload_n 0 dX1_lotsAt_11 rfl rfl ?_
    refine j_iload 4 dX1_lotsAt_12 rfl ?_
    refine j_iload_n 1 dX1_lotsAt_14 rfl rfl ?_
    refine j_callV (ci := 1) (As := [(0, x4), (0, x1)]) (st := []) kc_X1_keepsAt (c_X1_keepsAt x0 x4 x1 S h0 h4 h1) rfl lm_X1_52 ki_X1_keepsAt ke_X1_keepsAt rfl (Nat.le_of_ble_eq_true rfl) (Nat.le_trans (m := 2) (Nat.le_of_ble_eq_true rfl) hd0) dX1_lotsAt_15 (fun (v1 : Int) (S2 : jSt) (hv1 : (v1) = 0 ∨ (v1) = 1) => ?_)
    refine j_if_eq (tgt := 28) (jZ_R hv1) dX1_lotsAt_18 rfl (fun _ => ?_) (fun _ => ?_)
    · exact p_f_X1_lotsAt_b28 hd0 k5 x0 x1 x2 x3 x4 S2 h0 h1 h2 h3 h4
    · refine j_iload_n 3 dX1_lotsAt_21 rfl rfl ?_
      refine j_iconst dX1_lotsAt_22 ?_
      refine j_iload 4 dX1_lotsAt_23 rfl ?_
      refine j_ishl dX1_lotsAt_25 ?_
      refine j_ior dX1_lotsAt_26 ?_
      refine j_leti (ior32_R _ _) (fun v4 hv4 => ?_)
      refine j_istore_n (lv' := [(3, 0, v4), (0, 2, x0), (1, 0, x1), (2, 0, x2), (4, 0, x4)]) dX1_lotsAt_27 rfl (Nat.le_of_ble_eq_true rfl) rfl ?_
      refine j_sub [1, 2, 3, 0, 4] rfl ?_
      exact p_f_X1_lotsAt_b28 hd0 k5 x0 x1 x2 v4 x4 S2 h0 h1 h2 hv4 h4
def f_X1_lotsAt_b5 : Int → Int → Int → Int → Int → jSt → Option (Int × jSt) := jrep (β := Int → Int → Int → Int → Int → jSt → Option (Int × jSt)) (fun _ _ _ _ _ _ => none) (fun r => f_X1_lotsAt_b5B r) jN
theorem p_f_X1_lotsAt_b5 {G : jG} {d : Nat} {S0 : jSt} (hd0 : 2 ≤ d) : ∀ (x0 : Int) (x1 : Int) (x2 : Int) (x3 : Int) (x4 : Int) (S : jSt), (0 ≤ (x0)) → (R32 (x1)) → (R32 (x2)) → (R32 (x3)) → (R32 (x4)) → J G yX1_lotsAt cX1_lotsAt 5 (some .int) d S0 5 [(0, 2, x0), (1, 0, x1), (2, 0, x2), (3, 0, x3), (4, 0, x4)] [] S (f_X1_lotsAt_b5  x0 x1 x2 x3 x4 S) :=
  jrep_ind (P := fun (r : Int → Int → Int → Int → Int → jSt → Option (Int × jSt)) => ∀ (x0 : Int) (x1 : Int) (x2 : Int) (x3 : Int) (x4 : Int) (S : jSt), (0 ≤ (x0)) → (R32 (x1)) → (R32 (x2)) → (R32 (x3)) → (R32 (x4)) → J G yX1_lotsAt cX1_lotsAt 5 (some .int) d S0 5 [(0, 2, x0), (1, 0, x1), (2, 0, x2), (3, 0, x3), (4, 0, x4)] [] S (r x0 x1 x2 x3 x4 S)) (by intros; exact j_none) (fun r k => p_f_X1_lotsAt_b5B hd0 k) jN
def f_X1_lotsAt (a0 : Int) (a1 : Int) (a2 : Int) (S : jSt) : Option (Int × jSt) :=
  f_X1_lotsAt_b5 a0 a1 a2 0 0 S
theorem e_X1_lotsAt {G : jG} {d : Nat} {S0 : jSt} (hd0 : 2 ≤ d) (a0 : Int) (a1 : Int) (a2 : Int) (S : jSt) (h0 : 0 ≤ (a0)) (h1 : R32 (a1)) (h2 : R32 (a2)) : J G yX1_lotsAt cX1_lotsAt 5 (some .int) d S0 0 [(0, 2, a0), (1, 0, a1), (2, 0, a2)] [] S (f_X1_lotsAt a0 a1 a2 S) := by
  unfold f_X1_lotsAt
  refine j_iconst dX1_lotsAt_0 ?_
  refine j_istore_n (lv' := [(3, 0, 0), (0, 2, a0), (1, 0, a1), (2, 0, a2)]) dX1_lotsAt_1 rfl (Nat.le_of_ble_eq_true rfl) rfl ?_
  refine j_iconst dX1_lotsAt_2 ?_
  refine j_istore (lv' := [(4, 0, 0), (3, 0, 0), (0, 2, a0), (1, 0, a1), (2, 0, a2)]) dX1_lotsAt_3 (Nat.le_of_ble_eq_true rfl) rfl ?_
  refine j_sub [2, 3, 4, 1, 0] rfl ?_
  exact p_f_X1_lotsAt_b5 hd0 a0 a1 a2 0 0 S h0 h1 h2 (jZ_R jz0) (jZ_R jz0)
theorem c_X1_lotsAt {G : jG} (a0 : Int) (a1 : Int) (a2 : Int) (S : jSt) (h0 : 0 ≤ (a0)) (h1 : R32 (a1)) (h2 : R32 (a2)) : CT G yX1_lotsAt cX1_lotsAt 5 (some .int) 2 ([(2, a0), (0, a1), (0, a2)].map jval) S (f_X1_lotsAt a0 a1 a2 S) := ct_of [(2, a0), (0, a1), (0, a2)] (by decide) rfl (Nat.le_of_ble_eq_true rfl) (e_X1_lotsAt (Nat.le_refl _) a0 a1 a2 S h0 h1 h2)
-- X11_is
def f_X11_is (a0 : Int) (a1 : Int) (S : jSt) : Option (Int × jSt) :=
  if a1 = 0 then fgetr S a0 11 1 (fun v1 => fget S v1 1 7 (fun v2 => some (v2, S))) else if a1 = 1 then fgetr S a0 11 1 (fun v3 => fget S v3 1 6 (fun v4 => some (v4, S))) else if a1 = 2 then fgetr S a0 11 1 (fun v5 => fget S v5 1 8 (fun v6 => some (v6, S))) else if a1 = 3 then fgetr S a0 11 1 (fun v7 => fcallv S v7 1 (f_X1_saleFloor v7 S) (fun v8 S9 => some (v8, S9))) else if a1 = 4 then fgetr S a0 11 1 (fun v10 => fgetr S a0 11 1 (fun v11 => fcallv S v11 1 (f_X1_saleFloor v11 S) (fun v12 S13 => fgetr S13 a0 11 0 (fun v14 => fget S13 v14 10 0 (fun v15 => fcallv S13 v10 1 (f_X1_lotsAt v10 v12 v15 S13) (fun v16 S17 => some (v16, S17))))))) else some ((-2), S)
theorem e_X11_is {G : jG} {d : Nat} {S0 : jSt} (hd0 : 3 ≤ d) (a0 : Int) (a1 : Int) (S : jSt) (h0 : 0 ≤ (a0)) (h1 : R32 (a1)) : J G yX11_is cX11_is 2 (some .int) d S0 0 [(0, 2, a0), (1, 0, a1)] [] S (f_X11_is a0 a1 S) := by
  unfold f_X11_is
  refine j_iload_n 1 dX11_is_0 rfl rfl ?_
  refine j_ite (fun hc0 => ?_) (fun hc0 => ?_)
  · refine j_tableIn (tgt := 36) (off := 35) h1 dX11_is_1 (by omega) (by omega) (by rw [hc0]; rfl) rfl ?_
    refine j_aload_n 0 dX11_is_36 rfl rfl ?_
    refine j_getr (ci := 11) (k := 1) rfl in_X11 (Nat.le_of_ble_eq_true rfl) rfl rfl fl_X11_19 dX11_is_37 (fun (v1 : Int) (hv1 : 0 ≤ v1) => ?_)
    refine j_get (ci := 1) (k := 7) (t := 0) rfl in_X1 (Nat.le_of_ble_eq_true rfl) rfl rfl fl_X11_193 dX11_is_40 (fun (v2 : Int) (hv2 : R32 (v2)) => ?_)
    exact j_ireturn hv2 dX11_is_43
  refine j_ite (fun hc1 => ?_) (fun hc1 => ?_)
  · refine j_tableIn (tgt := 44) (off := 43) h1 dX11_is_1 (by omega) (by omega) (by rw [hc1]; rfl) rfl ?_
    refine j_aload_n 0 dX11_is_44 rfl rfl ?_
    refine j_getr (ci := 11) (k := 1) rfl in_X11 (Nat.le_of_ble_eq_true rfl) rfl rfl fl_X11_19 dX11_is_45 (fun (v3 : Int) (hv3 : 0 ≤ v3) => ?_)
    refine j_get (ci := 1) (k := 6) (t := 0) rfl in_X1 (Nat.le_of_ble_eq_true rfl) rfl rfl fl_X11_278 dX11_is_48 (fun (v4 : Int) (hv4 : R32 (v4)) => ?_)
    exact j_ireturn hv4 dX11_is_51
  refine j_ite (fun hc2 => ?_) (fun hc2 => ?_)
  · refine j_tableIn (tgt := 52) (off := 51) h1 dX11_is_1 (by omega) (by omega) (by rw [hc2]; rfl) rfl ?_
    refine j_aload_n 0 dX11_is_52 rfl rfl ?_
    refine j_getr (ci := 11) (k := 1) rfl in_X11 (Nat.le_of_ble_eq_true rfl) rfl rfl fl_X11_19 dX11_is_53 (fun (v5 : Int) (hv5 : 0 ≤ v5) => ?_)
    refine j_get (ci := 1) (k := 8) (t := 0) rfl in_X1 (Nat.le_of_ble_eq_true rfl) rfl rfl fl_X11_213 dX11_is_56 (fun (v6 : Int) (hv6 : R32 (v6)) => ?_)
    exact j_ireturn hv6 dX11_is_59
  refine j_ite (fun hc3 => ?_) (fun hc3 => ?_)
  · refine j_tableIn (tgt := 60) (off := 59) h1 dX11_is_1 (by omega) (by omega) (by rw [hc3]; rfl) rfl ?_
    refine j_aload_n 0 dX11_is_60 rfl rfl ?_
    refine j_getr (ci := 11) (k := 1) rfl in_X11 (Nat.le_of_ble_eq_true rfl) rfl rfl fl_X11_19 dX11_is_61 (fun (v7 : Int) (hv7 : 0 ≤ v7) => ?_)
    refine j_callV (ci := 1) (As := []) (st := []) kc_X1_saleFloor (c_X1_saleFloor v7 S hv7) rfl lm_X11_281 ki_X1_saleFloor ke_X1_saleFloor rfl (Nat.le_of_ble_eq_true rfl) (Nat.le_trans (m := 3) (Nat.le_of_ble_eq_true rfl) hd0) dX11_is_64 (fun (v8 : Int) (S9 : jSt) (hv8 : R32 (v8)) => ?_)
    exact j_ireturn hv8 dX11_is_67
  refine j_ite (fun hc4 => ?_) (fun hc4 => ?_)
  · refine j_tableIn (tgt := 68) (off := 67) h1 dX11_is_1 (by omega) (by omega) (by rw [hc4]; rfl) rfl ?_
    refine j_aload_n 0 dX11_is_68 rfl rfl ?_
    refine j_getr (ci := 11) (k := 1) rfl in_X11 (Nat.le_of_ble_eq_true rfl) rfl rfl fl_X11_19 dX11_is_69 (fun (v10 : Int) (hv10 : 0 ≤ v10) => ?_)
    refine j_aload_n 0 dX11_is_72 rfl rfl ?_
    refine j_getr (ci := 11) (k := 1) rfl in_X11 (Nat.le_of_ble_eq_true rfl) rfl rfl fl_X11_19 dX11_is_73 (fun (v11 : Int) (hv11 : 0 ≤ v11) => ?_)
    refine j_callV (ci := 1) (As := []) (st := [(2, v10)]) kc_X1_saleFloor (c_X1_saleFloor v11 S hv11) rfl lm_X11_281 ki_X1_saleFloor ke_X1_saleFloor rfl (Nat.le_of_ble_eq_true rfl) (Nat.le_trans (m := 3) (Nat.le_of_ble_eq_true rfl) hd0) dX11_is_76 (fun (v12 : Int) (S13 : jSt) (hv12 : R32 (v12)) => ?_)
    refine j_aload_n 0 dX11_is_79 rfl rfl ?_
    refine j_getr (ci := 11) (k := 0) rfl in_X11 (Nat.le_of_ble_eq_true rfl) rfl rfl fl_X11_10 dX11_is_80 (fun (v14 : Int) (hv14 : 0 ≤ v14) => ?_)
    refine j_get (ci := 10) (k := 0) (t := 0) rfl in_X10 (Nat.le_of_ble_eq_true rfl) rfl rfl fl_X11_80 dX11_is_83 (fun (v15 : Int) (hv15 : R32 (v15)) => ?_)
    refine j_callV (ci := 1) (As := [(0, v12), (0, v15)]) (st := []) kc_X1_lotsAt (c_X1_lotsAt v10 v12 v15 S13 hv10 hv12 hv15) rfl lm_X11_285 ki_X1_lotsAt ke_X1_lotsAt rfl (Nat.le_of_ble_eq_true rfl) (Nat.le_trans (m := 3) (Nat.le_of_ble_eq_true rfl) hd0) dX11_is_86 (fun (v16 : Int) (S17 : jSt) (hv16 : R32 (v16)) => ?_)
    exact j_ireturn hv16 dX11_is_89
  refine j_tableOut (tgt := 90) h1 dX11_is_1 (by omega) rfl ?_
  refine j_bipush dX11_is_90 (by decide) ?_
  exact j_ireturn (j_r32 (-2) rfl) dX11_is_92
theorem c_X11_is {G : jG} (a0 : Int) (a1 : Int) (S : jSt) (h0 : 0 ≤ (a0)) (h1 : R32 (a1)) : CT G yX11_is cX11_is 2 (some .int) 3 ([(2, a0), (0, a1)].map jval) S (f_X11_is a0 a1 S) := ct_of [(2, a0), (0, a1)] (by decide) rfl (Nat.le_of_ble_eq_true rfl) (e_X11_is (Nat.le_refl _) a0 a1 S h0 h1)
-- X11_kept
def f_X11_kept_b37B (r37 : Int → Int → Int → Int → jSt → Option (Int × jSt)) (x0 : Int) (x1 : Int) (x2 : Int) (x3 : Int) (S : jSt) : Option (Int × jSt) :=
  fgetr S x0 11 0 (fun v7 => fget S v7 10 0 (fun v8 => if v8 ≤ x3 then some (x2, S) else fgetr S x0 11 0 (fun v9 => fgetr S v9 10 2 (fun v10 => fald S v10 x3 1 (fun v11 => flet (w32 (x2 + (w32 ((iand32 (ishr32 x1 x3) 1) * v11)))) (fun v12 => flet (w32 (x3 + 1)) (fun v13 => r37 x0 x1 v12 v13 S)))))))
theorem p_f_X11_kept_b37B {G : jG} {d : Nat} {S0 : jSt} (hd0 : 4 ≤ d) {r37 : Int → Int → Int → Int → jSt → Option (Int × jSt)} (k37 : ∀ (x0 : Int) (x1 : Int) (x2 : Int) (x3 : Int) (S : jSt), (0 ≤ (x0)) → (R32 (x1)) → (R32 (x2)) → (R32 (x3)) → J G yX11_kept cX11_kept 6 (some .int) d S0 37 [(0, 2, x0), (3, 0, x1), (4, 0, x2), (5, 0, x3)] [] S (r37 x0 x1 x2 x3 S)) : ∀ (x0 : Int) (x1 : Int) (x2 : Int) (x3 : Int) (S : jSt), (0 ≤ (x0)) → (R32 (x1)) → (R32 (x2)) → (R32 (x3)) → J G yX11_kept cX11_kept 6 (some .int) d S0 37 [(0, 2, x0), (3, 0, x1), (4, 0, x2), (5, 0, x3)] [] S (f_X11_kept_b37B r37 x0 x1 x2 x3 S) := by
  intro x0 x1 x2 x3 S h0 h1 h2 h3
  unfold f_X11_kept_b37B
  refine j_iload 3 dX11_kept_37 rfl ?_
  refine j_aload_n 0 dX11_kept_39 rfl rfl ?_
  refine j_getr (ci := 11) (k := 0) rfl in_X11 (Nat.le_of_ble_eq_true rfl) rfl rfl fl_X11_10 dX11_kept_40 (fun (v7 : Int) (hv7 : 0 ≤ v7) => ?_)
  refine j_get (ci := 10) (k := 0) (t := 0) rfl in_X10 (Nat.le_of_ble_eq_true rfl) rfl rfl fl_X11_80 dX11_kept_43 (fun (v8 : Int) (hv8 : R32 (v8)) => ?_)
  refine j_icmp_ge (tgt := 77) h3 hv8 dX11_kept_46 rfl (fun _ => ?_) (fun _ => ?_)
  · refine j_iload 2 dX11_kept_77 rfl ?_
    exact j_ireturn h2 dX11_kept_79
  · refine j_iload 2 dX11_kept_49 rfl ?_
    refine j_iload_n 1 dX11_kept_51 rfl rfl ?_
    refine j_iload 3 dX11_kept_52 rfl ?_
    refine j_ishr dX11_kept_54 ?_
    refine j_iconst dX11_kept_55 ?_
    refine j_iand dX11_kept_56 ?_
    refine j_aload_n 0 dX11_kept_57 rfl rfl ?_
    refine j_getr (ci := 11) (k := 0) rfl in_X11 (Nat.le_of_ble_eq_true rfl) rfl rfl fl_X11_10 dX11_kept_58 (fun (v9 : Int) (hv9 : 0 ≤ v9) => ?_)
    refine j_getr (ci := 10) (k := 2) rfl in_X10 (Nat.le_of_ble_eq_true rfl) rfl rfl fl_X11_84 dX11_kept_61 (fun (v10 : Int) (hv10 : 0 ≤ v10) => ?_)
    refine j_iload 3 dX11_kept_64 rfl ?_
    refine j_iaload h3 dX11_kept_66 (fun (v11 : Int) (hv11 : R32 (v11)) => ?_)
    refine j_imul dX11_kept_67 ?_
    refine j_iadd dX11_kept_68 ?_
    refine j_leti (w32_R _) (fun v12 hv12 => ?_)
    refine j_istore (lv' := [(4, 0, v12), (0, 2, x0), (3, 0, x1), (5, 0, x3)]) dX11_kept_69 (Nat.le_of_ble_eq_true rfl) rfl ?_
    refine j_iincL (q := 3) dX11_kept_71 rfl (Nat.le_of_ble_eq_true rfl) (fun v13 hv13 => ?_)
    refine j_lv (lv' := [(5, 0, v13), (4, 0, v12), (0, 2, x0), (3, 0, x1)]) rfl ?_
    refine j_goto (tgt := 37) dX11_kept_74 rfl ?_
    refine j_sub [2, 3, 1, 0] rfl ?_
    exact k37 x0 x1 v12 v13 S h0 h1 hv12 hv13
def f_X11_kept_b37 : Int → Int → Int → Int → jSt → Option (Int × jSt) := jrep (β := Int → Int → Int → Int → jSt → Option (Int × jSt)) (fun _ _ _ _ _ => none) (fun r => f_X11_kept_b37B r) jN
theorem p_f_X11_kept_b37 {G : jG} {d : Nat} {S0 : jSt} (hd0 : 4 ≤ d) : ∀ (x0 : Int) (x1 : Int) (x2 : Int) (x3 : Int) (S : jSt), (0 ≤ (x0)) → (R32 (x1)) → (R32 (x2)) → (R32 (x3)) → J G yX11_kept cX11_kept 6 (some .int) d S0 37 [(0, 2, x0), (3, 0, x1), (4, 0, x2), (5, 0, x3)] [] S (f_X11_kept_b37  x0 x1 x2 x3 S) :=
  jrep_ind (P := fun (r : Int → Int → Int → Int → jSt → Option (Int × jSt)) => ∀ (x0 : Int) (x1 : Int) (x2 : Int) (x3 : Int) (S : jSt), (0 ≤ (x0)) → (R32 (x1)) → (R32 (x2)) → (R32 (x3)) → J G yX11_kept cX11_kept 6 (some .int) d S0 37 [(0, 2, x0), (3, 0, x1), (4, 0, x2), (5, 0, x3)] [] S (r x0 x1 x2 x3 S)) (by intros; exact j_none) (fun r k => p_f_X11_kept_b37B hd0 k) jN
def f_X11_kept (a0 : Int) (a1 : Int) (a2 : Int) (S : jSt) : Option (Int × jSt) :=
  fcall (f_X11_within a1 1 12 S) (fun v1 S2 => if v1 = 0 then some ((-1), S2) else fgetr S2 a0 11 9 (fun v3 => fgetr S2 a0 11 1 (fun v4 => fcallv S2 v3 0 (f_X0_bestKept v3 v4 a1 S2) (fun v5 S6 => if a2 = 0 then some (v5, S6) else f_X11_kept_b37 a0 v5 0 0 S6))))
theorem e_X11_kept {G : jG} {d : Nat} {S0 : jSt} (hd0 : 4 ≤ d) (a0 : Int) (a1 : Int) (a2 : Int) (S : jSt) (h0 : 0 ≤ (a0)) (h1 : R32 (a1)) (h2 : (a2) = 0 ∨ (a2) = 1) : J G yX11_kept cX11_kept 6 (some .int) d S0 0 [(0, 2, a0), (1, 0, a1), (2, 0, a2)] [] S (f_X11_kept a0 a1 a2 S) := by
  unfold f_X11_kept
  refine j_iload_n 1 dX11_kept_0 rfl rfl ?_
  refine j_iconst dX11_kept_1 ?_
  refine j_bipush dX11_kept_2 (by decide) ?_
  refine j_callS (As := [(0, a1), (0, 1), (0, 12)]) (st := []) kc_X11_within (c_X11_within a1 1 12 S h1 (jZ_R jz1) (j_r32 12 rfl)) lm_X11_76 ks_X11_within rfl (Nat.le_of_ble_eq_true rfl) (Nat.le_trans (m := 4) (Nat.le_of_ble_eq_true rfl) hd0) dX11_kept_4 (fun (v1 : Int) (S2 : jSt) (hv1 : (v1) = 0 ∨ (v1) = 1) => ?_)
  refine j_if_ne (tgt := 12) (jZ_R hv1) dX11_kept_7 rfl (fun _ => ?_) (fun _ => ?_)
  · refine j_aload_n 0 dX11_kept_12 rfl rfl ?_
    refine j_getr (ci := 11) (k := 9) rfl in_X11 (Nat.le_of_ble_eq_true rfl) rfl rfl fl_X11_69 dX11_kept_13 (fun (v3 : Int) (hv3 : 0 ≤ v3) => ?_)
    refine j_aload_n 0 dX11_kept_16 rfl rfl ?_
    refine j_getr (ci := 11) (k := 1) rfl in_X11 (Nat.le_of_ble_eq_true rfl) rfl rfl fl_X11_19 dX11_kept_17 (fun (v4 : Int) (hv4 : 0 ≤ v4) => ?_)
    refine j_iload_n 1 dX11_kept_20 rfl rfl ?_
    refine j_callV (ci := 0) (As := [(2, v4), (0, a1)]) (st := []) kc_X0_bestKept (c_X0_bestKept v3 v4 a1 S2 hv3 hv4 h1) rfl lm_X11_332 ki_X0_bestKept ke_X0_bestKept rfl (Nat.le_of_ble_eq_true rfl) (Nat.le_trans (m := 4) (Nat.le_of_ble_eq_true rfl) hd0) dX11_kept_21 (fun (v5 : Int) (S6 : jSt) (hv5 : R32 (v5)) => ?_)
    refine j_istore_n (lv' := [(3, 0, v5), (0, 2, a0), (1, 0, a1), (2, 0, a2)]) dX11_kept_24 rfl (Nat.le_of_ble_eq_true rfl) rfl ?_
    refine j_iload_n 3 dX11_kept_25 rfl rfl ?_
    refine j_if_ne (tgt := 31) (jZ_R h2) dX11_kept_26 rfl (fun _ => ?_) (fun _ => ?_)
    · refine j_iconst dX11_kept_31 ?_
      refine j_istore (lv' := [(4, 0, 0), (3, 0, v5), (0, 2, a0), (1, 0, a1), (2, 0, a2)]) dX11_kept_32 (Nat.le_of_ble_eq_true rfl) rfl ?_
      refine j_iconst dX11_kept_34 ?_
      refine j_istore (lv' := [(5, 0, 0), (4, 0, 0), (3, 0, v5), (0, 2, a0), (1, 0, a1), (2, 0, a2)]) dX11_kept_35 (Nat.le_of_ble_eq_true rfl) rfl ?_
      refine j_sub [3, 2, 1, 0] rfl ?_
      exact p_f_X11_kept_b37 hd0 a0 v5 0 0 S6 h0 hv5 (jZ_R jz0) (jZ_R jz0)
    · refine j_iload_n 0 dX11_kept_29 rfl rfl ?_
      exact j_ireturn hv5 dX11_kept_30
  · refine j_iconst dX11_kept_10 ?_
    exact j_ireturn (j_r32 (-1) rfl) dX11_kept_11
theorem c_X11_kept {G : jG} (a0 : Int) (a1 : Int) (a2 : Int) (S : jSt) (h0 : 0 ≤ (a0)) (h1 : R32 (a1)) (h2 : (a2) = 0 ∨ (a2) = 1) : CT G yX11_kept cX11_kept 6 (some .int) 4 ([(2, a0), (0, a1), (0, a2)].map jval) S (f_X11_kept a0 a1 a2 S) := ct_of [(2, a0), (0, a1), (0, a2)] (by decide) rfl (Nat.le_of_ble_eq_true rfl) (e_X11_kept (Nat.le_refl _) a0 a1 a2 S h0 h1 h2)
-- X3_areWhole
def f_X3_areWhole_b36 (x0 : Int) (S : jSt) : Option (Int × jSt) :=
  some (x0, S)
theorem p_f_X3_areWhole_b36 {G : jG} {d : Nat} {S0 : jSt} (hd0 : 1 ≤ d) : ∀ (x0 : Int) (S : jSt), ((x0) = 0 ∨ (x0) = 1) → J G yX3_areWhole cX3_areWhole 3 (some .boolean) d S0 36 [] [(0, x0)] S (f_X3_areWhole_b36  x0 S) := by
  intro x0 S h0
  unfold f_X3_areWhole_b36
  exact j_zreturn h0 dX3_areWhole_36
def f_X3_areWhole_b4B (r4 : Int → Int → Int → jSt → Option (Int × jSt)) (x0 : Int) (x1 : Int) (x2 : Int) (S : jSt) : Option (Int × jSt) :=
  if 6 ≤ x2 then if x1 = 10 then f_X3_areWhole_b36 1 S else f_X3_areWhole_b36 0 S else fgetr S x0 3 0 (fun v1 => fald S v1 x2 1 (fun v2 => flet (w32 (x1 + v2)) (fun v3 => flet (w32 (x2 + 1)) (fun v4 => r4 x0 v3 v4 S))))
theorem p_f_X3_areWhole_b4B {G : jG} {d : Nat} {S0 : jSt} (hd0 : 1 ≤ d) {r4 : Int → Int → Int → jSt → Option (Int × jSt)} (k4 : ∀ (x0 : Int) (x1 : Int) (x2 : Int) (S : jSt), (0 ≤ (x0)) → (R32 (x1)) → (R32 (x2)) → J G yX3_areWhole cX3_areWhole 3 (some .boolean) d S0 4 [(0, 2, x0), (1, 0, x1), (2, 0, x2)] [] S (r4 x0 x1 x2 S)) : ∀ (x0 : Int) (x1 : Int) (x2 : Int) (S : jSt), (0 ≤ (x0)) → (R32 (x1)) → (R32 (x2)) → J G yX3_areWhole cX3_areWhole 3 (some .boolean) d S0 4 [(0, 2, x0), (1, 0, x1), (2, 0, x2)] [] S (f_X3_areWhole_b4B r4 x0 x1 x2 S) := by
  intro x0 x1 x2 S h0 h1 h2
  unfold f_X3_areWhole_b4B
  refine j_iload_n 2 dX3_areWhole_4 rfl rfl ?_
  refine j_bipush dX3_areWhole_5 (by decide) ?_
  refine j_icmp_ge (tgt := 25) h2 (j_r32 6 rfl) dX3_areWhole_7 rfl (fun _ => ?_) (fun _ => ?_)
  · refine j_iload_n 1 dX3_areWhole_25 rfl rfl ?_
    refine j_bipush dX3_areWhole_26 (by decide) ?_
    refine j_icmp_ne (tgt := 35) h1 (j_r32 10 rfl) dX3_areWhole_28 rfl (fun _ => ?_) (fun _ => ?_)
    · refine j_iconst dX3_areWhole_35 ?_
      refine j_sub [] rfl ?_
      exact p_f_X3_areWhole_b36 hd0 0 S jz0
    · refine j_iconst dX3_areWhole_31 ?_
      refine j_goto (tgt := 36) dX3_areWhole_32 rfl ?_
      refine j_sub [] rfl ?_
      exact p_f_X3_areWhole_b36 hd0 1 S jz1
  · refine j_iload_n 1 dX3_areWhole_10 rfl rfl ?_
    refine j_aload_n 0 dX3_areWhole_11 rfl rfl ?_
    refine j_getr (ci := 3) (k := 0) rfl in_X3 (Nat.le_of_ble_eq_true rfl) rfl rfl fl_X3_9 dX3_areWhole_12 (fun (v1 : Int) (hv1 : 0 ≤ v1) => ?_)
    refine j_iload_n 2 dX3_areWhole_15 rfl rfl ?_
    refine j_iaload h2 dX3_areWhole_16 (fun (v2 : Int) (hv2 : R32 (v2)) => ?_)
    refine j_iadd dX3_areWhole_17 ?_
    refine j_leti (w32_R _) (fun v3 hv3 => ?_)
    refine j_istore_n (lv' := [(1, 0, v3), (0, 2, x0), (2, 0, x2)]) dX3_areWhole_18 rfl (Nat.le_of_ble_eq_true rfl) rfl ?_
    refine j_iincL (q := 2) dX3_areWhole_19 rfl (Nat.le_of_ble_eq_true rfl) (fun v4 hv4 => ?_)
    refine j_lv (lv' := [(2, 0, v4), (1, 0, v3), (0, 2, x0)]) rfl ?_
    refine j_goto (tgt := 4) dX3_areWhole_22 rfl ?_
    refine j_sub [2, 1, 0] rfl ?_
    exact k4 x0 v3 v4 S h0 hv3 hv4
def f_X3_areWhole_b4 : Int → Int → Int → jSt → Option (Int × jSt) := jrep (β := Int → Int → Int → jSt → Option (Int × jSt)) (fun _ _ _ _ => none) (fun r => f_X3_areWhole_b4B r) jN
theorem p_f_X3_areWhole_b4 {G : jG} {d : Nat} {S0 : jSt} (hd0 : 1 ≤ d) : ∀ (x0 : Int) (x1 : Int) (x2 : Int) (S : jSt), (0 ≤ (x0)) → (R32 (x1)) → (R32 (x2)) → J G yX3_areWhole cX3_areWhole 3 (some .boolean) d S0 4 [(0, 2, x0), (1, 0, x1), (2, 0, x2)] [] S (f_X3_areWhole_b4  x0 x1 x2 S) :=
  jrep_ind (P := fun (r : Int → Int → Int → jSt → Option (Int × jSt)) => ∀ (x0 : Int) (x1 : Int) (x2 : Int) (S : jSt), (0 ≤ (x0)) → (R32 (x1)) → (R32 (x2)) → J G yX3_areWhole cX3_areWhole 3 (some .boolean) d S0 4 [(0, 2, x0), (1, 0, x1), (2, 0, x2)] [] S (r x0 x1 x2 S)) (by intros; exact j_none) (fun r k => p_f_X3_areWhole_b4B hd0 k) jN
def f_X3_areWhole (a0 : Int) (S : jSt) : Option (Int × jSt) :=
  f_X3_areWhole_b4 a0 0 0 S
theorem e_X3_areWhole {G : jG} {d : Nat} {S0 : jSt} (hd0 : 1 ≤ d) (a0 : Int) (S : jSt) (h0 : 0 ≤ (a0)) : J G yX3_areWhole cX3_areWhole 3 (some .boolean) d S0 0 [(0, 2, a0)] [] S (f_X3_areWhole a0 S) := by
  unfold f_X3_areWhole
  refine j_iconst dX3_areWhole_0 ?_
  refine j_istore_n (lv' := [(1, 0, 0), (0, 2, a0)]) dX3_areWhole_1 rfl (Nat.le_of_ble_eq_true rfl) rfl ?_
  refine j_iconst dX3_areWhole_2 ?_
  refine j_istore_n (lv' := [(2, 0, 0), (1, 0, 0), (0, 2, a0)]) dX3_areWhole_3 rfl (Nat.le_of_ble_eq_true rfl) rfl ?_
  refine j_sub [2, 1, 0] rfl ?_
  exact p_f_X3_areWhole_b4 hd0 a0 0 0 S h0 (jZ_R jz0) (jZ_R jz0)
theorem c_X3_areWhole {G : jG} (a0 : Int) (S : jSt) (h0 : 0 ≤ (a0)) : CT G yX3_areWhole cX3_areWhole 3 (some .boolean) 1 ([(2, a0)].map jval) S (f_X3_areWhole a0 S) := ct_of [(2, a0)] (by decide) rfl (Nat.le_of_ble_eq_true rfl) (e_X3_areWhole (Nat.le_refl _) a0 S h0)
-- X3_unitOf
def f_X3_unitOf_b4B (r4 : Int → Int → Int → jSt → Option (Int × jSt)) (x0 : Int) (x1 : Int) (x2 : Int) (S : jSt) : Option (Int × jSt) :=
  if x0 ≤ x2 then some (x1, S) else flet (w64 (x1 * 10)) (fun v1 => flet (w32 (x2 + 1)) (fun v2 => r4 x0 v1 v2 S))
theorem p_f_X3_unitOf_b4B {G : jG} {d : Nat} {S0 : jSt} (hd0 : 1 ≤ d) {r4 : Int → Int → Int → jSt → Option (Int × jSt)} (k4 : ∀ (x0 : Int) (x1 : Int) (x2 : Int) (S : jSt), (R32 (x0)) → (R64 (x1)) → (R32 (x2)) → J G yX3_unitOf cX3_unitOf 4 (some .long) d S0 4 [(0, 0, x0), (1, 1, x1), (3, 0, x2)] [] S (r4 x0 x1 x2 S)) : ∀ (x0 : Int) (x1 : Int) (x2 : Int) (S : jSt), (R32 (x0)) → (R64 (x1)) → (R32 (x2)) → J G yX3_unitOf cX3_unitOf 4 (some .long) d S0 4 [(0, 0, x0), (1, 1, x1), (3, 0, x2)] [] S (f_X3_unitOf_b4B r4 x0 x1 x2 S) := by
  intro x0 x1 x2 S h0 h1 h2
  unfold f_X3_unitOf_b4B
  refine j_iload_n 2 dX3_unitOf_4 rfl rfl ?_
  refine j_iload_n 0 dX3_unitOf_5 rfl rfl ?_
  refine j_icmp_ge (tgt := 21) h2 h0 dX3_unitOf_6 rfl (fun _ => ?_) (fun _ => ?_)
  · refine j_lload_n 1 dX3_unitOf_21 rfl rfl ?_
    exact j_lreturn h1 dX3_unitOf_22
  · refine j_lload_n 1 dX3_unitOf_9 rfl rfl ?_
    refine j_ldc2 cn_X3_15 dX3_unitOf_10 ?_
    refine j_lmul dX3_unitOf_13 ?_
    refine j_letl (w64_R _) (fun v1 hv1 => ?_)
    refine j_lstore_n (lv' := [(1, 1, v1), (0, 0, x0), (3, 0, x2)]) dX3_unitOf_14 rfl (Nat.le_of_ble_eq_true rfl) rfl ?_
    refine j_iincL (q := 2) dX3_unitOf_15 rfl (Nat.le_of_ble_eq_true rfl) (fun v2 hv2 => ?_)
    refine j_lv (lv' := [(3, 0, v2), (1, 1, v1), (0, 0, x0)]) rfl ?_
    refine j_goto (tgt := 4) dX3_unitOf_18 rfl ?_
    refine j_sub [2, 1, 0] rfl ?_
    exact k4 x0 v1 v2 S h0 hv1 hv2
def f_X3_unitOf_b4 : Int → Int → Int → jSt → Option (Int × jSt) := jrep (β := Int → Int → Int → jSt → Option (Int × jSt)) (fun _ _ _ _ => none) (fun r => f_X3_unitOf_b4B r) jN
theorem p_f_X3_unitOf_b4 {G : jG} {d : Nat} {S0 : jSt} (hd0 : 1 ≤ d) : ∀ (x0 : Int) (x1 : Int) (x2 : Int) (S : jSt), (R32 (x0)) → (R64 (x1)) → (R32 (x2)) → J G yX3_unitOf cX3_unitOf 4 (some .long) d S0 4 [(0, 0, x0), (1, 1, x1), (3, 0, x2)] [] S (f_X3_unitOf_b4  x0 x1 x2 S) :=
  jrep_ind (P := fun (r : Int → Int → Int → jSt → Option (Int × jSt)) => ∀ (x0 : Int) (x1 : Int) (x2 : Int) (S : jSt), (R32 (x0)) → (R64 (x1)) → (R32 (x2)) → J G yX3_unitOf cX3_unitOf 4 (some .long) d S0 4 [(0, 0, x0), (1, 1, x1), (3, 0, x2)] [] S (r x0 x1 x2 S)) (by intros; exact j_none) (fun r k => p_f_X3_unitOf_b4B hd0 k) jN
def f_X3_unitOf (a0 : Int) (S : jSt) : Option (Int × jSt) :=
  f_X3_unitOf_b4 a0 1 0 S
theorem e_X3_unitOf {G : jG} {d : Nat} {S0 : jSt} (hd0 : 1 ≤ d) (a0 : Int) (S : jSt) (h0 : R32 (a0)) : J G yX3_unitOf cX3_unitOf 4 (some .long) d S0 0 [(0, 0, a0)] [] S (f_X3_unitOf a0 S) := by
  unfold f_X3_unitOf
  refine j_lconst (z := 1) dX3_unitOf_0 rfl ?_
  refine j_lstore_n (lv' := [(1, 1, 1), (0, 0, a0)]) dX3_unitOf_1 rfl (Nat.le_of_ble_eq_true rfl) rfl ?_
  refine j_iconst dX3_unitOf_2 ?_
  refine j_istore_n (lv' := [(3, 0, 0), (1, 1, 1), (0, 0, a0)]) dX3_unitOf_3 rfl (Nat.le_of_ble_eq_true rfl) rfl ?_
  refine j_sub [2, 1, 0] rfl ?_
  exact p_f_X3_unitOf_b4 hd0 a0 1 0 S h0 (j_r64 1 rfl) (jZ_R jz0)
theorem c_X3_unitOf {G : jG} (a0 : Int) (S : jSt) (h0 : R32 (a0)) : CT G yX3_unitOf cX3_unitOf 4 (some .long) 1 ([(0, a0)].map jval) S (f_X3_unitOf a0 S) := ct_of [(0, a0)] (by decide) rfl (Nat.le_of_ble_eq_true rfl) (e_X3_unitOf (Nat.le_refl _) a0 S h0)
-- X3_meanOf
def f_X3_meanOf_b17B (r5 : Int → Int → Int → Int → jSt → Option (Int × jSt)) (r17 : Int → Int → Int → Int → Int → Int → jSt → Option (Int × jSt)) (x0 : Int) (x1 : Int) (x2 : Int) (x3 : Int) (x4 : Int) (x5 : Int) (S : jSt) : Option (Int × jSt) :=
  if 6 ≤ x5 then flet (w32 (x3 + 1)) (fun v1 => r5 x0 x1 x4 v1 S) else fgetr S x0 3 0 (fun v2 => fald S v2 x5 1 (fun v3 => fcall (f_X3_unitOf x3 S) (fun v4 S5 => flet (w64 (x4 + (w64 (v3 * (imax (w64 ((w64 (10 * x5)) * v4)) x2))))) (fun v6 => flet (w32 (x5 + 1)) (fun v7 => r17 x0 x1 x2 x3 v6 v7 S5)))))
theorem p_f_X3_meanOf_b17B {G : jG} {d : Nat} {S0 : jSt} (hd0 : 2 ≤ d) {r5 : Int → Int → Int → Int → jSt → Option (Int × jSt)} (k5 : ∀ (x0 : Int) (x1 : Int) (x2 : Int) (x3 : Int) (S : jSt), (0 ≤ (x0)) → (R32 (x1)) → (R64 (x2)) → (R32 (x3)) → J G yX3_meanOf cX3_meanOf 8 (some .long) d S0 5 [(0, 2, x0), (1, 0, x1), (2, 1, x2), (4, 0, x3)] [] S (r5 x0 x1 x2 x3 S)) {r17 : Int → Int → Int → Int → Int → Int → jSt → Option (Int × jSt)} (k17 : ∀ (x0 : Int) (x1 : Int) (x2 : Int) (x3 : Int) (x4 : Int) (x5 : Int) (S : jSt), (0 ≤ (x0)) → (R32 (x1)) → (R64 (x2)) → (R32 (x3)) → (R64 (x4)) → (R32 (x5)) → J G yX3_meanOf cX3_meanOf 8 (some .long) d S0 17 [(0, 2, x0), (1, 0, x1), (2, 1, x2), (4, 0, x3), (5, 1, x4), (7, 0, x5)] [] S (r17 x0 x1 x2 x3 x4 x5 S)) : ∀ (x0 : Int) (x1 : Int) (x2 : Int) (x3 : Int) (x4 : Int) (x5 : Int) (S : jSt), (0 ≤ (x0)) → (R32 (x1)) → (R64 (x2)) → (R32 (x3)) → (R64 (x4)) → (R32 (x5)) → J G yX3_meanOf cX3_meanOf 8 (some .long) d S0 17 [(0, 2, x0), (1, 0, x1), (2, 1, x2), (4, 0, x3), (5, 1, x4), (7, 0, x5)] [] S (f_X3_meanOf_b17B r5 r17 x0 x1 x2 x3 x4 x5 S) := by
  intro x0 x1 x2 x3 x4 x5 S h0 h1 h2 h3 h4 h5
  unfold f_X3_meanOf_b17B
  refine j_iload 5 dX3_meanOf_17 rfl ?_
  refine j_bipush dX3_meanOf_19 (by decide) ?_
  refine j_icmp_ge (tgt := 61) h5 (j_r32 6 rfl) dX3_meanOf_21 rfl (fun _ => ?_) (fun _ => ?_)
  · refine j_lload 4 dX3_meanOf_61 rfl ?_
    refine j_lstore_n (lv' := [(2, 1, x4), (0, 2, x0), (1, 0, x1), (4, 0, x3), (5, 1, x4), (7, 0, x5)]) dX3_meanOf_63 rfl (Nat.le_of_ble_eq_true rfl) rfl ?_
    refine j_iincL (q := 3) dX3_meanOf_64 rfl (Nat.le_of_ble_eq_true rfl) (fun v1 hv1 => ?_)
    refine j_lv (lv' := [(4, 0, v1), (2, 1, x4), (0, 2, x0), (1, 0, x1), (5, 1, x4), (7, 0, x5)]) rfl ?_
    refine j_goto (tgt := 5) dX3_meanOf_67 rfl ?_
    refine j_sub [2, 3, 1, 0] rfl ?_
    exact k5 x0 x1 x4 v1 S h0 h1 h4 hv1
  · refine j_lload 4 dX3_meanOf_24 rfl ?_
    refine j_aload_n 0 dX3_meanOf_26 rfl rfl ?_
    refine j_getr (ci := 3) (k := 0) rfl in_X3 (Nat.le_of_ble_eq_true rfl) rfl rfl fl_X3_9 dX3_meanOf_27 (fun (v2 : Int) (hv2 : 0 ≤ v2) => ?_)
    refine j_iload 5 dX3_meanOf_30 rfl ?_
    refine j_iaload h5 dX3_meanOf_32 (fun (v3 : Int) (hv3 : R32 (v3)) => ?_)
    refine j_i2l hv3 dX3_meanOf_33 ?_
    refine j_ldc2 cn_X3_15 dX3_meanOf_34 ?_
    refine j_iload 5 dX3_meanOf_37 rfl ?_
    refine j_i2l h5 dX3_meanOf_39 ?_
    refine j_lmul dX3_meanOf_40 ?_
    refine j_iload 3 dX3_meanOf_41 rfl ?_
    refine j_callS (As := [(0, x3)]) (st := [(1, w64 (10 * x5)), (1, v3), (1, x4)]) kc_X3_unitOf (c_X3_unitOf x3 S h3) lm_X3_17 ks_X3_unitOf rfl (Nat.le_of_ble_eq_true rfl) (Nat.le_trans (m := 2) (Nat.le_of_ble_eq_true rfl) hd0) dX3_meanOf_43 (fun (v4 : Int) (S5 : jSt) (hv4 : R64 (v4)) => ?_)
    refine j_lmul dX3_meanOf_46 ?_
    refine j_lload_n 2 dX3_meanOf_47 rfl rfl ?_
    refine j_mmaxl (w64_R _) h2 lx_X3_21 mx_s_mmaxl mx_i mx_c_mmaxl (Nat.le_of_ble_eq_true rfl) (Nat.le_trans (Nat.le_of_ble_eq_true rfl) hd0) dX3_meanOf_48 ?_
    refine j_lmul dX3_meanOf_51 ?_
    refine j_ladd dX3_meanOf_52 ?_
    refine j_letl (w64_R _) (fun v6 hv6 => ?_)
    refine j_lstore (lv' := [(5, 1, v6), (0, 2, x0), (1, 0, x1), (2, 1, x2), (4, 0, x3), (7, 0, x5)]) dX3_meanOf_53 (Nat.le_of_ble_eq_true rfl) rfl ?_
    refine j_iincL (q := 5) dX3_meanOf_55 rfl (Nat.le_of_ble_eq_true rfl) (fun v7 hv7 => ?_)
    refine j_lv (lv' := [(7, 0, v7), (5, 1, v6), (0, 2, x0), (1, 0, x1), (2, 1, x2), (4, 0, x3)]) rfl ?_
    refine j_goto (tgt := 17) dX3_meanOf_58 rfl ?_
    refine j_sub [2, 3, 4, 5, 1, 0] rfl ?_
    exact k17 x0 x1 x2 x3 v6 v7 S5 h0 h1 h2 h3 hv6 hv7
def f_X3_meanOf_b17 (r5 : Int → Int → Int → Int → jSt → Option (Int × jSt)) : Int → Int → Int → Int → Int → Int → jSt → Option (Int × jSt) := jrep (β := Int → Int → Int → Int → Int → Int → jSt → Option (Int × jSt)) (fun _ _ _ _ _ _ _ => none) (fun r => f_X3_meanOf_b17B r5 r) jN
theorem p_f_X3_meanOf_b17 {G : jG} {d : Nat} {S0 : jSt} (hd0 : 2 ≤ d) {r5 : Int → Int → Int → Int → jSt → Option (Int × jSt)} (k5 : ∀ (x0 : Int) (x1 : Int) (x2 : Int) (x3 : Int) (S : jSt), (0 ≤ (x0)) → (R32 (x1)) → (R64 (x2)) → (R32 (x3)) → J G yX3_meanOf cX3_meanOf 8 (some .long) d S0 5 [(0, 2, x0), (1, 0, x1), (2, 1, x2), (4, 0, x3)] [] S (r5 x0 x1 x2 x3 S)) : ∀ (x0 : Int) (x1 : Int) (x2 : Int) (x3 : Int) (x4 : Int) (x5 : Int) (S : jSt), (0 ≤ (x0)) → (R32 (x1)) → (R64 (x2)) → (R32 (x3)) → (R64 (x4)) → (R32 (x5)) → J G yX3_meanOf cX3_meanOf 8 (some .long) d S0 17 [(0, 2, x0), (1, 0, x1), (2, 1, x2), (4, 0, x3), (5, 1, x4), (7, 0, x5)] [] S (f_X3_meanOf_b17 r5 x0 x1 x2 x3 x4 x5 S) :=
  jrep_ind (P := fun (r : Int → Int → Int → Int → Int → Int → jSt → Option (Int × jSt)) => ∀ (x0 : Int) (x1 : Int) (x2 : Int) (x3 : Int) (x4 : Int) (x5 : Int) (S : jSt), (0 ≤ (x0)) → (R32 (x1)) → (R64 (x2)) → (R32 (x3)) → (R64 (x4)) → (R32 (x5)) → J G yX3_meanOf cX3_meanOf 8 (some .long) d S0 17 [(0, 2, x0), (1, 0, x1), (2, 1, x2), (4, 0, x3), (5, 1, x4), (7, 0, x5)] [] S (r x0 x1 x2 x3 x4 x5 S)) (by intros; exact j_none) (fun r k => p_f_X3_meanOf_b17B hd0 k5 k) jN
def f_X3_meanOf_b5B (r5 : Int → Int → Int → Int → jSt → Option (Int × jSt)) (x0 : Int) (x1 : Int) (x2 : Int) (x3 : Int) (S : jSt) : Option (Int × jSt) :=
  if x1 ≤ x3 then some (x2, S) else f_X3_meanOf_b17 r5 x0 x1 x2 x3 0 0 S
theorem p_f_X3_meanOf_b5B {G : jG} {d : Nat} {S0 : jSt} (hd0 : 2 ≤ d) {r5 : Int → Int → Int → Int → jSt → Option (Int × jSt)} (k5 : ∀ (x0 : Int) (x1 : Int) (x2 : Int) (x3 : Int) (S : jSt), (0 ≤ (x0)) → (R32 (x1)) → (R64 (x2)) → (R32 (x3)) → J G yX3_meanOf cX3_meanOf 8 (some .long) d S0 5 [(0, 2, x0), (1, 0, x1), (2, 1, x2), (4, 0, x3)] [] S (r5 x0 x1 x2 x3 S)) : ∀ (x0 : Int) (x1 : Int) (x2 : Int) (x3 : Int) (S : jSt), (0 ≤ (x0)) → (R32 (x1)) → (R64 (x2)) → (R32 (x3)) → J G yX3_meanOf cX3_meanOf 8 (some .long) d S0 5 [(0, 2, x0), (1, 0, x1), (2, 1, x2), (4, 0, x3)] [] S (f_X3_meanOf_b5B r5 x0 x1 x2 x3 S) := by
  intro x0 x1 x2 x3 S h0 h1 h2 h3
  unfold f_X3_meanOf_b5B
  refine j_iload 3 dX3_meanOf_5 rfl ?_
  refine j_iload_n 1 dX3_meanOf_7 rfl rfl ?_
  refine j_icmp_ge (tgt := 70) h3 h1 dX3_meanOf_8 rfl (fun _ => ?_) (fun _ => ?_)
  · refine j_lload_n 2 dX3_meanOf_70 rfl rfl ?_
    exact j_lreturn h2 dX3_meanOf_71
  · refine j_lconst (z := 0) dX3_meanOf_11 rfl ?_
    refine j_lstore (lv' := [(5, 1, 0), (0, 2, x0), (1, 0, x1), (2, 1, x2), (4, 0, x3)]) dX3_meanOf_12 (Nat.le_of_ble_eq_true rfl) rfl ?_
    refine j_iconst dX3_meanOf_14 ?_
    refine j_istore (lv' := [(7, 0, 0), (5, 1, 0), (0, 2, x0), (1, 0, x1), (2, 1, x2), (4, 0, x3)]) dX3_meanOf_15 (Nat.le_of_ble_eq_true rfl) rfl ?_
    refine j_sub [2, 3, 4, 5, 1, 0] rfl ?_
    exact p_f_X3_meanOf_b17 hd0 k5 x0 x1 x2 x3 0 0 S h0 h1 h2 h3 (j_r64 0 rfl) (jZ_R jz0)
def f_X3_meanOf_b5 : Int → Int → Int → Int → jSt → Option (Int × jSt) := jrep (β := Int → Int → Int → Int → jSt → Option (Int × jSt)) (fun _ _ _ _ _ => none) (fun r => f_X3_meanOf_b5B r) jN
theorem p_f_X3_meanOf_b5 {G : jG} {d : Nat} {S0 : jSt} (hd0 : 2 ≤ d) : ∀ (x0 : Int) (x1 : Int) (x2 : Int) (x3 : Int) (S : jSt), (0 ≤ (x0)) → (R32 (x1)) → (R64 (x2)) → (R32 (x3)) → J G yX3_meanOf cX3_meanOf 8 (some .long) d S0 5 [(0, 2, x0), (1, 0, x1), (2, 1, x2), (4, 0, x3)] [] S (f_X3_meanOf_b5  x0 x1 x2 x3 S) :=
  jrep_ind (P := fun (r : Int → Int → Int → Int → jSt → Option (Int × jSt)) => ∀ (x0 : Int) (x1 : Int) (x2 : Int) (x3 : Int) (S : jSt), (0 ≤ (x0)) → (R32 (x1)) → (R64 (x2)) → (R32 (x3)) → J G yX3_meanOf cX3_meanOf 8 (some .long) d S0 5 [(0, 2, x0), (1, 0, x1), (2, 1, x2), (4, 0, x3)] [] S (r x0 x1 x2 x3 S)) (by intros; exact j_none) (fun r k => p_f_X3_meanOf_b5B hd0 k) jN
def f_X3_meanOf (a0 : Int) (a1 : Int) (S : jSt) : Option (Int × jSt) :=
  f_X3_meanOf_b5 a0 a1 0 0 S
theorem e_X3_meanOf {G : jG} {d : Nat} {S0 : jSt} (hd0 : 2 ≤ d) (a0 : Int) (a1 : Int) (S : jSt) (h0 : 0 ≤ (a0)) (h1 : R32 (a1)) : J G yX3_meanOf cX3_meanOf 8 (some .long) d S0 0 [(0, 2, a0), (1, 0, a1)] [] S (f_X3_meanOf a0 a1 S) := by
  unfold f_X3_meanOf
  refine j_lconst (z := 0) dX3_meanOf_0 rfl ?_
  refine j_lstore_n (lv' := [(2, 1, 0), (0, 2, a0), (1, 0, a1)]) dX3_meanOf_1 rfl (Nat.le_of_ble_eq_true rfl) rfl ?_
  refine j_iconst dX3_meanOf_2 ?_
  refine j_istore (lv' := [(4, 0, 0), (2, 1, 0), (0, 2, a0), (1, 0, a1)]) dX3_meanOf_3 (Nat.le_of_ble_eq_true rfl) rfl ?_
  refine j_sub [2, 3, 1, 0] rfl ?_
  exact p_f_X3_meanOf_b5 hd0 a0 a1 0 0 S h0 h1 (j_r64 0 rfl) (jZ_R jz0)
theorem c_X3_meanOf {G : jG} (a0 : Int) (a1 : Int) (S : jSt) (h0 : 0 ≤ (a0)) (h1 : R32 (a1)) : CT G yX3_meanOf cX3_meanOf 8 (some .long) 2 ([(2, a0), (0, a1)].map jval) S (f_X3_meanOf a0 a1 S) := ct_of [(2, a0), (0, a1)] (by decide) rfl (Nat.le_of_ble_eq_true rfl) (e_X3_meanOf (Nat.le_refl _) a0 a1 S h0 h1)
-- X11_leave
def f_X11_leave_b23 (S : jSt) : Option (Int × jSt) :=
  some ((-1), S)
theorem p_f_X11_leave_b23 {G : jG} {d : Nat} {S0 : jSt} (hd0 : 3 ≤ d) : ∀ (S : jSt), J G yX11_leave cX11_leave 9 (some .long) d S0 23 [] [] S (f_X11_leave_b23   S) := by
  intro S
  unfold f_X11_leave_b23
  refine j_ldc2 cn_X11_371 dX11_leave_23 ?_
  exact j_lreturn (j_r64 (-1) rfl) dX11_leave_26
def f_X11_leave_b74 (x0 : Int) (x1 : Int) (S : jSt) : Option (Int × jSt) :=
  if x0 = 0 then none else some (ldiv64 x1 x0, S)
theorem p_f_X11_leave_b74 {G : jG} {d : Nat} {S0 : jSt} (hd0 : 3 ≤ d) : ∀ (x0 : Int) (x1 : Int) (S : jSt), (R64 (x0)) → (R64 (x1)) → J G yX11_leave cX11_leave 9 (some .long) d S0 74 [(7, 1, x0)] [(1, x1)] S (f_X11_leave_b74  x0 x1 S) := by
  intro x0 x1 S h0 h1
  unfold f_X11_leave_b74
  refine j_lload 0 dX11_leave_74 rfl ?_
  refine j_ldiv h0 dX11_leave_76 ?_
  exact j_lreturn (ldiv64_R _ _) dX11_leave_77
def f_X11_leave (a0 : Int) (a1 : Int) (a2 : Int) (S : jSt) : Option (Int × jSt) :=
  fcall (f_X11_within a1 0 6 S) (fun v1 S2 => if v1 = 0 then f_X11_leave_b23 S2 else fgetr S2 a0 11 0 (fun v3 => fgetr S2 v3 10 15 (fun v4 => fcallv S2 v4 3 (f_X3_areWhole v4 S2) (fun v5 S6 => if v5 = 0 then f_X11_leave_b23 S6 else fcall (f_X3_unitOf a1 S6) (fun v7 S8 => fgetr S8 a0 11 0 (fun v9 => fgetr S8 v9 10 15 (fun v10 => fcallv S8 v10 3 (f_X3_meanOf v10 a1 S8) (fun v11 S12 => fcall (f_X11_commonDivisor v7 v11 S12) (fun v13 S14 => if v13 = 0 then some ((-1), S14) else if a2 = 0 then f_X11_leave_b74 v13 v11 S14 else f_X11_leave_b74 v13 v7 S14)))))))))
theorem e_X11_leave {G : jG} {d : Nat} {S0 : jSt} (hd0 : 3 ≤ d) (a0 : Int) (a1 : Int) (a2 : Int) (S : jSt) (h0 : 0 ≤ (a0)) (h1 : R32 (a1)) (h2 : (a2) = 0 ∨ (a2) = 1) : J G yX11_leave cX11_leave 9 (some .long) d S0 0 [(0, 2, a0), (1, 0, a1), (2, 0, a2)] [] S (f_X11_leave a0 a1 a2 S) := by
  unfold f_X11_leave
  refine j_iload_n 1 dX11_leave_0 rfl rfl ?_
  refine j_iconst dX11_leave_1 ?_
  refine j_bipush dX11_leave_2 (by decide) ?_
  refine j_callS (As := [(0, a1), (0, 0), (0, 6)]) (st := []) kc_X11_within (c_X11_within a1 0 6 S h1 (jZ_R jz0) (j_r32 6 rfl)) lm_X11_76 ks_X11_within rfl (Nat.le_of_ble_eq_true rfl) (Nat.le_trans (m := 3) (Nat.le_of_ble_eq_true rfl) hd0) dX11_leave_4 (fun (v1 : Int) (S2 : jSt) (hv1 : (v1) = 0 ∨ (v1) = 1) => ?_)
  refine j_if_eq (tgt := 23) (jZ_R hv1) dX11_leave_7 rfl (fun _ => ?_) (fun _ => ?_)
  · refine j_sub [] rfl ?_
    exact p_f_X11_leave_b23 hd0 S2
  · refine j_aload_n 0 dX11_leave_10 rfl rfl ?_
    refine j_getr (ci := 11) (k := 0) rfl in_X11 (Nat.le_of_ble_eq_true rfl) rfl rfl fl_X11_10 dX11_leave_11 (fun (v3 : Int) (hv3 : 0 ≤ v3) => ?_)
    refine j_getr (ci := 10) (k := 15) rfl in_X10 (Nat.le_of_ble_eq_true rfl) rfl rfl fl_X11_359 dX11_leave_14 (fun (v4 : Int) (hv4 : 0 ≤ v4) => ?_)
    refine j_callV (ci := 3) (As := []) (st := []) kc_X3_areWhole (c_X3_areWhole v4 S2 hv4) rfl lm_X11_368 ki_X3_areWhole ke_X3_areWhole rfl (Nat.le_of_ble_eq_true rfl) (Nat.le_trans (m := 3) (Nat.le_of_ble_eq_true rfl) hd0) dX11_leave_17 (fun (v5 : Int) (S6 : jSt) (hv5 : (v5) = 0 ∨ (v5) = 1) => ?_)
    refine j_if_ne (tgt := 27) (jZ_R hv5) dX11_leave_20 rfl (fun _ => ?_) (fun _ => ?_)
    · refine j_iload_n 1 dX11_leave_27 rfl rfl ?_
      refine j_callS (As := [(0, a1)]) (st := []) kc_X3_unitOf (c_X3_unitOf a1 S6 h1) lm_X11_373 ks_X3_unitOf rfl (Nat.le_of_ble_eq_true rfl) (Nat.le_trans (m := 3) (Nat.le_of_ble_eq_true rfl) hd0) dX11_leave_28 (fun (v7 : Int) (S8 : jSt) (hv7 : R64 (v7)) => ?_)
      refine j_lstore_n (lv' := [(3, 1, v7), (0, 2, a0), (1, 0, a1), (2, 0, a2)]) dX11_leave_31 rfl (Nat.le_of_ble_eq_true rfl) rfl ?_
      refine j_aload_n 1 dX11_leave_32 rfl rfl ?_
      refine j_getr (ci := 11) (k := 0) rfl in_X11 (Nat.le_of_ble_eq_true rfl) rfl rfl fl_X11_10 dX11_leave_33 (fun (v9 : Int) (hv9 : 0 ≤ v9) => ?_)
      refine j_getr (ci := 10) (k := 15) rfl in_X10 (Nat.le_of_ble_eq_true rfl) rfl rfl fl_X11_359 dX11_leave_36 (fun (v10 : Int) (hv10 : 0 ≤ v10) => ?_)
      refine j_iload_n 2 dX11_leave_39 rfl rfl ?_
      refine j_callV (ci := 3) (As := [(0, a1)]) (st := []) kc_X3_meanOf (c_X3_meanOf v10 a1 S8 hv10 h1) rfl lm_X11_377 ki_X3_meanOf ke_X3_meanOf rfl (Nat.le_of_ble_eq_true rfl) (Nat.le_trans (m := 3) (Nat.le_of_ble_eq_true rfl) hd0) dX11_leave_40 (fun (v11 : Int) (S12 : jSt) (hv11 : R64 (v11)) => ?_)
      refine j_lstore (lv' := [(5, 1, v11), (3, 1, v7), (0, 2, a0), (1, 0, a1), (2, 0, a2)]) dX11_leave_43 (Nat.le_of_ble_eq_true rfl) rfl ?_
      refine j_lload_n 1 dX11_leave_45 rfl rfl ?_
      refine j_lload 0 dX11_leave_46 rfl ?_
      refine j_callS (As := [(1, v7), (1, v11)]) (st := []) kc_X11_commonDivisor (c_X11_commonDivisor v7 v11 S12 hv7 hv11) lm_X11_380 ks_X11_commonDivisor rfl (Nat.le_of_ble_eq_true rfl) (Nat.le_trans (m := 3) (Nat.le_of_ble_eq_true rfl) hd0) dX11_leave_48 (fun (v13 : Int) (S14 : jSt) (hv13 : R64 (v13)) => ?_)
      refine j_lstore (lv' := [(7, 1, v13), (5, 1, v11), (3, 1, v7), (0, 2, a0), (1, 0, a1), (2, 0, a2)]) dX11_leave_51 (Nat.le_of_ble_eq_true rfl) rfl ?_
      refine j_lload 0 dX11_leave_53 rfl ?_
      refine j_lconst (z := 0) dX11_leave_55 rfl ?_
      refine j_lcmp_ne (tgt := 64) hv13 (j_r64 0 rfl) dX11_leave_56 dX11_leave_57 rfl (fun _ => ?_) (fun _ => ?_)
      · refine j_iload_n 5 dX11_leave_64 rfl rfl ?_
        refine j_if_eq (tgt := 72) (jZ_R h2) dX11_leave_65 rfl (fun _ => ?_) (fun _ => ?_)
        · refine j_lload 1 dX11_leave_72 rfl ?_
          refine j_sub [0] rfl ?_
          exact p_f_X11_leave_b74 hd0 v13 v11 S14 hv13 hv11
        · refine j_lload_n 2 dX11_leave_68 rfl rfl ?_
          refine j_goto (tgt := 74) dX11_leave_69 rfl ?_
          refine j_sub [0] rfl ?_
          exact p_f_X11_leave_b74 hd0 v13 v7 S14 hv13 hv7
      · refine j_ldc2 cn_X11_371 dX11_leave_60 ?_
        exact j_lreturn (j_r64 (-1) rfl) dX11_leave_63
    · refine j_sub [] rfl ?_
      exact p_f_X11_leave_b23 hd0 S6
theorem c_X11_leave {G : jG} (a0 : Int) (a1 : Int) (a2 : Int) (S : jSt) (h0 : 0 ≤ (a0)) (h1 : R32 (a1)) (h2 : (a2) = 0 ∨ (a2) = 1) : CT G yX11_leave cX11_leave 9 (some .long) 3 ([(2, a0), (0, a1), (0, a2)].map jval) S (f_X11_leave a0 a1 a2 S) := ct_of [(2, a0), (0, a1), (0, a2)] (by decide) rfl (Nat.le_of_ble_eq_true rfl) (e_X11_leave (Nat.le_refl _) a0 a1 a2 S h0 h1 h2)
-- X11_ledger
def f_X11_ledger_b72 (r23 : Int → Int → Int → Int → jSt → Option (Int × jSt)) (x0 : Int) (x1 : Int) (x2 : Int) (x3 : Int) (S : jSt) : Option (Int × jSt) :=
  flet (w32 (x3 + 1)) (fun v7 => r23 x0 x1 x2 v7 S)
theorem p_f_X11_ledger_b72 {G : jG} {d : Nat} {S0 : jSt} (hd0 : 3 ≤ d) {r23 : Int → Int → Int → Int → jSt → Option (Int × jSt)} (k23 : ∀ (x0 : Int) (x1 : Int) (x2 : Int) (x3 : Int) (S : jSt), (0 ≤ (x0)) → (R32 (x1)) → (R32 (x2)) → (R32 (x3)) → J G yX11_ledger cX11_ledger 4 (some .int) d S0 23 [(0, 2, x0), (1, 0, x1), (2, 0, x2), (3, 0, x3)] [] S (r23 x0 x1 x2 x3 S)) : ∀ (x0 : Int) (x1 : Int) (x2 : Int) (x3 : Int) (S : jSt), (0 ≤ (x0)) → (R32 (x1)) → (R32 (x2)) → (R32 (x3)) → J G yX11_ledger cX11_ledger 4 (some .int) d S0 72 [(0, 2, x0), (1, 0, x1), (2, 0, x2), (3, 0, x3)] [] S (f_X11_ledger_b72 r23 x0 x1 x2 x3 S) := by
  intro x0 x1 x2 x3 S h0 h1 h2 h3
  unfold f_X11_ledger_b72
  refine j_iincL (q := 3) dX11_ledger_72 rfl (Nat.le_of_ble_eq_true rfl) (fun v7 hv7 => ?_)
  refine j_lv (lv' := [(3, 0, v7), (0, 2, x0), (1, 0, x1), (2, 0, x2)]) rfl ?_
  refine j_goto (tgt := 23) dX11_ledger_75 rfl ?_
  refine j_sub [1, 2, 3, 0] rfl ?_
  exact k23 x0 x1 x2 v7 S h0 h1 h2 hv7
def f_X11_ledger_b56 (r23 : Int → Int → Int → Int → jSt → Option (Int × jSt)) (x0 : Int) (x1 : Int) (x2 : Int) (x3 : Int) (S : jSt) : Option (Int × jSt) :=
  fgetr S x0 11 1 (fun v3 => fgetr S v3 1 4 (fun v4 => fald S v4 (w32 ((w32 (x3 * 4)) + 3)) 1 (fun v5 => flet (w32 (x2 + v5)) (fun v6 => f_X11_ledger_b72 r23 x0 x1 v6 x3 S))))
theorem p_f_X11_ledger_b56 {G : jG} {d : Nat} {S0 : jSt} (hd0 : 3 ≤ d) {r23 : Int → Int → Int → Int → jSt → Option (Int × jSt)} (k23 : ∀ (x0 : Int) (x1 : Int) (x2 : Int) (x3 : Int) (S : jSt), (0 ≤ (x0)) → (R32 (x1)) → (R32 (x2)) → (R32 (x3)) → J G yX11_ledger cX11_ledger 4 (some .int) d S0 23 [(0, 2, x0), (1, 0, x1), (2, 0, x2), (3, 0, x3)] [] S (r23 x0 x1 x2 x3 S)) : ∀ (x0 : Int) (x1 : Int) (x2 : Int) (x3 : Int) (S : jSt), (0 ≤ (x0)) → (R32 (x1)) → (R32 (x2)) → (R32 (x3)) → J G yX11_ledger cX11_ledger 4 (some .int) d S0 56 [(0, 2, x0), (1, 0, x1), (2, 0, x2), (3, 0, x3)] [] S (f_X11_ledger_b56 r23 x0 x1 x2 x3 S) := by
  intro x0 x1 x2 x3 S h0 h1 h2 h3
  unfold f_X11_ledger_b56
  refine j_iload_n 2 dX11_ledger_56 rfl rfl ?_
  refine j_aload_n 0 dX11_ledger_57 rfl rfl ?_
  refine j_getr (ci := 11) (k := 1) rfl in_X11 (Nat.le_of_ble_eq_true rfl) rfl rfl fl_X11_19 dX11_ledger_58 (fun (v3 : Int) (hv3 : 0 ≤ v3) => ?_)
  refine j_getr (ci := 1) (k := 4) rfl in_X1 (Nat.le_of_ble_eq_true rfl) rfl rfl fl_X11_291 dX11_ledger_61 (fun (v4 : Int) (hv4 : 0 ≤ v4) => ?_)
  refine j_iload_n 3 dX11_ledger_64 rfl rfl ?_
  refine j_iconst dX11_ledger_65 ?_
  refine j_imul dX11_ledger_66 ?_
  refine j_iconst dX11_ledger_67 ?_
  refine j_iadd dX11_ledger_68 ?_
  refine j_iaload (w32_R _) dX11_ledger_69 (fun (v5 : Int) (hv5 : R32 (v5)) => ?_)
  refine j_iadd dX11_ledger_70 ?_
  refine j_leti (w32_R _) (fun v6 hv6 => ?_)
  refine j_istore_n (lv' := [(2, 0, v6), (0, 2, x0), (1, 0, x1), (3, 0, x3)]) dX11_ledger_71 rfl (Nat.le_of_ble_eq_true rfl) rfl ?_
  refine j_sub [1, 2, 0, 3] rfl ?_
  exact p_f_X11_ledger_b72 hd0 k23 x0 x1 v6 x3 S h0 h1 hv6 h3
def f_X11_ledger_b23B (r23 : Int → Int → Int → Int → jSt → Option (Int × jSt)) (x0 : Int) (x1 : Int) (x2 : Int) (x3 : Int) (S : jSt) : Option (Int × jSt) :=
  fgetr S x0 11 1 (fun v1 => fget S v1 1 5 (fun v2 => if v2 ≤ x3 then some (x2, S) else if x1 = (-1) then f_X11_ledger_b56 r23 x0 x1 x2 x3 S else fgetr S x0 11 1 (fun v8 => fgetr S v8 1 4 (fun v9 => fald S v9 (w32 ((w32 (x3 * 4)) + 2)) 1 (fun v10 => if v10 = x1 then f_X11_ledger_b56 r23 x0 x1 x2 x3 S else f_X11_ledger_b72 r23 x0 x1 x2 x3 S)))))
theorem p_f_X11_ledger_b23B {G : jG} {d : Nat} {S0 : jSt} (hd0 : 3 ≤ d) {r23 : Int → Int → Int → Int → jSt → Option (Int × jSt)} (k23 : ∀ (x0 : Int) (x1 : Int) (x2 : Int) (x3 : Int) (S : jSt), (0 ≤ (x0)) → (R32 (x1)) → (R32 (x2)) → (R32 (x3)) → J G yX11_ledger cX11_ledger 4 (some .int) d S0 23 [(0, 2, x0), (1, 0, x1), (2, 0, x2), (3, 0, x3)] [] S (r23 x0 x1 x2 x3 S)) : ∀ (x0 : Int) (x1 : Int) (x2 : Int) (x3 : Int) (S : jSt), (0 ≤ (x0)) → (R32 (x1)) → (R32 (x2)) → (R32 (x3)) → J G yX11_ledger cX11_ledger 4 (some .int) d S0 23 [(0, 2, x0), (1, 0, x1), (2, 0, x2), (3, 0, x3)] [] S (f_X11_ledger_b23B r23 x0 x1 x2 x3 S) := by
  intro x0 x1 x2 x3 S h0 h1 h2 h3
  unfold f_X11_ledger_b23B
  refine j_iload_n 3 dX11_ledger_23 rfl rfl ?_
  refine j_aload_n 0 dX11_ledger_24 rfl rfl ?_
  refine j_getr (ci := 11) (k := 1) rfl in_X11 (Nat.le_of_ble_eq_true rfl) rfl rfl fl_X11_19 dX11_ledger_25 (fun (v1 : Int) (hv1 : 0 ≤ v1) => ?_)
  refine j_get (ci := 1) (k := 5) (t := 0) rfl in_X1 (Nat.le_of_ble_eq_true rfl) rfl rfl fl_X11_288 dX11_ledger_28 (fun (v2 : Int) (hv2 : R32 (v2)) => ?_)
  refine j_icmp_ge (tgt := 78) h3 hv2 dX11_ledger_31 rfl (fun _ => ?_) (fun _ => ?_)
  · refine j_iload_n 2 dX11_ledger_78 rfl rfl ?_
    exact j_ireturn h2 dX11_ledger_79
  · refine j_iload_n 1 dX11_ledger_34 rfl rfl ?_
    refine j_iconst dX11_ledger_35 ?_
    refine j_icmp_eq (tgt := 56) h1 (j_r32 (-1) rfl) dX11_ledger_36 rfl (fun _ => ?_) (fun _ => ?_)
    · exact p_f_X11_ledger_b56 hd0 k23 x0 x1 x2 x3 S h0 h1 h2 h3
    · refine j_aload_n 0 dX11_ledger_39 rfl rfl ?_
      refine j_getr (ci := 11) (k := 1) rfl in_X11 (Nat.le_of_ble_eq_true rfl) rfl rfl fl_X11_19 dX11_ledger_40 (fun (v8 : Int) (hv8 : 0 ≤ v8) => ?_)
      refine j_getr (ci := 1) (k := 4) rfl in_X1 (Nat.le_of_ble_eq_true rfl) rfl rfl fl_X11_291 dX11_ledger_43 (fun (v9 : Int) (hv9 : 0 ≤ v9) => ?_)
      refine j_iload_n 3 dX11_ledger_46 rfl rfl ?_
      refine j_iconst dX11_ledger_47 ?_
      refine j_imul dX11_ledger_48 ?_
      refine j_iconst dX11_ledger_49 ?_
      refine j_iadd dX11_ledger_50 ?_
      refine j_iaload (w32_R _) dX11_ledger_51 (fun (v10 : Int) (hv10 : R32 (v10)) => ?_)
      refine j_iload_n 1 dX11_ledger_52 rfl rfl ?_
      refine j_icmp_ne (tgt := 72) hv10 h1 dX11_ledger_53 rfl (fun _ => ?_) (fun _ => ?_)
      · exact p_f_X11_ledger_b72 hd0 k23 x0 x1 x2 x3 S h0 h1 h2 h3
      · exact p_f_X11_ledger_b56 hd0 k23 x0 x1 x2 x3 S h0 h1 h2 h3
def f_X11_ledger_b23 : Int → Int → Int → Int → jSt → Option (Int × jSt) := jrep (β := Int → Int → Int → Int → jSt → Option (Int × jSt)) (fun _ _ _ _ _ => none) (fun r => f_X11_ledger_b23B r) jN
theorem p_f_X11_ledger_b23 {G : jG} {d : Nat} {S0 : jSt} (hd0 : 3 ≤ d) : ∀ (x0 : Int) (x1 : Int) (x2 : Int) (x3 : Int) (S : jSt), (0 ≤ (x0)) → (R32 (x1)) → (R32 (x2)) → (R32 (x3)) → J G yX11_ledger cX11_ledger 4 (some .int) d S0 23 [(0, 2, x0), (1, 0, x1), (2, 0, x2), (3, 0, x3)] [] S (f_X11_ledger_b23  x0 x1 x2 x3 S) :=
  jrep_ind (P := fun (r : Int → Int → Int → Int → jSt → Option (Int × jSt)) => ∀ (x0 : Int) (x1 : Int) (x2 : Int) (x3 : Int) (S : jSt), (0 ≤ (x0)) → (R32 (x1)) → (R32 (x2)) → (R32 (x3)) → J G yX11_ledger cX11_ledger 4 (some .int) d S0 23 [(0, 2, x0), (1, 0, x1), (2, 0, x2), (3, 0, x3)] [] S (r x0 x1 x2 x3 S)) (by intros; exact j_none) (fun r k => p_f_X11_ledger_b23B hd0 k) jN
def f_X11_ledger_b19 (x0 : Int) (x1 : Int) (S : jSt) : Option (Int × jSt) :=
  f_X11_ledger_b23 x0 x1 0 0 S
theorem p_f_X11_ledger_b19 {G : jG} {d : Nat} {S0 : jSt} (hd0 : 3 ≤ d) : ∀ (x0 : Int) (x1 : Int) (S : jSt), (0 ≤ (x0)) → (R32 (x1)) → J G yX11_ledger cX11_ledger 4 (some .int) d S0 19 [(0, 2, x0), (1, 0, x1)] [] S (f_X11_ledger_b19  x0 x1 S) := by
  intro x0 x1 S h0 h1
  unfold f_X11_ledger_b19
  refine j_iconst dX11_ledger_19 ?_
  refine j_istore_n (lv' := [(2, 0, 0), (0, 2, x0), (1, 0, x1)]) dX11_ledger_20 rfl (Nat.le_of_ble_eq_true rfl) rfl ?_
  refine j_iconst dX11_ledger_21 ?_
  refine j_istore_n (lv' := [(3, 0, 0), (2, 0, 0), (0, 2, x0), (1, 0, x1)]) dX11_ledger_22 rfl (Nat.le_of_ble_eq_true rfl) rfl ?_
  refine j_sub [2, 3, 1, 0] rfl ?_
  exact p_f_X11_ledger_b23 hd0 x0 x1 0 0 S h0 h1 (jZ_R jz0) (jZ_R jz0)
def f_X11_ledger (a0 : Int) (a1 : Int) (S : jSt) : Option (Int × jSt) :=
  if a1 = (-1) then f_X11_ledger_b19 a0 a1 S else fgetr S a0 11 0 (fun v11 => fcallv S v11 10 (f_X10_hasBidder v11 a1 S) (fun v12 S13 => if v12 = 0 then some ((-2), S13) else f_X11_ledger_b19 a0 a1 S13))
theorem e_X11_ledger {G : jG} {d : Nat} {S0 : jSt} (hd0 : 3 ≤ d) (a0 : Int) (a1 : Int) (S : jSt) (h0 : 0 ≤ (a0)) (h1 : R32 (a1)) : J G yX11_ledger cX11_ledger 4 (some .int) d S0 0 [(0, 2, a0), (1, 0, a1)] [] S (f_X11_ledger a0 a1 S) := by
  unfold f_X11_ledger
  refine j_iload_n 1 dX11_ledger_0 rfl rfl ?_
  refine j_iconst dX11_ledger_1 ?_
  refine j_icmp_eq (tgt := 19) h1 (j_r32 (-1) rfl) dX11_ledger_2 rfl (fun _ => ?_) (fun _ => ?_)
  · exact p_f_X11_ledger_b19 hd0 a0 a1 S h0 h1
  · refine j_aload_n 0 dX11_ledger_5 rfl rfl ?_
    refine j_getr (ci := 11) (k := 0) rfl in_X11 (Nat.le_of_ble_eq_true rfl) rfl rfl fl_X11_10 dX11_ledger_6 (fun (v11 : Int) (hv11 : 0 ≤ v11) => ?_)
    refine j_iload_n 1 dX11_ledger_9 rfl rfl ?_
    refine j_callV (ci := 10) (As := [(0, a1)]) (st := []) kc_X10_hasBidder (c_X10_hasBidder v11 a1 S hv11 h1) rfl lm_X11_107 ki_X10_hasBidder ke_X10_hasBidder rfl (Nat.le_of_ble_eq_true rfl) (Nat.le_trans (m := 3) (Nat.le_of_ble_eq_true rfl) hd0) dX11_ledger_10 (fun (v12 : Int) (S13 : jSt) (hv12 : (v12) = 0 ∨ (v12) = 1) => ?_)
    refine j_if_ne (tgt := 19) (jZ_R hv12) dX11_ledger_13 rfl (fun _ => ?_) (fun _ => ?_)
    · exact p_f_X11_ledger_b19 hd0 a0 a1 S13 h0 h1
    · refine j_bipush dX11_ledger_16 (by decide) ?_
      exact j_ireturn (j_r32 (-2) rfl) dX11_ledger_18
theorem c_X11_ledger {G : jG} (a0 : Int) (a1 : Int) (S : jSt) (h0 : 0 ≤ (a0)) (h1 : R32 (a1)) : CT G yX11_ledger cX11_ledger 4 (some .int) 3 ([(2, a0), (0, a1)].map jval) S (f_X11_ledger a0 a1 S) := ct_of [(2, a0), (0, a1)] (by decide) rfl (Nat.le_of_ble_eq_true rfl) (e_X11_ledger (Nat.le_refl _) a0 a1 S h0 h1)
-- X11_left
def f_X11_left_b28 (x0 : Int) (S : jSt) : Option (Int × jSt) :=
  some (x0, S)
theorem p_f_X11_left_b28 {G : jG} {d : Nat} {S0 : jSt} (hd0 : 3 ≤ d) : ∀ (x0 : Int) (S : jSt), (R32 (x0)) → J G yX11_left cX11_left 2 (some .int) d S0 28 [] [(0, x0)] S (f_X11_left_b28  x0 S) := by
  intro x0 S h0
  unfold f_X11_left_b28
  exact j_ireturn h0 dX11_left_28
def f_X11_left (a0 : Int) (a1 : Int) (S : jSt) : Option (Int × jSt) :=
  fcall (f_X11_within a1 0 5 S) (fun v1 S2 => if v1 = 0 then f_X11_left_b28 (-1) S2 else fgetr S2 a0 11 1 (fun v3 => fgetr S2 a0 11 0 (fun v4 => fget S2 v4 10 0 (fun v5 => fcallv S2 v3 1 (f_X1_lotsAt v3 a1 v5 S2) (fun v6 S7 => f_X11_left_b28 v6 S7)))))
theorem e_X11_left {G : jG} {d : Nat} {S0 : jSt} (hd0 : 3 ≤ d) (a0 : Int) (a1 : Int) (S : jSt) (h0 : 0 ≤ (a0)) (h1 : R32 (a1)) : J G yX11_left cX11_left 2 (some .int) d S0 0 [(0, 2, a0), (1, 0, a1)] [] S (f_X11_left a0 a1 S) := by
  unfold f_X11_left
  refine j_iload_n 1 dX11_left_0 rfl rfl ?_
  refine j_iconst dX11_left_1 ?_
  refine j_iconst dX11_left_2 ?_
  refine j_callS (As := [(0, a1), (0, 0), (0, 5)]) (st := []) kc_X11_within (c_X11_within a1 0 5 S h1 (jZ_R jz0) (j_r32 5 rfl)) lm_X11_76 ks_X11_within rfl (Nat.le_of_ble_eq_true rfl) (Nat.le_trans (m := 3) (Nat.le_of_ble_eq_true rfl) hd0) dX11_left_3 (fun (v1 : Int) (S2 : jSt) (hv1 : (v1) = 0 ∨ (v1) = 1) => ?_)
  refine j_if_eq (tgt := 27) (jZ_R hv1) dX11_left_6 rfl (fun _ => ?_) (fun _ => ?_)
  · refine j_iconst dX11_left_27 ?_
    refine j_sub [] rfl ?_
    exact p_f_X11_left_b28 hd0 (-1) S2 (j_r32 (-1) rfl)
  · refine j_aload_n 0 dX11_left_9 rfl rfl ?_
    refine j_getr (ci := 11) (k := 1) rfl in_X11 (Nat.le_of_ble_eq_true rfl) rfl rfl fl_X11_19 dX11_left_10 (fun (v3 : Int) (hv3 : 0 ≤ v3) => ?_)
    refine j_iload_n 1 dX11_left_13 rfl rfl ?_
    refine j_aload_n 0 dX11_left_14 rfl rfl ?_
    refine j_getr (ci := 11) (k := 0) rfl in_X11 (Nat.le_of_ble_eq_true rfl) rfl rfl fl_X11_10 dX11_left_15 (fun (v4 : Int) (hv4 : 0 ≤ v4) => ?_)
    refine j_get (ci := 10) (k := 0) (t := 0) rfl in_X10 (Nat.le_of_ble_eq_true rfl) rfl rfl fl_X11_80 dX11_left_18 (fun (v5 : Int) (hv5 : R32 (v5)) => ?_)
    refine j_callV (ci := 1) (As := [(0, a1), (0, v5)]) (st := []) kc_X1_lotsAt (c_X1_lotsAt v3 a1 v5 S2 hv3 h1 hv5) rfl lm_X11_285 ki_X1_lotsAt ke_X1_lotsAt rfl (Nat.le_of_ble_eq_true rfl) (Nat.le_trans (m := 3) (Nat.le_of_ble_eq_true rfl) hd0) dX11_left_21 (fun (v6 : Int) (S7 : jSt) (hv6 : R32 (v6)) => ?_)
    refine j_goto (tgt := 28) dX11_left_24 rfl ?_
    refine j_sub [] rfl ?_
    exact p_f_X11_left_b28 hd0 v6 S7 hv6
theorem c_X11_left {G : jG} (a0 : Int) (a1 : Int) (S : jSt) (h0 : 0 ≤ (a0)) (h1 : R32 (a1)) : CT G yX11_left cX11_left 2 (some .int) 3 ([(2, a0), (0, a1)].map jval) S (f_X11_left a0 a1 S) := ct_of [(2, a0), (0, a1)] (by decide) rfl (Nat.le_of_ble_eq_true rfl) (e_X11_left (Nat.le_refl _) a0 a1 S h0 h1)
-- X8_tellFloor
def f_X8_tellFloor_b2B (r2 : Int → Int → Int → Int → jSt → Option (Int × jSt)) (x0 : Int) (x1 : Int) (x2 : Int) (x3 : Int) (S : jSt) : Option (Int × jSt) :=
  if 30 ≤ x3 then some (0, S) else fgetr S x0 8 0 (fun v1 => fald S v1 x3 4 (fun v2 => if 0 ≤ v2 then fgetr S v2 1 1 (fun v3 => fast S v3 x1 1 x2 (fun S4 => flet (w32 (x3 + 1)) (fun v5 => r2 x0 x1 x2 v5 S4))) else none))
theorem p_f_X8_tellFloor_b2B {G : jG} {d : Nat} {S0 : jSt} (hd0 : 1 ≤ d) {r2 : Int → Int → Int → Int → jSt → Option (Int × jSt)} (k2 : ∀ (x0 : Int) (x1 : Int) (x2 : Int) (x3 : Int) (S : jSt), (0 ≤ (x0)) → (R32 (x1)) → (R32 (x2)) → (R32 (x3)) → J G yX8_tellFloor cX8_tellFloor 4 none d S0 2 [(0, 2, x0), (1, 0, x1), (2, 0, x2), (3, 0, x3)] [] S (r2 x0 x1 x2 x3 S)) : ∀ (x0 : Int) (x1 : Int) (x2 : Int) (x3 : Int) (S : jSt), (0 ≤ (x0)) → (R32 (x1)) → (R32 (x2)) → (R32 (x3)) → J G yX8_tellFloor cX8_tellFloor 4 none d S0 2 [(0, 2, x0), (1, 0, x1), (2, 0, x2), (3, 0, x3)] [] S (f_X8_tellFloor_b2B r2 x0 x1 x2 x3 S) := by
  intro x0 x1 x2 x3 S h0 h1 h2 h3
  unfold f_X8_tellFloor_b2B
  refine j_iload_n 3 dX8_tellFloor_2 rfl rfl ?_
  refine j_bipush dX8_tellFloor_3 (by decide) ?_
  refine j_icmp_ge (tgt := 26) h3 (j_r32 30 rfl) dX8_tellFloor_5 rfl (fun _ => ?_) (fun _ => ?_)
  · exact j_return dX8_tellFloor_26
  · refine j_aload_n 0 dX8_tellFloor_8 rfl rfl ?_
    refine j_getr (ci := 8) (k := 0) rfl in_X8 (Nat.le_of_ble_eq_true rfl) rfl rfl fl_X8_11 dX8_tellFloor_9 (fun (v1 : Int) (hv1 : 0 ≤ v1) => ?_)
    refine j_iload_n 3 dX8_tellFloor_12 rfl rfl ?_
    refine j_aaload4 h3 dX8_tellFloor_13 (fun v2 => ?_)
    refine j_cast (z := v2) (st' := [(2, v2)]) (fun h => by simp only [List.map_cons, jpush, jtag, jval3r h]) (fun hq13 => ?_)
    refine j_getr (ci := 1) (k := 1) rfl in_X1 (Nat.le_of_ble_eq_true rfl) rfl rfl fl_X8_29 dX8_tellFloor_14 (fun (v3 : Int) (hv3 : 0 ≤ v3) => ?_)
    refine j_iload_n 1 dX8_tellFloor_17 rfl rfl ?_
    refine j_iload_n 2 dX8_tellFloor_18 rfl rfl ?_
    refine j_iastore h1 h2 dX8_tellFloor_19 (fun S4 => ?_)
    refine j_iincL (q := 3) dX8_tellFloor_20 rfl (Nat.le_of_ble_eq_true rfl) (fun v5 hv5 => ?_)
    refine j_lv (lv' := [(3, 0, v5), (0, 2, x0), (1, 0, x1), (2, 0, x2)]) rfl ?_
    refine j_goto (tgt := 2) dX8_tellFloor_23 rfl ?_
    refine j_sub [1, 2, 3, 0] rfl ?_
    exact k2 x0 x1 x2 v5 S4 h0 h1 h2 hv5
def f_X8_tellFloor_b2 : Int → Int → Int → Int → jSt → Option (Int × jSt) := jrep (β := Int → Int → Int → Int → jSt → Option (Int × jSt)) (fun _ _ _ _ _ => none) (fun r => f_X8_tellFloor_b2B r) jN
theorem p_f_X8_tellFloor_b2 {G : jG} {d : Nat} {S0 : jSt} (hd0 : 1 ≤ d) : ∀ (x0 : Int) (x1 : Int) (x2 : Int) (x3 : Int) (S : jSt), (0 ≤ (x0)) → (R32 (x1)) → (R32 (x2)) → (R32 (x3)) → J G yX8_tellFloor cX8_tellFloor 4 none d S0 2 [(0, 2, x0), (1, 0, x1), (2, 0, x2), (3, 0, x3)] [] S (f_X8_tellFloor_b2  x0 x1 x2 x3 S) :=
  jrep_ind (P := fun (r : Int → Int → Int → Int → jSt → Option (Int × jSt)) => ∀ (x0 : Int) (x1 : Int) (x2 : Int) (x3 : Int) (S : jSt), (0 ≤ (x0)) → (R32 (x1)) → (R32 (x2)) → (R32 (x3)) → J G yX8_tellFloor cX8_tellFloor 4 none d S0 2 [(0, 2, x0), (1, 0, x1), (2, 0, x2), (3, 0, x3)] [] S (r x0 x1 x2 x3 S)) (by intros; exact j_none) (fun r k => p_f_X8_tellFloor_b2B hd0 k) jN
def f_X8_tellFloor (a0 : Int) (a1 : Int) (a2 : Int) (S : jSt) : Option (Int × jSt) :=
  f_X8_tellFloor_b2 a0 a1 a2 0 S
theorem e_X8_tellFloor {G : jG} {d : Nat} {S0 : jSt} (hd0 : 1 ≤ d) (a0 : Int) (a1 : Int) (a2 : Int) (S : jSt) (h0 : 0 ≤ (a0)) (h1 : R32 (a1)) (h2 : R32 (a2)) : J G yX8_tellFloor cX8_tellFloor 4 none d S0 0 [(0, 2, a0), (1, 0, a1), (2, 0, a2)] [] S (f_X8_tellFloor a0 a1 a2 S) := by
  unfold f_X8_tellFloor
  refine j_iconst dX8_tellFloor_0 ?_
  refine j_istore_n (lv' := [(3, 0, 0), (0, 2, a0), (1, 0, a1), (2, 0, a2)]) dX8_tellFloor_1 rfl (Nat.le_of_ble_eq_true rfl) rfl ?_
  refine j_sub [1, 2, 3, 0] rfl ?_
  exact p_f_X8_tellFloor_b2 hd0 a0 a1 a2 0 S h0 h1 h2 (jZ_R jz0)
theorem c_X8_tellFloor {G : jG} (a0 : Int) (a1 : Int) (a2 : Int) (S : jSt) (h0 : 0 ≤ (a0)) (h1 : R32 (a1)) (h2 : R32 (a2)) : CT G yX8_tellFloor cX8_tellFloor 4 none 1 ([(2, a0), (0, a1), (0, a2)].map jval) S (f_X8_tellFloor a0 a1 a2 S) := ct_of [(2, a0), (0, a1), (0, a2)] (by decide) rfl (Nat.le_of_ble_eq_true rfl) (e_X8_tellFloor (Nat.le_refl _) a0 a1 a2 S h0 h1 h2)
-- X11_lot
def f_X11_lot_b29 (S : jSt) : Option (Int × jSt) :=
  some ((-1), S)
theorem p_f_X11_lot_b29 {G : jG} {d : Nat} {S0 : jSt} (hd0 : 2 ≤ d) : ∀ (S : jSt), J G yX11_lot cX11_lot 5 (some .int) d S0 29 [] [] S (f_X11_lot_b29   S) := by
  intro S
  unfold f_X11_lot_b29
  refine j_iconst dX11_lot_29 ?_
  exact j_ireturn (j_r32 (-1) rfl) dX11_lot_30
def f_X11_lot (a0 : Int) (a1 : Int) (a2 : Int) (a3 : Int) (S : jSt) : Option (Int × jSt) :=
  fcall (f_X11_within a1 0 5 S) (fun v1 S2 => if v1 = 0 then f_X11_lot_b29 S2 else fcall (f_X11_within a2 0 99 S2) (fun v3 S4 => if v3 = 0 then f_X11_lot_b29 S4 else fcall (f_X11_within a3 1 9 S4) (fun v5 S6 => if v5 = 0 then f_X11_lot_b29 S6 else fgetr S6 a0 11 0 (fun v7 => fget S6 v7 10 0 (fun v8 => if v8 < 12 then fgetr S6 a0 11 0 (fun v9 => fget S6 v9 10 0 (fun v10 => fgetr S6 a0 11 0 (fun v11 => fgetr S6 v11 10 2 (fun v12 => fast S6 v12 v10 1 a2 (fun S13 => fgetr S13 a0 11 0 (fun v14 => fgetr S13 v14 10 3 (fun v15 => fast S13 v15 v10 1 a3 (fun S16 => fgetr S16 a0 11 0 (fun v17 => fget S16 v17 10 0 (fun v18 => fput S16 v17 10 0 (w32 (v18 + 1)) (fun S19 => fgetr S19 a0 11 1 (fun v20 => fgetr S19 v20 1 1 (fun v21 => fast S19 v21 v10 1 a1 (fun S22 => fgetr S22 a0 11 2 (fun v23 => fcallv S22 v23 8 (f_X8_tellFloor v23 v10 a1 S22) (fun v24 S25 => some (v10, S25))))))))))))))))) else some ((-1), S6))))))
theorem e_X11_lot {G : jG} {d : Nat} {S0 : jSt} (hd0 : 2 ≤ d) (a0 : Int) (a1 : Int) (a2 : Int) (a3 : Int) (S : jSt) (h0 : 0 ≤ (a0)) (h1 : R32 (a1)) (h2 : R32 (a2)) (h3 : R32 (a3)) : J G yX11_lot cX11_lot 5 (some .int) d S0 0 [(0, 2, a0), (1, 0, a1), (2, 0, a2), (3, 0, a3)] [] S (f_X11_lot a0 a1 a2 a3 S) := by
  unfold f_X11_lot
  refine j_iload_n 1 dX11_lot_0 rfl rfl ?_
  refine j_iconst dX11_lot_1 ?_
  refine j_iconst dX11_lot_2 ?_
  refine j_callS (As := [(0, a1), (0, 0), (0, 5)]) (st := []) kc_X11_within (c_X11_within a1 0 5 S h1 (jZ_R jz0) (j_r32 5 rfl)) lm_X11_76 ks_X11_within rfl (Nat.le_of_ble_eq_true rfl) (Nat.le_trans (m := 2) (Nat.le_of_ble_eq_true rfl) hd0) dX11_lot_3 (fun (v1 : Int) (S2 : jSt) (hv1 : (v1) = 0 ∨ (v1) = 1) => ?_)
  refine j_if_eq (tgt := 29) (jZ_R hv1) dX11_lot_6 rfl (fun _ => ?_) (fun _ => ?_)
  · refine j_sub [] rfl ?_
    exact p_f_X11_lot_b29 hd0 S2
  · refine j_iload_n 2 dX11_lot_9 rfl rfl ?_
    refine j_iconst dX11_lot_10 ?_
    refine j_bipush dX11_lot_11 (by decide) ?_
    refine j_callS (As := [(0, a2), (0, 0), (0, 99)]) (st := []) kc_X11_within (c_X11_within a2 0 99 S2 h2 (jZ_R jz0) (j_r32 99 rfl)) lm_X11_76 ks_X11_within rfl (Nat.le_of_ble_eq_true rfl) (Nat.le_trans (m := 2) (Nat.le_of_ble_eq_true rfl) hd0) dX11_lot_13 (fun (v3 : Int) (S4 : jSt) (hv3 : (v3) = 0 ∨ (v3) = 1) => ?_)
    refine j_if_eq (tgt := 29) (jZ_R hv3) dX11_lot_16 rfl (fun _ => ?_) (fun _ => ?_)
    · refine j_sub [] rfl ?_
      exact p_f_X11_lot_b29 hd0 S4
    · refine j_iload_n 3 dX11_lot_19 rfl rfl ?_
      refine j_iconst dX11_lot_20 ?_
      refine j_bipush dX11_lot_21 (by decide) ?_
      refine j_callS (As := [(0, a3), (0, 1), (0, 9)]) (st := []) kc_X11_within (c_X11_within a3 1 9 S4 h3 (jZ_R jz1) (j_r32 9 rfl)) lm_X11_76 ks_X11_within rfl (Nat.le_of_ble_eq_true rfl) (Nat.le_trans (m := 2) (Nat.le_of_ble_eq_true rfl) hd0) dX11_lot_23 (fun (v5 : Int) (S6 : jSt) (hv5 : (v5) = 0 ∨ (v5) = 1) => ?_)
      refine j_if_ne (tgt := 31) (jZ_R hv5) dX11_lot_26 rfl (fun _ => ?_) (fun _ => ?_)
      · refine j_aload_n 0 dX11_lot_31 rfl rfl ?_
        refine j_getr (ci := 11) (k := 0) rfl in_X11 (Nat.le_of_ble_eq_true rfl) rfl rfl fl_X11_10 dX11_lot_32 (fun (v7 : Int) (hv7 : 0 ≤ v7) => ?_)
        refine j_get (ci := 10) (k := 0) (t := 0) rfl in_X10 (Nat.le_of_ble_eq_true rfl) rfl rfl fl_X11_80 dX11_lot_35 (fun (v8 : Int) (hv8 : R32 (v8)) => ?_)
        refine j_bipush dX11_lot_38 (by decide) ?_
        refine j_icmp_lt (tgt := 45) hv8 (j_r32 12 rfl) dX11_lot_40 rfl (fun _ => ?_) (fun _ => ?_)
        · refine j_aload_n 0 dX11_lot_45 rfl rfl ?_
          refine j_getr (ci := 11) (k := 0) rfl in_X11 (Nat.le_of_ble_eq_true rfl) rfl rfl fl_X11_10 dX11_lot_46 (fun (v9 : Int) (hv9 : 0 ≤ v9) => ?_)
          refine j_get (ci := 10) (k := 0) (t := 0) rfl in_X10 (Nat.le_of_ble_eq_true rfl) rfl rfl fl_X11_80 dX11_lot_49 (fun (v10 : Int) (hv10 : R32 (v10)) => ?_)
          refine j_istore (lv' := [(4, 0, v10), (0, 2, a0), (1, 0, a1), (2, 0, a2), (3, 0, a3)]) dX11_lot_52 (Nat.le_of_ble_eq_true rfl) rfl ?_
          refine j_aload_n 1 dX11_lot_54 rfl rfl ?_
          refine j_getr (ci := 11) (k := 0) rfl in_X11 (Nat.le_of_ble_eq_true rfl) rfl rfl fl_X11_10 dX11_lot_55 (fun (v11 : Int) (hv11 : 0 ≤ v11) => ?_)
          refine j_getr (ci := 10) (k := 2) rfl in_X10 (Nat.le_of_ble_eq_true rfl) rfl rfl fl_X11_84 dX11_lot_58 (fun (v12 : Int) (hv12 : 0 ≤ v12) => ?_)
          refine j_iload 0 dX11_lot_61 rfl ?_
          refine j_iload_n 3 dX11_lot_63 rfl rfl ?_
          refine j_iastore hv10 h2 dX11_lot_64 (fun S13 => ?_)
          refine j_aload_n 1 dX11_lot_65 rfl rfl ?_
          refine j_getr (ci := 11) (k := 0) rfl in_X11 (Nat.le_of_ble_eq_true rfl) rfl rfl fl_X11_10 dX11_lot_66 (fun (v14 : Int) (hv14 : 0 ≤ v14) => ?_)
          refine j_getr (ci := 10) (k := 3) rfl in_X10 (Nat.le_of_ble_eq_true rfl) rfl rfl fl_X11_88 dX11_lot_69 (fun (v15 : Int) (hv15 : 0 ≤ v15) => ?_)
          refine j_iload 0 dX11_lot_72 rfl ?_
          refine j_iload_n 4 dX11_lot_74 rfl rfl ?_
          refine j_iastore hv10 h3 dX11_lot_75 (fun S16 => ?_)
          refine j_aload_n 1 dX11_lot_76 rfl rfl ?_
          refine j_getr (ci := 11) (k := 0) rfl in_X11 (Nat.le_of_ble_eq_true rfl) rfl rfl fl_X11_10 dX11_lot_77 (fun (v17 : Int) (hv17 : 0 ≤ v17) => ?_)
          refine j_dup dX11_lot_80 (fun h => nomatch h) ?_
          refine j_get (ci := 10) (k := 0) (t := 0) rfl in_X10 (Nat.le_of_ble_eq_true rfl) rfl rfl fl_X11_80 dX11_lot_81 (fun (v18 : Int) (hv18 : R32 (v18)) => ?_)
          refine j_iconst dX11_lot_84 ?_
          refine j_iadd dX11_lot_85 ?_
          refine j_puti (ci := 10) (k := 0) (ty0 := tyX10) rfl in_X10 (Nat.le_of_ble_eq_true rfl) rfl tyX10_ok nmX10 rfl rfl (by decide +kernel) (w32_R _) fl_X11_80 dX11_lot_86 (fun S19 => ?_)
          refine j_aload_n 1 dX11_lot_89 rfl rfl ?_
          refine j_getr (ci := 11) (k := 1) rfl in_X11 (Nat.le_of_ble_eq_true rfl) rfl rfl fl_X11_19 dX11_lot_90 (fun (v20 : Int) (hv20 : 0 ≤ v20) => ?_)
          refine j_getr (ci := 1) (k := 1) rfl in_X1 (Nat.le_of_ble_eq_true rfl) rfl rfl fl_X11_91 dX11_lot_93 (fun (v21 : Int) (hv21 : 0 ≤ v21) => ?_)
          refine j_iload 0 dX11_lot_96 rfl ?_
          refine j_iload_n 2 dX11_lot_98 rfl rfl ?_
          refine j_iastore hv10 h1 dX11_lot_99 (fun S22 => ?_)
          refine j_aload_n 1 dX11_lot_100 rfl rfl ?_
          refine j_getr (ci := 11) (k := 2) rfl in_X11 (Nat.le_of_ble_eq_true rfl) rfl rfl fl_X11_26 dX11_lot_101 (fun (v23 : Int) (hv23 : 0 ≤ v23) => ?_)
          refine j_iload 0 dX11_lot_104 rfl ?_
          refine j_iload_n 2 dX11_lot_106 rfl rfl ?_
          refine j_callV (ci := 8) (As := [(0, v10), (0, a1)]) (st := []) kc_X8_tellFloor (c_X8_tellFloor v23 v10 a1 S22 hv23 hv10 h1) rfl lm_X11_94 ki_X8_tellFloor ke_X8_tellFloor rfl (Nat.le_of_ble_eq_true rfl) (Nat.le_trans (m := 2) (Nat.le_of_ble_eq_true rfl) hd0) dX11_lot_107 (fun v24 S25 _ => ?_)
          refine j_iload 0 dX11_lot_110 rfl ?_
          exact j_ireturn hv10 dX11_lot_112
        · refine j_iconst dX11_lot_43 ?_
          exact j_ireturn (j_r32 (-1) rfl) dX11_lot_44
      · refine j_sub [] rfl ?_
        exact p_f_X11_lot_b29 hd0 S6
theorem c_X11_lot {G : jG} (a0 : Int) (a1 : Int) (a2 : Int) (a3 : Int) (S : jSt) (h0 : 0 ≤ (a0)) (h1 : R32 (a1)) (h2 : R32 (a2)) (h3 : R32 (a3)) : CT G yX11_lot cX11_lot 5 (some .int) 2 ([(2, a0), (0, a1), (0, a2), (0, a3)].map jval) S (f_X11_lot a0 a1 a2 a3 S) := ct_of [(2, a0), (0, a1), (0, a2), (0, a3)] (by decide) rfl (Nat.le_of_ble_eq_true rfl) (e_X11_lot (Nat.le_refl _) a0 a1 a2 a3 S h0 h1 h2 h3)
-- X11_odds
def f_X11_odds_b19 (S : jSt) : Option (Int × jSt) :=
  some (0, S)
theorem p_f_X11_odds_b19 {G : jG} {d : Nat} {S0 : jSt} (hd0 : 2 ≤ d) : ∀ (S : jSt), J G yX11_odds cX11_odds 3 (some .boolean) d S0 19 [] [] S (f_X11_odds_b19   S) := by
  intro S
  unfold f_X11_odds_b19
  refine j_iconst dX11_odds_19 ?_
  exact j_zreturn jz0 dX11_odds_20
def f_X11_odds (a0 : Int) (a1 : Int) (a2 : Int) (S : jSt) : Option (Int × jSt) :=
  fcall (f_X11_within a1 0 5 S) (fun v1 S2 => if v1 = 0 then f_X11_odds_b19 S2 else fcall (f_X11_within a2 0 10 S2) (fun v3 S4 => if v3 = 0 then f_X11_odds_b19 S4 else fgetr S4 a0 11 0 (fun v5 => fgetr S4 v5 10 15 (fun v6 => fgetr S4 v6 3 0 (fun v7 => fast S4 v7 a1 1 a2 (fun S8 => some (1, S8)))))))
theorem e_X11_odds {G : jG} {d : Nat} {S0 : jSt} (hd0 : 2 ≤ d) (a0 : Int) (a1 : Int) (a2 : Int) (S : jSt) (h0 : 0 ≤ (a0)) (h1 : R32 (a1)) (h2 : R32 (a2)) : J G yX11_odds cX11_odds 3 (some .boolean) d S0 0 [(0, 2, a0), (1, 0, a1), (2, 0, a2)] [] S (f_X11_odds a0 a1 a2 S) := by
  unfold f_X11_odds
  refine j_iload_n 1 dX11_odds_0 rfl rfl ?_
  refine j_iconst dX11_odds_1 ?_
  refine j_iconst dX11_odds_2 ?_
  refine j_callS (As := [(0, a1), (0, 0), (0, 5)]) (st := []) kc_X11_within (c_X11_within a1 0 5 S h1 (jZ_R jz0) (j_r32 5 rfl)) lm_X11_76 ks_X11_within rfl (Nat.le_of_ble_eq_true rfl) (Nat.le_trans (m := 2) (Nat.le_of_ble_eq_true rfl) hd0) dX11_odds_3 (fun (v1 : Int) (S2 : jSt) (hv1 : (v1) = 0 ∨ (v1) = 1) => ?_)
  refine j_if_eq (tgt := 19) (jZ_R hv1) dX11_odds_6 rfl (fun _ => ?_) (fun _ => ?_)
  · refine j_sub [] rfl ?_
    exact p_f_X11_odds_b19 hd0 S2
  · refine j_iload_n 2 dX11_odds_9 rfl rfl ?_
    refine j_iconst dX11_odds_10 ?_
    refine j_bipush dX11_odds_11 (by decide) ?_
    refine j_callS (As := [(0, a2), (0, 0), (0, 10)]) (st := []) kc_X11_within (c_X11_within a2 0 10 S2 h2 (jZ_R jz0) (j_r32 10 rfl)) lm_X11_76 ks_X11_within rfl (Nat.le_of_ble_eq_true rfl) (Nat.le_trans (m := 2) (Nat.le_of_ble_eq_true rfl) hd0) dX11_odds_13 (fun (v3 : Int) (S4 : jSt) (hv3 : (v3) = 0 ∨ (v3) = 1) => ?_)
    refine j_if_ne (tgt := 21) (jZ_R hv3) dX11_odds_16 rfl (fun _ => ?_) (fun _ => ?_)
    · refine j_aload_n 0 dX11_odds_21 rfl rfl ?_
      refine j_getr (ci := 11) (k := 0) rfl in_X11 (Nat.le_of_ble_eq_true rfl) rfl rfl fl_X11_10 dX11_odds_22 (fun (v5 : Int) (hv5 : 0 ≤ v5) => ?_)
      refine j_getr (ci := 10) (k := 15) rfl in_X10 (Nat.le_of_ble_eq_true rfl) rfl rfl fl_X11_359 dX11_odds_25 (fun (v6 : Int) (hv6 : 0 ≤ v6) => ?_)
      refine j_getr (ci := 3) (k := 0) rfl in_X3 (Nat.le_of_ble_eq_true rfl) rfl rfl fl_X11_363 dX11_odds_28 (fun (v7 : Int) (hv7 : 0 ≤ v7) => ?_)
      refine j_iload_n 1 dX11_odds_31 rfl rfl ?_
      refine j_iload_n 2 dX11_odds_32 rfl rfl ?_
      refine j_iastore h1 h2 dX11_odds_33 (fun S8 => ?_)
      refine j_iconst dX11_odds_34 ?_
      exact j_zreturn jz1 dX11_odds_35
    · refine j_sub [] rfl ?_
      exact p_f_X11_odds_b19 hd0 S4
theorem c_X11_odds {G : jG} (a0 : Int) (a1 : Int) (a2 : Int) (S : jSt) (h0 : 0 ≤ (a0)) (h1 : R32 (a1)) (h2 : R32 (a2)) : CT G yX11_odds cX11_odds 3 (some .boolean) 2 ([(2, a0), (0, a1), (0, a2)].map jval) S (f_X11_odds a0 a1 a2 S) := ct_of [(2, a0), (0, a1), (0, a2)] (by decide) rfl (Nat.le_of_ble_eq_true rfl) (e_X11_odds (Nat.le_refl _) a0 a1 a2 S h0 h1 h2)
-- X11_of
def f_X11_of (a0 : Int) (a1 : Int) (a2 : Int) (S : jSt) : Option (Int × jSt) :=
  fgetr S a0 11 0 (fun v1 => fcallv S v1 10 (f_X10_hasLot v1 a1 S) (fun v2 S3 => if v2 = 0 then some ((-2), S3) else if a2 = 0 then fgetr S3 a0 11 1 (fun v4 => fgetr S3 v4 1 1 (fun v5 => fald S3 v5 a1 1 (fun v6 => some (v6, S3)))) else if a2 = 1 then fgetr S3 a0 11 0 (fun v7 => fgetr S3 v7 10 2 (fun v8 => fald S3 v8 a1 1 (fun v9 => some (v9, S3)))) else if a2 = 2 then fgetr S3 a0 11 0 (fun v10 => fgetr S3 v10 10 3 (fun v11 => fald S3 v11 a1 1 (fun v12 => some (v12, S3)))) else if a2 = 3 then fgetr S3 a0 11 1 (fun v13 => fgetr S3 v13 1 0 (fun v14 => fald S3 v14 a1 1 (fun v15 => some (v15, S3)))) else if a2 = 4 then fgetr S3 a0 11 8 (fun v16 => fgetr S3 a0 11 1 (fun v17 => fcallv S3 v16 5 (f_X5_reserveFor v16 v17 a1 S3) (fun v18 S19 => some (v18, S19)))) else if a2 = 5 then fgetr S3 a0 11 8 (fun v20 => fgetr S3 a0 11 0 (fun v21 => fgetr S3 a0 11 0 (fun v22 => fget S3 v22 10 6 (fun v23 => fcallv S3 v21 10 (f_X10_scriptOf v21 v23 S3) (fun v24 S25 => fgetr S25 a0 11 1 (fun v26 => fcallv S25 v20 5 (f_X5_warmsBy v20 v24 v26 a1 S25) (fun v27 S28 => some (v27, S28)))))))) else if a2 = 6 then fgetr S3 a0 11 8 (fun v29 => fgetr S3 a0 11 1 (fun v30 => fcallv S3 v29 5 (f_X5_findWinner v29 v30 a1 S3) (fun v31 S32 => fgetr S32 a0 11 8 (fun v33 => fget S32 v33 5 0 (fun v34 => some (v34, S32)))))) else if a2 = 7 then fgetr S3 a0 11 8 (fun v35 => fgetr S3 a0 11 1 (fun v36 => fcallv S3 v35 5 (f_X5_findWinner v35 v36 a1 S3) (fun v37 S38 => fgetr S38 a0 11 8 (fun v39 => fget S38 v39 5 1 (fun v40 => some (v40, S38)))))) else some ((-2), S3)))
theorem e_X11_of {G : jG} {d : Nat} {S0 : jSt} (hd0 : 5 ≤ d) (a0 : Int) (a1 : Int) (a2 : Int) (S : jSt) (h0 : 0 ≤ (a0)) (h1 : R32 (a1)) (h2 : R32 (a2)) : J G yX11_of cX11_of 3 (some .int) d S0 0 [(0, 2, a0), (1, 0, a1), (2, 0, a2)] [] S (f_X11_of a0 a1 a2 S) := by
  unfold f_X11_of
  refine j_aload_n 0 dX11_of_0 rfl rfl ?_
  refine j_getr (ci := 11) (k := 0) rfl in_X11 (Nat.le_of_ble_eq_true rfl) rfl rfl fl_X11_10 dX11_of_1 (fun (v1 : Int) (hv1 : 0 ≤ v1) => ?_)
  refine j_iload_n 1 dX11_of_4 rfl rfl ?_
  refine j_callV (ci := 10) (As := [(0, a1)]) (st := []) kc_X10_hasLot (c_X10_hasLot v1 a1 S hv1 h1) rfl lm_X11_111 ki_X10_hasLot ke_X10_hasLot rfl (Nat.le_of_ble_eq_true rfl) (Nat.le_trans (m := 5) (Nat.le_of_ble_eq_true rfl) hd0) dX11_of_5 (fun (v2 : Int) (S3 : jSt) (hv2 : (v2) = 0 ∨ (v2) = 1) => ?_)
  refine j_if_ne (tgt := 14) (jZ_R hv2) dX11_of_8 rfl (fun _ => ?_) (fun _ => ?_)
  · refine j_iload_n 2 dX11_of_14 rfl rfl ?_
    refine j_ite (fun hc0 => ?_) (fun hc0 => ?_)
    · refine j_tableIn (tgt := 60) (off := 45) h2 dX11_of_15 (by omega) (by omega) (by rw [hc0]; rfl) rfl ?_
      refine j_aload_n 0 dX11_of_60 rfl rfl ?_
      refine j_getr (ci := 11) (k := 1) rfl in_X11 (Nat.le_of_ble_eq_true rfl) rfl rfl fl_X11_19 dX11_of_61 (fun (v4 : Int) (hv4 : 0 ≤ v4) => ?_)
      refine j_getr (ci := 1) (k := 1) rfl in_X1 (Nat.le_of_ble_eq_true rfl) rfl rfl fl_X11_91 dX11_of_64 (fun (v5 : Int) (hv5 : 0 ≤ v5) => ?_)
      refine j_iload_n 1 dX11_of_67 rfl rfl ?_
      refine j_iaload h1 dX11_of_68 (fun (v6 : Int) (hv6 : R32 (v6)) => ?_)
      exact j_ireturn hv6 dX11_of_69
    refine j_ite (fun hc1 => ?_) (fun hc1 => ?_)
    · refine j_tableIn (tgt := 70) (off := 55) h2 dX11_of_15 (by omega) (by omega) (by rw [hc1]; rfl) rfl ?_
      refine j_aload_n 0 dX11_of_70 rfl rfl ?_
      refine j_getr (ci := 11) (k := 0) rfl in_X11 (Nat.le_of_ble_eq_true rfl) rfl rfl fl_X11_10 dX11_of_71 (fun (v7 : Int) (hv7 : 0 ≤ v7) => ?_)
      refine j_getr (ci := 10) (k := 2) rfl in_X10 (Nat.le_of_ble_eq_true rfl) rfl rfl fl_X11_84 dX11_of_74 (fun (v8 : Int) (hv8 : 0 ≤ v8) => ?_)
      refine j_iload_n 1 dX11_of_77 rfl rfl ?_
      refine j_iaload h1 dX11_of_78 (fun (v9 : Int) (hv9 : R32 (v9)) => ?_)
      exact j_ireturn hv9 dX11_of_79
    refine j_ite (fun hc2 => ?_) (fun hc2 => ?_)
    · refine j_tableIn (tgt := 80) (off := 65) h2 dX11_of_15 (by omega) (by omega) (by rw [hc2]; rfl) rfl ?_
      refine j_aload_n 0 dX11_of_80 rfl rfl ?_
      refine j_getr (ci := 11) (k := 0) rfl in_X11 (Nat.le_of_ble_eq_true rfl) rfl rfl fl_X11_10 dX11_of_81 (fun (v10 : Int) (hv10 : 0 ≤ v10) => ?_)
      refine j_getr (ci := 10) (k := 3) rfl in_X10 (Nat.le_of_ble_eq_true rfl) rfl rfl fl_X11_88 dX11_of_84 (fun (v11 : Int) (hv11 : 0 ≤ v11) => ?_)
      refine j_iload_n 1 dX11_of_87 rfl rfl ?_
      refine j_iaload h1 dX11_of_88 (fun (v12 : Int) (hv12 : R32 (v12)) => ?_)
      exact j_ireturn hv12 dX11_of_89
    refine j_ite (fun hc3 => ?_) (fun hc3 => ?_)
    · refine j_tableIn (tgt := 90) (off := 75) h2 dX11_of_15 (by omega) (by omega) (by rw [hc3]; rfl) rfl ?_
      refine j_aload_n 0 dX11_of_90 rfl rfl ?_
      refine j_getr (ci := 11) (k := 1) rfl in_X11 (Nat.le_of_ble_eq_true rfl) rfl rfl fl_X11_19 dX11_of_91 (fun (v13 : Int) (hv13 : 0 ≤ v13) => ?_)
      refine j_getr (ci := 1) (k := 0) rfl in_X1 (Nat.le_of_ble_eq_true rfl) rfl rfl fl_X11_182 dX11_of_94 (fun (v14 : Int) (hv14 : 0 ≤ v14) => ?_)
      refine j_iload_n 1 dX11_of_97 rfl rfl ?_
      refine j_iaload h1 dX11_of_98 (fun (v15 : Int) (hv15 : R32 (v15)) => ?_)
      exact j_ireturn hv15 dX11_of_99
    refine j_ite (fun hc4 => ?_) (fun hc4 => ?_)
    · refine j_tableIn (tgt := 100) (off := 85) h2 dX11_of_15 (by omega) (by omega) (by rw [hc4]; rfl) rfl ?_
      refine j_aload_n 0 dX11_of_100 rfl rfl ?_
      refine j_getr (ci := 11) (k := 8) rfl in_X11 (Nat.le_of_ble_eq_true rfl) rfl rfl fl_X11_60 dX11_of_101 (fun (v16 : Int) (hv16 : 0 ≤ v16) => ?_)
      refine j_aload_n 0 dX11_of_104 rfl rfl ?_
      refine j_getr (ci := 11) (k := 1) rfl in_X11 (Nat.le_of_ble_eq_true rfl) rfl rfl fl_X11_19 dX11_of_105 (fun (v17 : Int) (hv17 : 0 ≤ v17) => ?_)
      refine j_iload_n 1 dX11_of_108 rfl rfl ?_
      refine j_callV (ci := 5) (As := [(2, v17), (0, a1)]) (st := []) kc_X5_reserveFor (c_X5_reserveFor v16 v17 a1 S3 hv16 hv17 h1) rfl lm_X11_263 ki_X5_reserveFor ke_X5_reserveFor rfl (Nat.le_of_ble_eq_true rfl) (Nat.le_trans (m := 5) (Nat.le_of_ble_eq_true rfl) hd0) dX11_of_109 (fun (v18 : Int) (S19 : jSt) (hv18 : R32 (v18)) => ?_)
      exact j_ireturn hv18 dX11_of_112
    refine j_ite (fun hc5 => ?_) (fun hc5 => ?_)
    · refine j_tableIn (tgt := 113) (off := 98) h2 dX11_of_15 (by omega) (by omega) (by rw [hc5]; rfl) rfl ?_
      refine j_aload_n 0 dX11_of_113 rfl rfl ?_
      refine j_getr (ci := 11) (k := 8) rfl in_X11 (Nat.le_of_ble_eq_true rfl) rfl rfl fl_X11_60 dX11_of_114 (fun (v20 : Int) (hv20 : 0 ≤ v20) => ?_)
      refine j_aload_n 0 dX11_of_117 rfl rfl ?_
      refine j_getr (ci := 11) (k := 0) rfl in_X11 (Nat.le_of_ble_eq_true rfl) rfl rfl fl_X11_10 dX11_of_118 (fun (v21 : Int) (hv21 : 0 ≤ v21) => ?_)
      refine j_aload_n 0 dX11_of_121 rfl rfl ?_
      refine j_getr (ci := 11) (k := 0) rfl in_X11 (Nat.le_of_ble_eq_true rfl) rfl rfl fl_X11_10 dX11_of_122 (fun (v22 : Int) (hv22 : 0 ≤ v22) => ?_)
      refine j_get (ci := 10) (k := 6) (t := 0) rfl in_X10 (Nat.le_of_ble_eq_true rfl) rfl rfl fl_X11_155 dX11_of_125 (fun (v23 : Int) (hv23 : R32 (v23)) => ?_)
      refine j_callV (ci := 10) (As := [(0, v23)]) (st := [(2, v20)]) kc_X10_scriptOf (c_X10_scriptOf v21 v23 S3 hv21 hv23) rfl lm_X11_200 ki_X10_scriptOf ke_X10_scriptOf rfl (Nat.le_of_ble_eq_true rfl) (Nat.le_trans (m := 5) (Nat.le_of_ble_eq_true rfl) hd0) dX11_of_128 (fun v24 S25 _ => ?_)
      refine j_aload_n 0 dX11_of_131 rfl rfl ?_
      refine j_getr (ci := 11) (k := 1) rfl in_X11 (Nat.le_of_ble_eq_true rfl) rfl rfl fl_X11_19 dX11_of_132 (fun (v26 : Int) (hv26 : 0 ≤ v26) => ?_)
      refine j_iload_n 1 dX11_of_135 rfl rfl ?_
      refine j_callV (ci := 5) (As := [(3, v24), (2, v26), (0, a1)]) (st := []) kc_X5_warmsBy (c_X5_warmsBy v20 v24 v26 a1 S25 hv20 hv26 h1) rfl lm_X11_267 ki_X5_warmsBy ke_X5_warmsBy rfl (Nat.le_of_ble_eq_true rfl) (Nat.le_trans (m := 5) (Nat.le_of_ble_eq_true rfl) hd0) dX11_of_136 (fun (v27 : Int) (S28 : jSt) (hv27 : R32 (v27)) => ?_)
      exact j_ireturn hv27 dX11_of_139
    refine j_ite (fun hc6 => ?_) (fun hc6 => ?_)
    · refine j_tableIn (tgt := 140) (off := 125) h2 dX11_of_15 (by omega) (by omega) (by rw [hc6]; rfl) rfl ?_
      refine j_aload_n 0 dX11_of_140 rfl rfl ?_
      refine j_getr (ci := 11) (k := 8) rfl in_X11 (Nat.le_of_ble_eq_true rfl) rfl rfl fl_X11_60 dX11_of_141 (fun (v29 : Int) (hv29 : 0 ≤ v29) => ?_)
      refine j_aload_n 0 dX11_of_144 rfl rfl ?_
      refine j_getr (ci := 11) (k := 1) rfl in_X11 (Nat.le_of_ble_eq_true rfl) rfl rfl fl_X11_19 dX11_of_145 (fun (v30 : Int) (hv30 : 0 ≤ v30) => ?_)
      refine j_iload_n 1 dX11_of_148 rfl rfl ?_
      refine j_callV (ci := 5) (As := [(2, v30), (0, a1)]) (st := []) kc_X5_findWinner (c_X5_findWinner v29 v30 a1 S3 hv29 hv30 h1) rfl lm_X11_166 ki_X5_findWinner ke_X5_findWinner rfl (Nat.le_of_ble_eq_true rfl) (Nat.le_trans (m := 5) (Nat.le_of_ble_eq_true rfl) hd0) dX11_of_149 (fun v31 S32 _ => ?_)
      refine j_aload_n 0 dX11_of_152 rfl rfl ?_
      refine j_getr (ci := 11) (k := 8) rfl in_X11 (Nat.le_of_ble_eq_true rfl) rfl rfl fl_X11_60 dX11_of_153 (fun (v33 : Int) (hv33 : 0 ≤ v33) => ?_)
      refine j_get (ci := 5) (k := 0) (t := 0) rfl in_X5 (Nat.le_of_ble_eq_true rfl) rfl rfl fl_X11_271 dX11_of_156 (fun (v34 : Int) (hv34 : R32 (v34)) => ?_)
      exact j_ireturn hv34 dX11_of_159
    refine j_ite (fun hc7 => ?_) (fun hc7 => ?_)
    · refine j_tableIn (tgt := 160) (off := 145) h2 dX11_of_15 (by omega) (by omega) (by rw [hc7]; rfl) rfl ?_
      refine j_aload_n 0 dX11_of_160 rfl rfl ?_
      refine j_getr (ci := 11) (k := 8) rfl in_X11 (Nat.le_of_ble_eq_true rfl) rfl rfl fl_X11_60 dX11_of_161 (fun (v35 : Int) (hv35 : 0 ≤ v35) => ?_)
      refine j_aload_n 0 dX11_of_164 rfl rfl ?_
      refine j_getr (ci := 11) (k := 1) rfl in_X11 (Nat.le_of_ble_eq_true rfl) rfl rfl fl_X11_19 dX11_of_165 (fun (v36 : Int) (hv36 : 0 ≤ v36) => ?_)
      refine j_iload_n 1 dX11_of_168 rfl rfl ?_
      refine j_callV (ci := 5) (As := [(2, v36), (0, a1)]) (st := []) kc_X5_findWinner (c_X5_findWinner v35 v36 a1 S3 hv35 hv36 h1) rfl lm_X11_166 ki_X5_findWinner ke_X5_findWinner rfl (Nat.le_of_ble_eq_true rfl) (Nat.le_trans (m := 5) (Nat.le_of_ble_eq_true rfl) hd0) dX11_of_169 (fun v37 S38 _ => ?_)
      refine j_aload_n 0 dX11_of_172 rfl rfl ?_
      refine j_getr (ci := 11) (k := 8) rfl in_X11 (Nat.le_of_ble_eq_true rfl) rfl rfl fl_X11_60 dX11_of_173 (fun (v39 : Int) (hv39 : 0 ≤ v39) => ?_)
      refine j_get (ci := 5) (k := 1) (t := 0) rfl in_X5 (Nat.le_of_ble_eq_true rfl) rfl rfl fl_X11_173 dX11_of_176 (fun (v40 : Int) (hv40 : R32 (v40)) => ?_)
      exact j_ireturn hv40 dX11_of_179
    refine j_tableOut (tgt := 180) h2 dX11_of_15 (by omega) rfl ?_
    refine j_bipush dX11_of_180 (by decide) ?_
    exact j_ireturn (j_r32 (-2) rfl) dX11_of_182
  · refine j_bipush dX11_of_11 (by decide) ?_
    exact j_ireturn (j_r32 (-2) rfl) dX11_of_13
theorem c_X11_of {G : jG} (a0 : Int) (a1 : Int) (a2 : Int) (S : jSt) (h0 : 0 ≤ (a0)) (h1 : R32 (a1)) (h2 : R32 (a2)) : CT G yX11_of cX11_of 3 (some .int) 5 ([(2, a0), (0, a1), (0, a2)].map jval) S (f_X11_of a0 a1 a2 S) := ct_of [(2, a0), (0, a1), (0, a2)] (by decide) rfl (Nat.le_of_ble_eq_true rfl) (e_X11_of (Nat.le_refl _) a0 a1 a2 S h0 h1 h2)
-- X11_ofBidder
def f_X11_ofBidder_b20 (S : jSt) : Option (Int × jSt) :=
  some ((-2), S)
theorem p_f_X11_ofBidder_b20 {G : jG} {d : Nat} {S0 : jSt} (hd0 : 3 ≤ d) : ∀ (S : jSt), J G yX11_ofBidder cX11_ofBidder 6 (some .int) d S0 20 [] [] S (f_X11_ofBidder_b20   S) := by
  intro S
  unfold f_X11_ofBidder_b20
  refine j_bipush dX11_ofBidder_20 (by decide) ?_
  exact j_ireturn (j_r32 (-2) rfl) dX11_ofBidder_22
def f_X11_ofBidder_b116 (x0 : Int) (S : jSt) : Option (Int × jSt) :=
  some (x0, S)
theorem p_f_X11_ofBidder_b116 {G : jG} {d : Nat} {S0 : jSt} (hd0 : 3 ≤ d) : ∀ (x0 : Int) (S : jSt), (R32 (x0)) → J G yX11_ofBidder cX11_ofBidder 6 (some .int) d S0 116 [] [(0, x0)] S (f_X11_ofBidder_b116  x0 S) := by
  intro x0 S h0
  unfold f_X11_ofBidder_b116
  exact j_ireturn h0 dX11_ofBidder_116
def f_X11_ofBidder_b99 (r45 : Int → Int → Int → Int → Int → Int → jSt → Option (Int × jSt)) (x0 : Int) (x1 : Int) (x2 : Int) (x3 : Int) (x4 : Int) (x5 : Int) (S : jSt) : Option (Int × jSt) :=
  flet (w32 (x5 + 1)) (fun v11 => r45 x0 x1 x2 x3 x4 v11 S)
theorem p_f_X11_ofBidder_b99 {G : jG} {d : Nat} {S0 : jSt} (hd0 : 3 ≤ d) {r45 : Int → Int → Int → Int → Int → Int → jSt → Option (Int × jSt)} (k45 : ∀ (x0 : Int) (x1 : Int) (x2 : Int) (x3 : Int) (x4 : Int) (x5 : Int) (S : jSt), (0 ≤ (x0)) → (R32 (x1)) → (R32 (x2)) → (R32 (x3)) → (R32 (x4)) → (R32 (x5)) → J G yX11_ofBidder cX11_ofBidder 6 (some .int) d S0 45 [(0, 2, x0), (1, 0, x1), (2, 0, x2), (3, 0, x3), (4, 0, x4), (5, 0, x5)] [] S (r45 x0 x1 x2 x3 x4 x5 S)) : ∀ (x0 : Int) (x1 : Int) (x2 : Int) (x3 : Int) (x4 : Int) (x5 : Int) (S : jSt), (0 ≤ (x0)) → (R32 (x1)) → (R32 (x2)) → (R32 (x3)) → (R32 (x4)) → (R32 (x5)) → J G yX11_ofBidder cX11_ofBidder 6 (some .int) d S0 99 [(0, 2, x0), (1, 0, x1), (2, 0, x2), (3, 0, x3), (4, 0, x4), (5, 0, x5)] [] S (f_X11_ofBidder_b99 r45 x0 x1 x2 x3 x4 x5 S) := by
  intro x0 x1 x2 x3 x4 x5 S h0 h1 h2 h3 h4 h5
  unfold f_X11_ofBidder_b99
  refine j_iincL (q := 5) dX11_ofBidder_99 rfl (Nat.le_of_ble_eq_true rfl) (fun v11 hv11 => ?_)
  refine j_lv (lv' := [(5, 0, v11), (0, 2, x0), (1, 0, x1), (2, 0, x2), (3, 0, x3), (4, 0, x4)]) rfl ?_
  refine j_goto (tgt := 45) dX11_ofBidder_102 rfl ?_
  refine j_sub [1, 2, 3, 4, 5, 0] rfl ?_
  exact k45 x0 x1 x2 x3 x4 v11 S h0 h1 h2 h3 h4 hv11
def f_X11_ofBidder_b45B (r45 : Int → Int → Int → Int → Int → Int → jSt → Option (Int × jSt)) (x0 : Int) (x1 : Int) (x2 : Int) (x3 : Int) (x4 : Int) (x5 : Int) (S : jSt) : Option (Int × jSt) :=
  fgetr S x0 11 0 (fun v6 => fget S v6 10 0 (fun v7 => if v7 ≤ x5 then if x2 = 1 then f_X11_ofBidder_b116 x3 S else f_X11_ofBidder_b116 x4 S else fgetr S x0 11 1 (fun v8 => fgetr S v8 1 0 (fun v9 => fald S v9 x5 1 (fun v10 => if v10 = (w32 (3 + x1)) then flet (ior32 x3 (ishl32 1 x5)) (fun v12 => fgetr S x0 11 1 (fun v13 => fgetr S v13 1 3 (fun v14 => fcall (f_X11_wantAt x1 x5 S) (fun v15 S16 => fald S16 v14 v15 1 (fun v17 => flet (w32 (x4 + v17)) (fun v18 => f_X11_ofBidder_b99 r45 x0 x1 x2 v12 v18 x5 S16)))))) else f_X11_ofBidder_b99 r45 x0 x1 x2 x3 x4 x5 S)))))
theorem p_f_X11_ofBidder_b45B {G : jG} {d : Nat} {S0 : jSt} (hd0 : 3 ≤ d) {r45 : Int → Int → Int → Int → Int → Int → jSt → Option (Int × jSt)} (k45 : ∀ (x0 : Int) (x1 : Int) (x2 : Int) (x3 : Int) (x4 : Int) (x5 : Int) (S : jSt), (0 ≤ (x0)) → (R32 (x1)) → (R32 (x2)) → (R32 (x3)) → (R32 (x4)) → (R32 (x5)) → J G yX11_ofBidder cX11_ofBidder 6 (some .int) d S0 45 [(0, 2, x0), (1, 0, x1), (2, 0, x2), (3, 0, x3), (4, 0, x4), (5, 0, x5)] [] S (r45 x0 x1 x2 x3 x4 x5 S)) : ∀ (x0 : Int) (x1 : Int) (x2 : Int) (x3 : Int) (x4 : Int) (x5 : Int) (S : jSt), (0 ≤ (x0)) → (R32 (x1)) → (R32 (x2)) → (R32 (x3)) → (R32 (x4)) → (R32 (x5)) → J G yX11_ofBidder cX11_ofBidder 6 (some .int) d S0 45 [(0, 2, x0), (1, 0, x1), (2, 0, x2), (3, 0, x3), (4, 0, x4), (5, 0, x5)] [] S (f_X11_ofBidder_b45B r45 x0 x1 x2 x3 x4 x5 S) := by
  intro x0 x1 x2 x3 x4 x5 S h0 h1 h2 h3 h4 h5
  unfold f_X11_ofBidder_b45B
  refine j_iload 5 dX11_ofBidder_45 rfl ?_
  refine j_aload_n 0 dX11_ofBidder_47 rfl rfl ?_
  refine j_getr (ci := 11) (k := 0) rfl in_X11 (Nat.le_of_ble_eq_true rfl) rfl rfl fl_X11_10 dX11_ofBidder_48 (fun (v6 : Int) (hv6 : 0 ≤ v6) => ?_)
  refine j_get (ci := 10) (k := 0) (t := 0) rfl in_X10 (Nat.le_of_ble_eq_true rfl) rfl rfl fl_X11_80 dX11_ofBidder_51 (fun (v7 : Int) (hv7 : R32 (v7)) => ?_)
  refine j_icmp_ge (tgt := 105) h5 hv7 dX11_ofBidder_54 rfl (fun _ => ?_) (fun _ => ?_)
  · refine j_iload_n 2 dX11_ofBidder_105 rfl rfl ?_
    refine j_iconst dX11_ofBidder_106 ?_
    refine j_icmp_ne (tgt := 114) h2 (jZ_R jz1) dX11_ofBidder_107 rfl (fun _ => ?_) (fun _ => ?_)
    · refine j_iload 4 dX11_ofBidder_114 rfl ?_
      refine j_sub [] rfl ?_
      exact p_f_X11_ofBidder_b116 hd0 x4 S h4
    · refine j_iload_n 3 dX11_ofBidder_110 rfl rfl ?_
      refine j_goto (tgt := 116) dX11_ofBidder_111 rfl ?_
      refine j_sub [] rfl ?_
      exact p_f_X11_ofBidder_b116 hd0 x3 S h3
  · refine j_aload_n 0 dX11_ofBidder_57 rfl rfl ?_
    refine j_getr (ci := 11) (k := 1) rfl in_X11 (Nat.le_of_ble_eq_true rfl) rfl rfl fl_X11_19 dX11_ofBidder_58 (fun (v8 : Int) (hv8 : 0 ≤ v8) => ?_)
    refine j_getr (ci := 1) (k := 0) rfl in_X1 (Nat.le_of_ble_eq_true rfl) rfl rfl fl_X11_182 dX11_ofBidder_61 (fun (v9 : Int) (hv9 : 0 ≤ v9) => ?_)
    refine j_iload 5 dX11_ofBidder_64 rfl ?_
    refine j_iaload h5 dX11_ofBidder_66 (fun (v10 : Int) (hv10 : R32 (v10)) => ?_)
    refine j_iconst dX11_ofBidder_67 ?_
    refine j_iload_n 1 dX11_ofBidder_68 rfl rfl ?_
    refine j_iadd dX11_ofBidder_69 ?_
    refine j_icmp_ne (tgt := 99) hv10 (w32_R _) dX11_ofBidder_70 rfl (fun _ => ?_) (fun _ => ?_)
    · exact p_f_X11_ofBidder_b99 hd0 k45 x0 x1 x2 x3 x4 x5 S h0 h1 h2 h3 h4 h5
    · refine j_iload_n 3 dX11_ofBidder_73 rfl rfl ?_
      refine j_iconst dX11_ofBidder_74 ?_
      refine j_iload 5 dX11_ofBidder_75 rfl ?_
      refine j_ishl dX11_ofBidder_77 ?_
      refine j_ior dX11_ofBidder_78 ?_
      refine j_leti (ior32_R _ _) (fun v12 hv12 => ?_)
      refine j_istore_n (lv' := [(3, 0, v12), (0, 2, x0), (1, 0, x1), (2, 0, x2), (4, 0, x4), (5, 0, x5)]) dX11_ofBidder_79 rfl (Nat.le_of_ble_eq_true rfl) rfl ?_
      refine j_iload 4 dX11_ofBidder_80 rfl ?_
      refine j_aload_n 1 dX11_ofBidder_82 rfl rfl ?_
      refine j_getr (ci := 11) (k := 1) rfl in_X11 (Nat.le_of_ble_eq_true rfl) rfl rfl fl_X11_19 dX11_ofBidder_83 (fun (v13 : Int) (hv13 : 0 ≤ v13) => ?_)
      refine j_getr (ci := 1) (k := 3) rfl in_X1 (Nat.le_of_ble_eq_true rfl) rfl rfl fl_X11_114 dX11_ofBidder_86 (fun (v14 : Int) (hv14 : 0 ≤ v14) => ?_)
      refine j_iload_n 2 dX11_ofBidder_89 rfl rfl ?_
      refine j_iload 5 dX11_ofBidder_90 rfl ?_
      refine j_callS (As := [(0, x1), (0, x5)]) (st := [(2, v14), (0, x4)]) kc_X11_wantAt (c_X11_wantAt x1 x5 S h1 h5) lm_X11_117 ks_X11_wantAt rfl (Nat.le_of_ble_eq_true rfl) (Nat.le_trans (m := 3) (Nat.le_of_ble_eq_true rfl) hd0) dX11_ofBidder_92 (fun (v15 : Int) (S16 : jSt) (hv15 : R32 (v15)) => ?_)
      refine j_iaload hv15 dX11_ofBidder_95 (fun (v17 : Int) (hv17 : R32 (v17)) => ?_)
      refine j_iadd dX11_ofBidder_96 ?_
      refine j_leti (w32_R _) (fun v18 hv18 => ?_)
      refine j_istore (lv' := [(4, 0, v18), (3, 0, v12), (0, 2, x0), (1, 0, x1), (2, 0, x2), (5, 0, x5)]) dX11_ofBidder_97 (Nat.le_of_ble_eq_true rfl) rfl ?_
      refine j_sub [2, 3, 4, 1, 0, 5] rfl ?_
      exact p_f_X11_ofBidder_b99 hd0 k45 x0 x1 x2 v12 v18 x5 S16 h0 h1 h2 hv12 hv18 h5
def f_X11_ofBidder_b45 : Int → Int → Int → Int → Int → Int → jSt → Option (Int × jSt) := jrep (β := Int → Int → Int → Int → Int → Int → jSt → Option (Int × jSt)) (fun _ _ _ _ _ _ _ => none) (fun r => f_X11_ofBidder_b45B r) jN
theorem p_f_X11_ofBidder_b45 {G : jG} {d : Nat} {S0 : jSt} (hd0 : 3 ≤ d) : ∀ (x0 : Int) (x1 : Int) (x2 : Int) (x3 : Int) (x4 : Int) (x5 : Int) (S : jSt), (0 ≤ (x0)) → (R32 (x1)) → (R32 (x2)) → (R32 (x3)) → (R32 (x4)) → (R32 (x5)) → J G yX11_ofBidder cX11_ofBidder 6 (some .int) d S0 45 [(0, 2, x0), (1, 0, x1), (2, 0, x2), (3, 0, x3), (4, 0, x4), (5, 0, x5)] [] S (f_X11_ofBidder_b45  x0 x1 x2 x3 x4 x5 S) :=
  jrep_ind (P := fun (r : Int → Int → Int → Int → Int → Int → jSt → Option (Int × jSt)) => ∀ (x0 : Int) (x1 : Int) (x2 : Int) (x3 : Int) (x4 : Int) (x5 : Int) (S : jSt), (0 ≤ (x0)) → (R32 (x1)) → (R32 (x2)) → (R32 (x3)) → (R32 (x4)) → (R32 (x5)) → J G yX11_ofBidder cX11_ofBidder 6 (some .int) d S0 45 [(0, 2, x0), (1, 0, x1), (2, 0, x2), (3, 0, x3), (4, 0, x4), (5, 0, x5)] [] S (r x0 x1 x2 x3 x4 x5 S)) (by intros; exact j_none) (fun r k => p_f_X11_ofBidder_b45B hd0 k) jN
def f_X11_ofBidder (a0 : Int) (a1 : Int) (a2 : Int) (S : jSt) : Option (Int × jSt) :=
  fgetr S a0 11 0 (fun v1 => fcallv S v1 10 (f_X10_hasBidder v1 a1 S) (fun v2 S3 => if v2 = 0 then f_X11_ofBidder_b20 S3 else fcall (f_X11_within a2 0 2 S3) (fun v4 S5 => if v4 = 0 then f_X11_ofBidder_b20 S5 else if a2 = 0 then fgetr S5 a0 11 1 (fun v19 => fgetr S5 v19 1 2 (fun v20 => fald S5 v20 a1 1 (fun v21 => some (v21, S5)))) else f_X11_ofBidder_b45 a0 a1 a2 0 0 0 S5)))
theorem e_X11_ofBidder {G : jG} {d : Nat} {S0 : jSt} (hd0 : 3 ≤ d) (a0 : Int) (a1 : Int) (a2 : Int) (S : jSt) (h0 : 0 ≤ (a0)) (h1 : R32 (a1)) (h2 : R32 (a2)) : J G yX11_ofBidder cX11_ofBidder 6 (some .int) d S0 0 [(0, 2, a0), (1, 0, a1), (2, 0, a2)] [] S (f_X11_ofBidder a0 a1 a2 S) := by
  unfold f_X11_ofBidder
  refine j_aload_n 0 dX11_ofBidder_0 rfl rfl ?_
  refine j_getr (ci := 11) (k := 0) rfl in_X11 (Nat.le_of_ble_eq_true rfl) rfl rfl fl_X11_10 dX11_ofBidder_1 (fun (v1 : Int) (hv1 : 0 ≤ v1) => ?_)
  refine j_iload_n 1 dX11_ofBidder_4 rfl rfl ?_
  refine j_callV (ci := 10) (As := [(0, a1)]) (st := []) kc_X10_hasBidder (c_X10_hasBidder v1 a1 S hv1 h1) rfl lm_X11_107 ki_X10_hasBidder ke_X10_hasBidder rfl (Nat.le_of_ble_eq_true rfl) (Nat.le_trans (m := 3) (Nat.le_of_ble_eq_true rfl) hd0) dX11_ofBidder_5 (fun (v2 : Int) (S3 : jSt) (hv2 : (v2) = 0 ∨ (v2) = 1) => ?_)
  refine j_if_eq (tgt := 20) (jZ_R hv2) dX11_ofBidder_8 rfl (fun _ => ?_) (fun _ => ?_)
  · refine j_sub [] rfl ?_
    exact p_f_X11_ofBidder_b20 hd0 S3
  · refine j_iload_n 2 dX11_ofBidder_11 rfl rfl ?_
    refine j_iconst dX11_ofBidder_12 ?_
    refine j_iconst dX11_ofBidder_13 ?_
    refine j_callS (As := [(0, a2), (0, 0), (0, 2)]) (st := []) kc_X11_within (c_X11_within a2 0 2 S3 h2 (jZ_R jz0) (j_r32 2 rfl)) lm_X11_76 ks_X11_within rfl (Nat.le_of_ble_eq_true rfl) (Nat.le_trans (m := 3) (Nat.le_of_ble_eq_true rfl) hd0) dX11_ofBidder_14 (fun (v4 : Int) (S5 : jSt) (hv4 : (v4) = 0 ∨ (v4) = 1) => ?_)
    refine j_if_ne (tgt := 23) (jZ_R hv4) dX11_ofBidder_17 rfl (fun _ => ?_) (fun _ => ?_)
    · refine j_iload_n 2 dX11_ofBidder_23 rfl rfl ?_
      refine j_if_ne (tgt := 37) h2 dX11_ofBidder_24 rfl (fun _ => ?_) (fun _ => ?_)
      · refine j_iconst dX11_ofBidder_37 ?_
        refine j_istore_n (lv' := [(3, 0, 0), (0, 2, a0), (1, 0, a1), (2, 0, a2)]) dX11_ofBidder_38 rfl (Nat.le_of_ble_eq_true rfl) rfl ?_
        refine j_iconst dX11_ofBidder_39 ?_
        refine j_istore (lv' := [(4, 0, 0), (3, 0, 0), (0, 2, a0), (1, 0, a1), (2, 0, a2)]) dX11_ofBidder_40 (Nat.le_of_ble_eq_true rfl) rfl ?_
        refine j_iconst dX11_ofBidder_42 ?_
        refine j_istore (lv' := [(5, 0, 0), (4, 0, 0), (3, 0, 0), (0, 2, a0), (1, 0, a1), (2, 0, a2)]) dX11_ofBidder_43 (Nat.le_of_ble_eq_true rfl) rfl ?_
        refine j_sub [3, 4, 5, 2, 1, 0] rfl ?_
        exact p_f_X11_ofBidder_b45 hd0 a0 a1 a2 0 0 0 S5 h0 h1 h2 (jZ_R jz0) (jZ_R jz0) (jZ_R jz0)
      · refine j_aload_n 0 dX11_ofBidder_27 rfl rfl ?_
        refine j_getr (ci := 11) (k := 1) rfl in_X11 (Nat.le_of_ble_eq_true rfl) rfl rfl fl_X11_19 dX11_ofBidder_28 (fun (v19 : Int) (hv19 : 0 ≤ v19) => ?_)
        refine j_getr (ci := 1) (k := 2) rfl in_X1 (Nat.le_of_ble_eq_true rfl) rfl rfl fl_X11_101 dX11_ofBidder_31 (fun (v20 : Int) (hv20 : 0 ≤ v20) => ?_)
        refine j_iload_n 1 dX11_ofBidder_34 rfl rfl ?_
        refine j_iaload h1 dX11_ofBidder_35 (fun (v21 : Int) (hv21 : R32 (v21)) => ?_)
        exact j_ireturn hv21 dX11_ofBidder_36
    · refine j_sub [] rfl ?_
      exact p_f_X11_ofBidder_b20 hd0 S5
theorem c_X11_ofBidder {G : jG} (a0 : Int) (a1 : Int) (a2 : Int) (S : jSt) (h0 : 0 ≤ (a0)) (h1 : R32 (a1)) (h2 : R32 (a2)) : CT G yX11_ofBidder cX11_ofBidder 6 (some .int) 3 ([(2, a0), (0, a1), (0, a2)].map jval) S (f_X11_ofBidder a0 a1 a2 S) := ct_of [(2, a0), (0, a1), (0, a2)] (by decide) rfl (Nat.le_of_ble_eq_true rfl) (e_X11_ofBidder (Nat.le_refl _) a0 a1 a2 S h0 h1 h2)
-- X11_order
def f_X11_order_b36 (S : jSt) : Option (Int × jSt) :=
  some ((-2), S)
theorem p_f_X11_order_b36 {G : jG} {d : Nat} {S0 : jSt} (hd0 : 107 ≤ d) : ∀ (S : jSt), J G yX11_order cX11_order 5 (some .int) d S0 36 [] [] S (f_X11_order_b36   S) := by
  intro S
  unfold f_X11_order_b36
  refine j_bipush dX11_order_36 (by decide) ?_
  exact j_ireturn (j_r32 (-2) rfl) dX11_order_38
def f_X11_order_b132 (x0 : Int) (S : jSt) : Option (Int × jSt) :=
  some (x0, S)
theorem p_f_X11_order_b132 {G : jG} {d : Nat} {S0 : jSt} (hd0 : 107 ≤ d) : ∀ (x0 : Int) (S : jSt), (R32 (x0)) → J G yX11_order cX11_order 5 (some .int) d S0 132 [] [(0, x0)] S (f_X11_order_b132  x0 S) := by
  intro x0 S h0
  unfold f_X11_order_b132
  exact j_ireturn h0 dX11_order_132
def f_X11_order_b79 (r42 : Int → Int → Int → Int → jSt → Option (Int × jSt)) (x0 : Int) (x1 : Int) (x2 : Int) (x3 : Int) (S : jSt) : Option (Int × jSt) :=
  flet (w32 (x3 + 1)) (fun v25 => r42 x0 x1 x2 v25 S)
theorem p_f_X11_order_b79 {G : jG} {d : Nat} {S0 : jSt} (hd0 : 107 ≤ d) {r42 : Int → Int → Int → Int → jSt → Option (Int × jSt)} (k42 : ∀ (x0 : Int) (x1 : Int) (x2 : Int) (x3 : Int) (S : jSt), (0 ≤ (x0)) → (R32 (x1)) → (R32 (x2)) → (R32 (x3)) → J G yX11_order cX11_order 5 (some .int) d S0 42 [(0, 2, x0), (1, 0, x1), (2, 0, x2), (4, 0, x3)] [] S (r42 x0 x1 x2 x3 S)) : ∀ (x0 : Int) (x1 : Int) (x2 : Int) (x3 : Int) (S : jSt), (0 ≤ (x0)) → (R32 (x1)) → (R32 (x2)) → (R32 (x3)) → J G yX11_order cX11_order 5 (some .int) d S0 79 [(0, 2, x0), (1, 0, x1), (2, 0, x2), (4, 0, x3)] [] S (f_X11_order_b79 r42 x0 x1 x2 x3 S) := by
  intro x0 x1 x2 x3 S h0 h1 h2 h3
  unfold f_X11_order_b79
  refine j_iincL (q := 3) dX11_order_79 rfl (Nat.le_of_ble_eq_true rfl) (fun v25 hv25 => ?_)
  refine j_lv (lv' := [(4, 0, v25), (0, 2, x0), (1, 0, x1), (2, 0, x2)]) rfl ?_
  refine j_goto (tgt := 42) dX11_order_82 rfl ?_
  refine j_sub [1, 2, 3, 0] rfl ?_
  exact k42 x0 x1 x2 v25 S h0 h1 h2 hv25
def f_X11_order_b42B (r42 : Int → Int → Int → Int → jSt → Option (Int × jSt)) (x0 : Int) (x1 : Int) (x2 : Int) (x3 : Int) (S : jSt) : Option (Int × jSt) :=
  fgetr S x0 11 0 (fun v10 => fget S v10 10 0 (fun v11 => if v11 ≤ x3 then fgetr S x0 11 10 (fun v12 => fgetr S x0 11 1 (fun v13 => fcallv S v12 1 (f_X1_copyFrom v12 v13 S) (fun v14 S15 => fgetr S15 x0 11 9 (fun v16 => fgetr S15 x0 11 10 (fun v17 => fcallv S15 v16 0 (f_X0_findOrder v16 v17 x1 S15) (fun v18 S19 => if x2 = (-1) then fgetr S19 x0 11 9 (fun v23 => fget S19 v23 0 0 (fun v24 => f_X11_order_b132 v24 S19)) else fgetr S19 x0 11 9 (fun v20 => fgetr S19 v20 0 1 (fun v21 => fald S19 v21 x2 1 (fun v22 => f_X11_order_b132 v22 S19))))))))) else if (iand32 (ishr32 x1 x3) 1) = 0 then f_X11_order_b79 r42 x0 x1 x2 x3 S else fgetr S x0 11 1 (fun v26 => fgetr S v26 1 0 (fun v27 => fald S v27 x3 1 (fun v28 => if v28 = 0 then f_X11_order_b79 r42 x0 x1 x2 x3 S else some ((-2), S))))))
theorem p_f_X11_order_b42B {G : jG} {d : Nat} {S0 : jSt} (hd0 : 107 ≤ d) {r42 : Int → Int → Int → Int → jSt → Option (Int × jSt)} (k42 : ∀ (x0 : Int) (x1 : Int) (x2 : Int) (x3 : Int) (S : jSt), (0 ≤ (x0)) → (R32 (x1)) → (R32 (x2)) → (R32 (x3)) → J G yX11_order cX11_order 5 (some .int) d S0 42 [(0, 2, x0), (1, 0, x1), (2, 0, x2), (4, 0, x3)] [] S (r42 x0 x1 x2 x3 S)) : ∀ (x0 : Int) (x1 : Int) (x2 : Int) (x3 : Int) (S : jSt), (0 ≤ (x0)) → (R32 (x1)) → (R32 (x2)) → (R32 (x3)) → J G yX11_order cX11_order 5 (some .int) d S0 42 [(0, 2, x0), (1, 0, x1), (2, 0, x2), (4, 0, x3)] [] S (f_X11_order_b42B r42 x0 x1 x2 x3 S) := by
  intro x0 x1 x2 x3 S h0 h1 h2 h3
  unfold f_X11_order_b42B
  refine j_iload 3 dX11_order_42 rfl ?_
  refine j_aload_n 0 dX11_order_44 rfl rfl ?_
  refine j_getr (ci := 11) (k := 0) rfl in_X11 (Nat.le_of_ble_eq_true rfl) rfl rfl fl_X11_10 dX11_order_45 (fun (v10 : Int) (hv10 : 0 ≤ v10) => ?_)
  refine j_get (ci := 10) (k := 0) (t := 0) rfl in_X10 (Nat.le_of_ble_eq_true rfl) rfl rfl fl_X11_80 dX11_order_48 (fun (v11 : Int) (hv11 : R32 (v11)) => ?_)
  refine j_icmp_ge (tgt := 85) h3 hv11 dX11_order_51 rfl (fun _ => ?_) (fun _ => ?_)
  · refine j_aload_n 0 dX11_order_85 rfl rfl ?_
    refine j_getr (ci := 11) (k := 10) rfl in_X11 (Nat.le_of_ble_eq_true rfl) rfl rfl fl_X11_73 dX11_order_86 (fun (v12 : Int) (hv12 : 0 ≤ v12) => ?_)
    refine j_aload_n 0 dX11_order_89 rfl rfl ?_
    refine j_getr (ci := 11) (k := 1) rfl in_X11 (Nat.le_of_ble_eq_true rfl) rfl rfl fl_X11_19 dX11_order_90 (fun (v13 : Int) (hv13 : 0 ≤ v13) => ?_)
    refine j_callV (ci := 1) (As := [(2, v13)]) (st := []) kc_X1_copyFrom (c_X1_copyFrom v12 v13 S hv12 hv13) rfl lm_X11_294 ki_X1_copyFrom ke_X1_copyFrom rfl (Nat.le_of_ble_eq_true rfl) (Nat.le_trans (m := 107) (Nat.le_of_ble_eq_true rfl) hd0) dX11_order_93 (fun v14 S15 _ => ?_)
    refine j_aload_n 0 dX11_order_96 rfl rfl ?_
    refine j_getr (ci := 11) (k := 9) rfl in_X11 (Nat.le_of_ble_eq_true rfl) rfl rfl fl_X11_69 dX11_order_97 (fun (v16 : Int) (hv16 : 0 ≤ v16) => ?_)
    refine j_aload_n 0 dX11_order_100 rfl rfl ?_
    refine j_getr (ci := 11) (k := 10) rfl in_X11 (Nat.le_of_ble_eq_true rfl) rfl rfl fl_X11_73 dX11_order_101 (fun (v17 : Int) (hv17 : 0 ≤ v17) => ?_)
    refine j_iload_n 1 dX11_order_104 rfl rfl ?_
    refine j_callV (ci := 0) (As := [(2, v17), (0, x1)]) (st := []) kc_X0_findOrder (c_X0_findOrder v16 v17 x1 S15 hv16 hv17 h1) rfl lm_X11_305 ki_X0_findOrder ke_X0_findOrder rfl (Nat.le_of_ble_eq_true rfl) (Nat.le_trans (m := 107) (Nat.le_of_ble_eq_true rfl) hd0) dX11_order_105 (fun v18 S19 _ => ?_)
    refine j_iload_n 2 dX11_order_108 rfl rfl ?_
    refine j_iconst dX11_order_109 ?_
    refine j_icmp_ne (tgt := 123) h2 (j_r32 (-1) rfl) dX11_order_110 rfl (fun _ => ?_) (fun _ => ?_)
    · refine j_aload_n 0 dX11_order_123 rfl rfl ?_
      refine j_getr (ci := 11) (k := 9) rfl in_X11 (Nat.le_of_ble_eq_true rfl) rfl rfl fl_X11_69 dX11_order_124 (fun (v20 : Int) (hv20 : 0 ≤ v20) => ?_)
      refine j_getr (ci := 0) (k := 1) rfl in_X0 (Nat.le_of_ble_eq_true rfl) rfl rfl fl_X11_311 dX11_order_127 (fun (v21 : Int) (hv21 : 0 ≤ v21) => ?_)
      refine j_iload_n 2 dX11_order_130 rfl rfl ?_
      refine j_iaload h2 dX11_order_131 (fun (v22 : Int) (hv22 : R32 (v22)) => ?_)
      refine j_sub [] rfl ?_
      exact p_f_X11_order_b132 hd0 v22 S19 hv22
    · refine j_aload_n 0 dX11_order_113 rfl rfl ?_
      refine j_getr (ci := 11) (k := 9) rfl in_X11 (Nat.le_of_ble_eq_true rfl) rfl rfl fl_X11_69 dX11_order_114 (fun (v23 : Int) (hv23 : 0 ≤ v23) => ?_)
      refine j_get (ci := 0) (k := 0) (t := 0) rfl in_X0 (Nat.le_of_ble_eq_true rfl) rfl rfl fl_X11_308 dX11_order_117 (fun (v24 : Int) (hv24 : R32 (v24)) => ?_)
      refine j_goto (tgt := 132) dX11_order_120 rfl ?_
      refine j_sub [] rfl ?_
      exact p_f_X11_order_b132 hd0 v24 S19 hv24
  · refine j_iload_n 1 dX11_order_54 rfl rfl ?_
    refine j_iload 3 dX11_order_55 rfl ?_
    refine j_ishr dX11_order_57 ?_
    refine j_iconst dX11_order_58 ?_
    refine j_iand dX11_order_59 ?_
    refine j_if_eq (tgt := 79) (iand32_R _ _) dX11_order_60 rfl (fun _ => ?_) (fun _ => ?_)
    · exact p_f_X11_order_b79 hd0 k42 x0 x1 x2 x3 S h0 h1 h2 h3
    · refine j_aload_n 0 dX11_order_63 rfl rfl ?_
      refine j_getr (ci := 11) (k := 1) rfl in_X11 (Nat.le_of_ble_eq_true rfl) rfl rfl fl_X11_19 dX11_order_64 (fun (v26 : Int) (hv26 : 0 ≤ v26) => ?_)
      refine j_getr (ci := 1) (k := 0) rfl in_X1 (Nat.le_of_ble_eq_true rfl) rfl rfl fl_X11_182 dX11_order_67 (fun (v27 : Int) (hv27 : 0 ≤ v27) => ?_)
      refine j_iload 3 dX11_order_70 rfl ?_
      refine j_iaload h3 dX11_order_72 (fun (v28 : Int) (hv28 : R32 (v28)) => ?_)
      refine j_if_eq (tgt := 79) hv28 dX11_order_73 rfl (fun _ => ?_) (fun _ => ?_)
      · exact p_f_X11_order_b79 hd0 k42 x0 x1 x2 x3 S h0 h1 h2 h3
      · refine j_bipush dX11_order_76 (by decide) ?_
        exact j_ireturn (j_r32 (-2) rfl) dX11_order_78
def f_X11_order_b42 : Int → Int → Int → Int → jSt → Option (Int × jSt) := jrep (β := Int → Int → Int → Int → jSt → Option (Int × jSt)) (fun _ _ _ _ _ => none) (fun r => f_X11_order_b42B r) jN
theorem p_f_X11_order_b42 {G : jG} {d : Nat} {S0 : jSt} (hd0 : 107 ≤ d) : ∀ (x0 : Int) (x1 : Int) (x2 : Int) (x3 : Int) (S : jSt), (0 ≤ (x0)) → (R32 (x1)) → (R32 (x2)) → (R32 (x3)) → J G yX11_order cX11_order 5 (some .int) d S0 42 [(0, 2, x0), (1, 0, x1), (2, 0, x2), (4, 0, x3)] [] S (f_X11_order_b42  x0 x1 x2 x3 S) :=
  jrep_ind (P := fun (r : Int → Int → Int → Int → jSt → Option (Int × jSt)) => ∀ (x0 : Int) (x1 : Int) (x2 : Int) (x3 : Int) (S : jSt), (0 ≤ (x0)) → (R32 (x1)) → (R32 (x2)) → (R32 (x3)) → J G yX11_order cX11_order 5 (some .int) d S0 42 [(0, 2, x0), (1, 0, x1), (2, 0, x2), (4, 0, x3)] [] S (r x0 x1 x2 x3 S)) (by intros; exact j_none) (fun r k => p_f_X11_order_b42B hd0 k) jN
def f_X11_order (a0 : Int) (a1 : Int) (a2 : Int) (S : jSt) : Option (Int × jSt) :=
  fcall (f_J6_bitCount_0f7a4 a1 S) (fun v1 S2 => fgetr S2 a0 11 0 (fun v3 => fcallv S2 v3 10 (f_X10_hasLots v3 a1 S2) (fun v4 S5 => if v4 = 0 then f_X11_order_b36 S5 else fcall (f_X11_within v1 1 5 S5) (fun v6 S7 => if v6 = 0 then f_X11_order_b36 S7 else fcall (f_X11_within a2 (-1) (w32 (v1 - 1)) S7) (fun v8 S9 => if v8 = 0 then f_X11_order_b36 S9 else f_X11_order_b42 a0 a1 a2 0 S9)))))
theorem e_X11_order {G : jG} {d : Nat} {S0 : jSt} (hd0 : 107 ≤ d) (a0 : Int) (a1 : Int) (a2 : Int) (S : jSt) (h0 : 0 ≤ (a0)) (h1 : R32 (a1)) (h2 : R32 (a2)) : J G yX11_order cX11_order 5 (some .int) d S0 0 [(0, 2, a0), (1, 0, a1), (2, 0, a2)] [] S (f_X11_order a0 a1 a2 S) := by
  unfold f_X11_order
  refine j_iload_n 1 dX11_order_0 rfl rfl ?_
  refine j_callS (As := [(0, a1)]) (st := []) kc_J6_bitCount_0f7a4 (c_J6_bitCount_0f7a4 a1 S h1) lm_X11_297 ks_J6_bitCount_0f7a4 rfl (Nat.le_of_ble_eq_true rfl) (Nat.le_trans (m := 107) (Nat.le_of_ble_eq_true rfl) hd0) dX11_order_1 (fun (v1 : Int) (S2 : jSt) (hv1 : R32 (v1)) => ?_)
  refine j_istore_n (lv' := [(3, 0, v1), (0, 2, a0), (1, 0, a1), (2, 0, a2)]) dX11_order_4 rfl (Nat.le_of_ble_eq_true rfl) rfl ?_
  refine j_aload_n 1 dX11_order_5 rfl rfl ?_
  refine j_getr (ci := 11) (k := 0) rfl in_X11 (Nat.le_of_ble_eq_true rfl) rfl rfl fl_X11_10 dX11_order_6 (fun (v3 : Int) (hv3 : 0 ≤ v3) => ?_)
  refine j_iload_n 2 dX11_order_9 rfl rfl ?_
  refine j_callV (ci := 10) (As := [(0, a1)]) (st := []) kc_X10_hasLots (c_X10_hasLots v3 a1 S2 hv3 h1) rfl lm_X11_302 ki_X10_hasLots ke_X10_hasLots rfl (Nat.le_of_ble_eq_true rfl) (Nat.le_trans (m := 107) (Nat.le_of_ble_eq_true rfl) hd0) dX11_order_10 (fun (v4 : Int) (S5 : jSt) (hv4 : (v4) = 0 ∨ (v4) = 1) => ?_)
  refine j_if_eq (tgt := 36) (jZ_R hv4) dX11_order_13 rfl (fun _ => ?_) (fun _ => ?_)
  · refine j_sub [] rfl ?_
    exact p_f_X11_order_b36 hd0 S5
  · refine j_iload_n 0 dX11_order_16 rfl rfl ?_
    refine j_iconst dX11_order_17 ?_
    refine j_iconst dX11_order_18 ?_
    refine j_callS (As := [(0, v1), (0, 1), (0, 5)]) (st := []) kc_X11_within (c_X11_within v1 1 5 S5 hv1 (jZ_R jz1) (j_r32 5 rfl)) lm_X11_76 ks_X11_within rfl (Nat.le_of_ble_eq_true rfl) (Nat.le_trans (m := 107) (Nat.le_of_ble_eq_true rfl) hd0) dX11_order_19 (fun (v6 : Int) (S7 : jSt) (hv6 : (v6) = 0 ∨ (v6) = 1) => ?_)
    refine j_if_eq (tgt := 36) (jZ_R hv6) dX11_order_22 rfl (fun _ => ?_) (fun _ => ?_)
    · refine j_sub [] rfl ?_
      exact p_f_X11_order_b36 hd0 S7
    · refine j_iload_n 3 dX11_order_25 rfl rfl ?_
      refine j_iconst dX11_order_26 ?_
      refine j_iload_n 0 dX11_order_27 rfl rfl ?_
      refine j_iconst dX11_order_28 ?_
      refine j_isub dX11_order_29 ?_
      refine j_callS (As := [(0, a2), (0, (-1)), (0, w32 (v1 - 1))]) (st := []) kc_X11_within (c_X11_within a2 (-1) (w32 (v1 - 1)) S7 h2 (j_r32 (-1) rfl) (w32_R _)) lm_X11_76 ks_X11_within rfl (Nat.le_of_ble_eq_true rfl) (Nat.le_trans (m := 107) (Nat.le_of_ble_eq_true rfl) hd0) dX11_order_30 (fun (v8 : Int) (S9 : jSt) (hv8 : (v8) = 0 ∨ (v8) = 1) => ?_)
      refine j_if_ne (tgt := 39) (jZ_R hv8) dX11_order_33 rfl (fun _ => ?_) (fun _ => ?_)
      · refine j_iconst dX11_order_39 ?_
        refine j_istore (lv' := [(4, 0, 0), (3, 0, v1), (0, 2, a0), (1, 0, a1), (2, 0, a2)]) dX11_order_40 (Nat.le_of_ble_eq_true rfl) rfl ?_
        refine j_sub [2, 3, 4, 0] rfl ?_
        exact p_f_X11_order_b42 hd0 a0 a1 a2 0 S9 h0 h1 h2 (jZ_R jz0)
      · refine j_sub [] rfl ?_
        exact p_f_X11_order_b36 hd0 S9
theorem c_X11_order {G : jG} (a0 : Int) (a1 : Int) (a2 : Int) (S : jSt) (h0 : 0 ≤ (a0)) (h1 : R32 (a1)) (h2 : R32 (a2)) : CT G yX11_order cX11_order 5 (some .int) 107 ([(2, a0), (0, a1), (0, a2)].map jval) S (f_X11_order a0 a1 a2 S) := ct_of [(2, a0), (0, a1), (0, a2)] (by decide) rfl (Nat.le_of_ble_eq_true rfl) (e_X11_order (Nat.le_refl _) a0 a1 a2 S h0 h1 h2)
-- X11_passWeeks
def f_X11_passWeeks_b4B (r4 : Int → Int → Int → Int → jSt → Option (Int × jSt)) (x0 : Int) (x1 : Int) (x2 : Int) (x3 : Int) (S : jSt) : Option (Int × jSt) :=
  if x1 ≤ x3 then some (x2, S) else fgetr S x0 11 2 (fun v1 => fgetr S x0 11 1 (fun v2 => fcallv S v1 8 (f_X8_push v1 v2 S) (fun v3 S4 => fgetr S4 x0 11 8 (fun v5 => fgetr S4 x0 11 1 (fun v6 => fcallv S4 v5 5 (f_X5_passWeek v5 v6 S4) (fun v7 S8 => flet (w32 (x2 + v7)) (fun v9 => flet (w32 (x3 + 1)) (fun v10 => r4 x0 x1 v9 v10 S8))))))))
theorem p_f_X11_passWeeks_b4B {G : jG} {d : Nat} {S0 : jSt} (hd0 : 6 ≤ d) {r4 : Int → Int → Int → Int → jSt → Option (Int × jSt)} (k4 : ∀ (x0 : Int) (x1 : Int) (x2 : Int) (x3 : Int) (S : jSt), (0 ≤ (x0)) → (R32 (x1)) → (R32 (x2)) → (R32 (x3)) → J G yX11_passWeeks cX11_passWeeks 4 (some .int) d S0 4 [(0, 2, x0), (1, 0, x1), (2, 0, x2), (3, 0, x3)] [] S (r4 x0 x1 x2 x3 S)) : ∀ (x0 : Int) (x1 : Int) (x2 : Int) (x3 : Int) (S : jSt), (0 ≤ (x0)) → (R32 (x1)) → (R32 (x2)) → (R32 (x3)) → J G yX11_passWeeks cX11_passWeeks 4 (some .int) d S0 4 [(0, 2, x0), (1, 0, x1), (2, 0, x2), (3, 0, x3)] [] S (f_X11_passWeeks_b4B r4 x0 x1 x2 x3 S) := by
  intro x0 x1 x2 x3 S h0 h1 h2 h3
  unfold f_X11_passWeeks_b4B
  refine j_iload_n 3 dX11_passWeeks_4 rfl rfl ?_
  refine j_iload_n 1 dX11_passWeeks_5 rfl rfl ?_
  refine j_icmp_ge (tgt := 40) h3 h1 dX11_passWeeks_6 rfl (fun _ => ?_) (fun _ => ?_)
  · refine j_iload_n 2 dX11_passWeeks_40 rfl rfl ?_
    exact j_ireturn h2 dX11_passWeeks_41
  · refine j_aload_n 0 dX11_passWeeks_9 rfl rfl ?_
    refine j_getr (ci := 11) (k := 2) rfl in_X11 (Nat.le_of_ble_eq_true rfl) rfl rfl fl_X11_26 dX11_passWeeks_10 (fun (v1 : Int) (hv1 : 0 ≤ v1) => ?_)
    refine j_aload_n 0 dX11_passWeeks_13 rfl rfl ?_
    refine j_getr (ci := 11) (k := 1) rfl in_X11 (Nat.le_of_ble_eq_true rfl) rfl rfl fl_X11_19 dX11_passWeeks_14 (fun (v2 : Int) (hv2 : 0 ≤ v2) => ?_)
    refine j_callV (ci := 8) (As := [(2, v2)]) (st := []) kc_X8_push (c_X8_push v1 v2 S hv1 hv2) rfl lm_X11_162 ki_X8_push ke_X8_push rfl (Nat.le_of_ble_eq_true rfl) (Nat.le_trans (m := 6) (Nat.le_of_ble_eq_true rfl) hd0) dX11_passWeeks_17 (fun v3 S4 _ => ?_)
    refine j_iload_n 2 dX11_passWeeks_20 rfl rfl ?_
    refine j_aload_n 0 dX11_passWeeks_21 rfl rfl ?_
    refine j_getr (ci := 11) (k := 8) rfl in_X11 (Nat.le_of_ble_eq_true rfl) rfl rfl fl_X11_60 dX11_passWeeks_22 (fun (v5 : Int) (hv5 : 0 ≤ v5) => ?_)
    refine j_aload_n 0 dX11_passWeeks_25 rfl rfl ?_
    refine j_getr (ci := 11) (k := 1) rfl in_X11 (Nat.le_of_ble_eq_true rfl) rfl rfl fl_X11_19 dX11_passWeeks_26 (fun (v6 : Int) (hv6 : 0 ≤ v6) => ?_)
    refine j_callV (ci := 5) (As := [(2, v6)]) (st := [(0, x2)]) kc_X5_passWeek (c_X5_passWeek v5 v6 S4 hv5 hv6) rfl lm_X11_226 ki_X5_passWeek ke_X5_passWeek rfl (Nat.le_of_ble_eq_true rfl) (Nat.le_trans (m := 6) (Nat.le_of_ble_eq_true rfl) hd0) dX11_passWeeks_29 (fun (v7 : Int) (S8 : jSt) (hv7 : R32 (v7)) => ?_)
    refine j_iadd dX11_passWeeks_32 ?_
    refine j_leti (w32_R _) (fun v9 hv9 => ?_)
    refine j_istore_n (lv' := [(2, 0, v9), (0, 2, x0), (1, 0, x1), (3, 0, x3)]) dX11_passWeeks_33 rfl (Nat.le_of_ble_eq_true rfl) rfl ?_
    refine j_iincL (q := 3) dX11_passWeeks_34 rfl (Nat.le_of_ble_eq_true rfl) (fun v10 hv10 => ?_)
    refine j_lv (lv' := [(3, 0, v10), (2, 0, v9), (0, 2, x0), (1, 0, x1)]) rfl ?_
    refine j_goto (tgt := 4) dX11_passWeeks_37 rfl ?_
    refine j_sub [2, 3, 1, 0] rfl ?_
    exact k4 x0 x1 v9 v10 S8 h0 h1 hv9 hv10
def f_X11_passWeeks_b4 : Int → Int → Int → Int → jSt → Option (Int × jSt) := jrep (β := Int → Int → Int → Int → jSt → Option (Int × jSt)) (fun _ _ _ _ _ => none) (fun r => f_X11_passWeeks_b4B r) jN
theorem p_f_X11_passWeeks_b4 {G : jG} {d : Nat} {S0 : jSt} (hd0 : 6 ≤ d) : ∀ (x0 : Int) (x1 : Int) (x2 : Int) (x3 : Int) (S : jSt), (0 ≤ (x0)) → (R32 (x1)) → (R32 (x2)) → (R32 (x3)) → J G yX11_passWeeks cX11_passWeeks 4 (some .int) d S0 4 [(0, 2, x0), (1, 0, x1), (2, 0, x2), (3, 0, x3)] [] S (f_X11_passWeeks_b4  x0 x1 x2 x3 S) :=
  jrep_ind (P := fun (r : Int → Int → Int → Int → jSt → Option (Int × jSt)) => ∀ (x0 : Int) (x1 : Int) (x2 : Int) (x3 : Int) (S : jSt), (0 ≤ (x0)) → (R32 (x1)) → (R32 (x2)) → (R32 (x3)) → J G yX11_passWeeks cX11_passWeeks 4 (some .int) d S0 4 [(0, 2, x0), (1, 0, x1), (2, 0, x2), (3, 0, x3)] [] S (r x0 x1 x2 x3 S)) (by intros; exact j_none) (fun r k => p_f_X11_passWeeks_b4B hd0 k) jN
def f_X11_passWeeks (a0 : Int) (a1 : Int) (S : jSt) : Option (Int × jSt) :=
  f_X11_passWeeks_b4 a0 a1 0 0 S
theorem e_X11_passWeeks {G : jG} {d : Nat} {S0 : jSt} (hd0 : 6 ≤ d) (a0 : Int) (a1 : Int) (S : jSt) (h0 : 0 ≤ (a0)) (h1 : R32 (a1)) : J G yX11_passWeeks cX11_passWeeks 4 (some .int) d S0 0 [(0, 2, a0), (1, 0, a1)] [] S (f_X11_passWeeks a0 a1 S) := by
  unfold f_X11_passWeeks
  refine j_iconst dX11_passWeeks_0 ?_
  refine j_istore_n (lv' := [(2, 0, 0), (0, 2, a0), (1, 0, a1)]) dX11_passWeeks_1 rfl (Nat.le_of_ble_eq_true rfl) rfl ?_
  refine j_iconst dX11_passWeeks_2 ?_
  refine j_istore_n (lv' := [(3, 0, 0), (2, 0, 0), (0, 2, a0), (1, 0, a1)]) dX11_passWeeks_3 rfl (Nat.le_of_ble_eq_true rfl) rfl ?_
  refine j_sub [2, 3, 1, 0] rfl ?_
  exact p_f_X11_passWeeks_b4 hd0 a0 a1 0 0 S h0 h1 (jZ_R jz0) (jZ_R jz0)
theorem c_X11_passWeeks {G : jG} (a0 : Int) (a1 : Int) (S : jSt) (h0 : 0 ≤ (a0)) (h1 : R32 (a1)) : CT G yX11_passWeeks cX11_passWeeks 4 (some .int) 6 ([(2, a0), (0, a1)].map jval) S (f_X11_passWeeks a0 a1 S) := ct_of [(2, a0), (0, a1)] (by decide) rfl (Nat.le_of_ble_eq_true rfl) (e_X11_passWeeks (Nat.le_refl _) a0 a1 S h0 h1)
-- X11_pays
def f_X11_pays (a0 : Int) (a1 : Int) (S : jSt) : Option (Int × jSt) :=
  fgetr S a0 11 0 (fun v1 => fcallv S v1 10 (f_X10_hasBidder v1 a1 S) (fun v2 S3 => if v2 = 0 then some ((-1), S3) else fgetr S3 a0 11 9 (fun v4 => fgetr S3 a0 11 9 (fun v5 => fcallv S3 v5 0 (f_X0_bestBundles v5 a1 S3) (fun v6 S7 => fcallv S7 v4 0 (f_X0_pricesOf v4 v6 (-1) S7) (fun v8 S9 => fgetr S9 a0 11 9 (fun v10 => fgetr S9 a0 11 9 (fun v11 => fcallv S9 v11 0 (f_X0_bestBundles v11 (-1) S9) (fun v12 S13 => fcallv S13 v10 0 (f_X0_pricesOf v10 v12 a1 S13) (fun v14 S15 => some (w32 (v8 - v14), S15)))))))))))
theorem e_X11_pays {G : jG} {d : Nat} {S0 : jSt} (hd0 : 3 ≤ d) (a0 : Int) (a1 : Int) (S : jSt) (h0 : 0 ≤ (a0)) (h1 : R32 (a1)) : J G yX11_pays cX11_pays 3 (some .int) d S0 0 [(0, 2, a0), (1, 0, a1)] [] S (f_X11_pays a0 a1 S) := by
  unfold f_X11_pays
  refine j_aload_n 0 dX11_pays_0 rfl rfl ?_
  refine j_getr (ci := 11) (k := 0) rfl in_X11 (Nat.le_of_ble_eq_true rfl) rfl rfl fl_X11_10 dX11_pays_1 (fun (v1 : Int) (hv1 : 0 ≤ v1) => ?_)
  refine j_iload_n 1 dX11_pays_4 rfl rfl ?_
  refine j_callV (ci := 10) (As := [(0, a1)]) (st := []) kc_X10_hasBidder (c_X10_hasBidder v1 a1 S hv1 h1) rfl lm_X11_107 ki_X10_hasBidder ke_X10_hasBidder rfl (Nat.le_of_ble_eq_true rfl) (Nat.le_trans (m := 3) (Nat.le_of_ble_eq_true rfl) hd0) dX11_pays_5 (fun (v2 : Int) (S3 : jSt) (hv2 : (v2) = 0 ∨ (v2) = 1) => ?_)
  refine j_if_ne (tgt := 13) (jZ_R hv2) dX11_pays_8 rfl (fun _ => ?_) (fun _ => ?_)
  · refine j_aload_n 0 dX11_pays_13 rfl rfl ?_
    refine j_getr (ci := 11) (k := 9) rfl in_X11 (Nat.le_of_ble_eq_true rfl) rfl rfl fl_X11_69 dX11_pays_14 (fun (v4 : Int) (hv4 : 0 ≤ v4) => ?_)
    refine j_aload_n 0 dX11_pays_17 rfl rfl ?_
    refine j_getr (ci := 11) (k := 9) rfl in_X11 (Nat.le_of_ble_eq_true rfl) rfl rfl fl_X11_69 dX11_pays_18 (fun (v5 : Int) (hv5 : 0 ≤ v5) => ?_)
    refine j_iload_n 1 dX11_pays_21 rfl rfl ?_
    refine j_callV (ci := 0) (As := [(0, a1)]) (st := [(2, v4)]) kc_X0_bestBundles (c_X0_bestBundles v5 a1 S3 hv5 h1) rfl lm_X11_326 ki_X0_bestBundles ke_X0_bestBundles rfl (Nat.le_of_ble_eq_true rfl) (Nat.le_trans (m := 3) (Nat.le_of_ble_eq_true rfl) hd0) dX11_pays_22 (fun (v6 : Int) (S7 : jSt) (hv6 : R32 (v6)) => ?_)
    refine j_iconst dX11_pays_25 ?_
    refine j_callV (ci := 0) (As := [(0, v6), (0, (-1))]) (st := []) kc_X0_pricesOf (c_X0_pricesOf v4 v6 (-1) S7 hv4 hv6 (j_r32 (-1) rfl)) rfl lm_X11_329 ki_X0_pricesOf ke_X0_pricesOf rfl (Nat.le_of_ble_eq_true rfl) (Nat.le_trans (m := 3) (Nat.le_of_ble_eq_true rfl) hd0) dX11_pays_26 (fun (v8 : Int) (S9 : jSt) (hv8 : R32 (v8)) => ?_)
    refine j_istore_n (lv' := [(2, 0, v8), (0, 2, a0), (1, 0, a1)]) dX11_pays_29 rfl (Nat.le_of_ble_eq_true rfl) rfl ?_
    refine j_iload_n 0 dX11_pays_30 rfl rfl ?_
    refine j_aload_n 1 dX11_pays_31 rfl rfl ?_
    refine j_getr (ci := 11) (k := 9) rfl in_X11 (Nat.le_of_ble_eq_true rfl) rfl rfl fl_X11_69 dX11_pays_32 (fun (v10 : Int) (hv10 : 0 ≤ v10) => ?_)
    refine j_aload_n 1 dX11_pays_35 rfl rfl ?_
    refine j_getr (ci := 11) (k := 9) rfl in_X11 (Nat.le_of_ble_eq_true rfl) rfl rfl fl_X11_69 dX11_pays_36 (fun (v11 : Int) (hv11 : 0 ≤ v11) => ?_)
    refine j_iconst dX11_pays_39 ?_
    refine j_callV (ci := 0) (As := [(0, (-1))]) (st := [(2, v10), (0, v8)]) kc_X0_bestBundles (c_X0_bestBundles v11 (-1) S9 hv11 (j_r32 (-1) rfl)) rfl lm_X11_326 ki_X0_bestBundles ke_X0_bestBundles rfl (Nat.le_of_ble_eq_true rfl) (Nat.le_trans (m := 3) (Nat.le_of_ble_eq_true rfl) hd0) dX11_pays_40 (fun (v12 : Int) (S13 : jSt) (hv12 : R32 (v12)) => ?_)
    refine j_iload_n 2 dX11_pays_43 rfl rfl ?_
    refine j_callV (ci := 0) (As := [(0, v12), (0, a1)]) (st := [(0, v8)]) kc_X0_pricesOf (c_X0_pricesOf v10 v12 a1 S13 hv10 hv12 h1) rfl lm_X11_329 ki_X0_pricesOf ke_X0_pricesOf rfl (Nat.le_of_ble_eq_true rfl) (Nat.le_trans (m := 3) (Nat.le_of_ble_eq_true rfl) hd0) dX11_pays_44 (fun (v14 : Int) (S15 : jSt) (hv14 : R32 (v14)) => ?_)
    refine j_isub dX11_pays_47 ?_
    exact j_ireturn (w32_R _) dX11_pays_48
  · refine j_iconst dX11_pays_11 ?_
    exact j_ireturn (j_r32 (-1) rfl) dX11_pays_12
theorem c_X11_pays {G : jG} (a0 : Int) (a1 : Int) (S : jSt) (h0 : 0 ≤ (a0)) (h1 : R32 (a1)) : CT G yX11_pays cX11_pays 3 (some .int) 3 ([(2, a0), (0, a1)].map jval) S (f_X11_pays a0 a1 S) := ct_of [(2, a0), (0, a1)] (by decide) rfl (Nat.le_of_ble_eq_true rfl) (e_X11_pays (Nat.le_refl _) a0 a1 S h0 h1)
-- X11_sell
def f_X11_sell (a0 : Int) (a1 : Int) (S : jSt) : Option (Int × jSt) :=
  fgetr S a0 11 8 (fun v1 => fgetr S a0 11 1 (fun v2 => fcallv S v1 5 (f_X5_canSell v1 v2 a1 S) (fun v3 S4 => if v3 = 0 then some ((-2), S4) else fgetr S4 a0 11 2 (fun v5 => fgetr S4 a0 11 1 (fun v6 => fcallv S4 v5 8 (f_X8_push v5 v6 S4) (fun v7 S8 => fgetr S8 a0 11 8 (fun v9 => fgetr S8 a0 11 1 (fun v10 => fcallv S8 v9 5 (f_X5_findWinner v9 v10 a1 S8) (fun v11 S12 => fgetr S12 a0 11 8 (fun v13 => fgetr S12 a0 11 1 (fun v14 => fcallv S12 v13 5 (f_X5_handOver v13 v14 a1 S12) (fun v15 S16 => fgetr S16 a0 11 8 (fun v17 => fget S16 v17 5 1 (fun v18 => some (v18, S16)))))))))))))))
theorem e_X11_sell {G : jG} {d : Nat} {S0 : jSt} (hd0 : 5 ≤ d) (a0 : Int) (a1 : Int) (S : jSt) (h0 : 0 ≤ (a0)) (h1 : R32 (a1)) : J G yX11_sell cX11_sell 2 (some .int) d S0 0 [(0, 2, a0), (1, 0, a1)] [] S (f_X11_sell a0 a1 S) := by
  unfold f_X11_sell
  refine j_aload_n 0 dX11_sell_0 rfl rfl ?_
  refine j_getr (ci := 11) (k := 8) rfl in_X11 (Nat.le_of_ble_eq_true rfl) rfl rfl fl_X11_60 dX11_sell_1 (fun (v1 : Int) (hv1 : 0 ≤ v1) => ?_)
  refine j_aload_n 0 dX11_sell_4 rfl rfl ?_
  refine j_getr (ci := 11) (k := 1) rfl in_X11 (Nat.le_of_ble_eq_true rfl) rfl rfl fl_X11_19 dX11_sell_5 (fun (v2 : Int) (hv2 : 0 ≤ v2) => ?_)
  refine j_iload_n 1 dX11_sell_8 rfl rfl ?_
  refine j_callV (ci := 5) (As := [(2, v2), (0, a1)]) (st := []) kc_X5_canSell (c_X5_canSell v1 v2 a1 S hv1 hv2 h1) rfl lm_X11_158 ki_X5_canSell ke_X5_canSell rfl (Nat.le_of_ble_eq_true rfl) (Nat.le_trans (m := 5) (Nat.le_of_ble_eq_true rfl) hd0) dX11_sell_9 (fun (v3 : Int) (S4 : jSt) (hv3 : (v3) = 0 ∨ (v3) = 1) => ?_)
  refine j_if_ne (tgt := 18) (jZ_R hv3) dX11_sell_12 rfl (fun _ => ?_) (fun _ => ?_)
  · refine j_aload_n 0 dX11_sell_18 rfl rfl ?_
    refine j_getr (ci := 11) (k := 2) rfl in_X11 (Nat.le_of_ble_eq_true rfl) rfl rfl fl_X11_26 dX11_sell_19 (fun (v5 : Int) (hv5 : 0 ≤ v5) => ?_)
    refine j_aload_n 0 dX11_sell_22 rfl rfl ?_
    refine j_getr (ci := 11) (k := 1) rfl in_X11 (Nat.le_of_ble_eq_true rfl) rfl rfl fl_X11_19 dX11_sell_23 (fun (v6 : Int) (hv6 : 0 ≤ v6) => ?_)
    refine j_callV (ci := 8) (As := [(2, v6)]) (st := []) kc_X8_push (c_X8_push v5 v6 S4 hv5 hv6) rfl lm_X11_162 ki_X8_push ke_X8_push rfl (Nat.le_of_ble_eq_true rfl) (Nat.le_trans (m := 5) (Nat.le_of_ble_eq_true rfl) hd0) dX11_sell_26 (fun v7 S8 _ => ?_)
    refine j_aload_n 0 dX11_sell_29 rfl rfl ?_
    refine j_getr (ci := 11) (k := 8) rfl in_X11 (Nat.le_of_ble_eq_true rfl) rfl rfl fl_X11_60 dX11_sell_30 (fun (v9 : Int) (hv9 : 0 ≤ v9) => ?_)
    refine j_aload_n 0 dX11_sell_33 rfl rfl ?_
    refine j_getr (ci := 11) (k := 1) rfl in_X11 (Nat.le_of_ble_eq_true rfl) rfl rfl fl_X11_19 dX11_sell_34 (fun (v10 : Int) (hv10 : 0 ≤ v10) => ?_)
    refine j_iload_n 1 dX11_sell_37 rfl rfl ?_
    refine j_callV (ci := 5) (As := [(2, v10), (0, a1)]) (st := []) kc_X5_findWinner (c_X5_findWinner v9 v10 a1 S8 hv9 hv10 h1) rfl lm_X11_166 ki_X5_findWinner ke_X5_findWinner rfl (Nat.le_of_ble_eq_true rfl) (Nat.le_trans (m := 5) (Nat.le_of_ble_eq_true rfl) hd0) dX11_sell_38 (fun v11 S12 _ => ?_)
    refine j_aload_n 0 dX11_sell_41 rfl rfl ?_
    refine j_getr (ci := 11) (k := 8) rfl in_X11 (Nat.le_of_ble_eq_true rfl) rfl rfl fl_X11_60 dX11_sell_42 (fun (v13 : Int) (hv13 : 0 ≤ v13) => ?_)
    refine j_aload_n 0 dX11_sell_45 rfl rfl ?_
    refine j_getr (ci := 11) (k := 1) rfl in_X11 (Nat.le_of_ble_eq_true rfl) rfl rfl fl_X11_19 dX11_sell_46 (fun (v14 : Int) (hv14 : 0 ≤ v14) => ?_)
    refine j_iload_n 1 dX11_sell_49 rfl rfl ?_
    refine j_callV (ci := 5) (As := [(2, v14), (0, a1)]) (st := []) kc_X5_handOver (c_X5_handOver v13 v14 a1 S12 hv13 hv14 h1) rfl lm_X11_170 ki_X5_handOver ke_X5_handOver rfl (Nat.le_of_ble_eq_true rfl) (Nat.le_trans (m := 5) (Nat.le_of_ble_eq_true rfl) hd0) dX11_sell_50 (fun (v15 : Int) (S16 : jSt) (hv15 : (v15) = 0 ∨ (v15) = 1) => ?_)
    refine j_pop dX11_sell_53 (fun h => nomatch h) ?_
    refine j_aload_n 0 dX11_sell_54 rfl rfl ?_
    refine j_getr (ci := 11) (k := 8) rfl in_X11 (Nat.le_of_ble_eq_true rfl) rfl rfl fl_X11_60 dX11_sell_55 (fun (v17 : Int) (hv17 : 0 ≤ v17) => ?_)
    refine j_get (ci := 5) (k := 1) (t := 0) rfl in_X5 (Nat.le_of_ble_eq_true rfl) rfl rfl fl_X11_173 dX11_sell_58 (fun (v18 : Int) (hv18 : R32 (v18)) => ?_)
    exact j_ireturn hv18 dX11_sell_61
  · refine j_bipush dX11_sell_15 (by decide) ?_
    exact j_ireturn (j_r32 (-2) rfl) dX11_sell_17
theorem c_X11_sell {G : jG} (a0 : Int) (a1 : Int) (S : jSt) (h0 : 0 ≤ (a0)) (h1 : R32 (a1)) : CT G yX11_sell cX11_sell 2 (some .int) 5 ([(2, a0), (0, a1)].map jval) S (f_X11_sell a0 a1 S) := ct_of [(2, a0), (0, a1)] (by decide) rfl (Nat.le_of_ble_eq_true rfl) (e_X11_sell (Nat.le_refl _) a0 a1 S h0 h1)
-- X8_tellWant
def f_X8_tellWant_b2B (r2 : Int → Int → Int → Int → jSt → Option (Int × jSt)) (x0 : Int) (x1 : Int) (x2 : Int) (x3 : Int) (S : jSt) : Option (Int × jSt) :=
  if 30 ≤ x3 then some (0, S) else fgetr S x0 8 0 (fun v1 => fald S v1 x3 4 (fun v2 => if 0 ≤ v2 then fgetr S v2 1 3 (fun v3 => fast S v3 x1 1 x2 (fun S4 => flet (w32 (x3 + 1)) (fun v5 => r2 x0 x1 x2 v5 S4))) else none))
theorem p_f_X8_tellWant_b2B {G : jG} {d : Nat} {S0 : jSt} (hd0 : 1 ≤ d) {r2 : Int → Int → Int → Int → jSt → Option (Int × jSt)} (k2 : ∀ (x0 : Int) (x1 : Int) (x2 : Int) (x3 : Int) (S : jSt), (0 ≤ (x0)) → (R32 (x1)) → (R32 (x2)) → (R32 (x3)) → J G yX8_tellWant cX8_tellWant 4 none d S0 2 [(0, 2, x0), (1, 0, x1), (2, 0, x2), (3, 0, x3)] [] S (r2 x0 x1 x2 x3 S)) : ∀ (x0 : Int) (x1 : Int) (x2 : Int) (x3 : Int) (S : jSt), (0 ≤ (x0)) → (R32 (x1)) → (R32 (x2)) → (R32 (x3)) → J G yX8_tellWant cX8_tellWant 4 none d S0 2 [(0, 2, x0), (1, 0, x1), (2, 0, x2), (3, 0, x3)] [] S (f_X8_tellWant_b2B r2 x0 x1 x2 x3 S) := by
  intro x0 x1 x2 x3 S h0 h1 h2 h3
  unfold f_X8_tellWant_b2B
  refine j_iload_n 3 dX8_tellWant_2 rfl rfl ?_
  refine j_bipush dX8_tellWant_3 (by decide) ?_
  refine j_icmp_ge (tgt := 26) h3 (j_r32 30 rfl) dX8_tellWant_5 rfl (fun _ => ?_) (fun _ => ?_)
  · exact j_return dX8_tellWant_26
  · refine j_aload_n 0 dX8_tellWant_8 rfl rfl ?_
    refine j_getr (ci := 8) (k := 0) rfl in_X8 (Nat.le_of_ble_eq_true rfl) rfl rfl fl_X8_11 dX8_tellWant_9 (fun (v1 : Int) (hv1 : 0 ≤ v1) => ?_)
    refine j_iload_n 3 dX8_tellWant_12 rfl rfl ?_
    refine j_aaload4 h3 dX8_tellWant_13 (fun v2 => ?_)
    refine j_cast (z := v2) (st' := [(2, v2)]) (fun h => by simp only [List.map_cons, jpush, jtag, jval3r h]) (fun hq13 => ?_)
    refine j_getr (ci := 1) (k := 3) rfl in_X1 (Nat.le_of_ble_eq_true rfl) rfl rfl fl_X8_36 dX8_tellWant_14 (fun (v3 : Int) (hv3 : 0 ≤ v3) => ?_)
    refine j_iload_n 1 dX8_tellWant_17 rfl rfl ?_
    refine j_iload_n 2 dX8_tellWant_18 rfl rfl ?_
    refine j_iastore h1 h2 dX8_tellWant_19 (fun S4 => ?_)
    refine j_iincL (q := 3) dX8_tellWant_20 rfl (Nat.le_of_ble_eq_true rfl) (fun v5 hv5 => ?_)
    refine j_lv (lv' := [(3, 0, v5), (0, 2, x0), (1, 0, x1), (2, 0, x2)]) rfl ?_
    refine j_goto (tgt := 2) dX8_tellWant_23 rfl ?_
    refine j_sub [1, 2, 3, 0] rfl ?_
    exact k2 x0 x1 x2 v5 S4 h0 h1 h2 hv5
def f_X8_tellWant_b2 : Int → Int → Int → Int → jSt → Option (Int × jSt) := jrep (β := Int → Int → Int → Int → jSt → Option (Int × jSt)) (fun _ _ _ _ _ => none) (fun r => f_X8_tellWant_b2B r) jN
theorem p_f_X8_tellWant_b2 {G : jG} {d : Nat} {S0 : jSt} (hd0 : 1 ≤ d) : ∀ (x0 : Int) (x1 : Int) (x2 : Int) (x3 : Int) (S : jSt), (0 ≤ (x0)) → (R32 (x1)) → (R32 (x2)) → (R32 (x3)) → J G yX8_tellWant cX8_tellWant 4 none d S0 2 [(0, 2, x0), (1, 0, x1), (2, 0, x2), (3, 0, x3)] [] S (f_X8_tellWant_b2  x0 x1 x2 x3 S) :=
  jrep_ind (P := fun (r : Int → Int → Int → Int → jSt → Option (Int × jSt)) => ∀ (x0 : Int) (x1 : Int) (x2 : Int) (x3 : Int) (S : jSt), (0 ≤ (x0)) → (R32 (x1)) → (R32 (x2)) → (R32 (x3)) → J G yX8_tellWant cX8_tellWant 4 none d S0 2 [(0, 2, x0), (1, 0, x1), (2, 0, x2), (3, 0, x3)] [] S (r x0 x1 x2 x3 S)) (by intros; exact j_none) (fun r k => p_f_X8_tellWant_b2B hd0 k) jN
def f_X8_tellWant (a0 : Int) (a1 : Int) (a2 : Int) (S : jSt) : Option (Int × jSt) :=
  f_X8_tellWant_b2 a0 a1 a2 0 S
theorem e_X8_tellWant {G : jG} {d : Nat} {S0 : jSt} (hd0 : 1 ≤ d) (a0 : Int) (a1 : Int) (a2 : Int) (S : jSt) (h0 : 0 ≤ (a0)) (h1 : R32 (a1)) (h2 : R32 (a2)) : J G yX8_tellWant cX8_tellWant 4 none d S0 0 [(0, 2, a0), (1, 0, a1), (2, 0, a2)] [] S (f_X8_tellWant a0 a1 a2 S) := by
  unfold f_X8_tellWant
  refine j_iconst dX8_tellWant_0 ?_
  refine j_istore_n (lv' := [(3, 0, 0), (0, 2, a0), (1, 0, a1), (2, 0, a2)]) dX8_tellWant_1 rfl (Nat.le_of_ble_eq_true rfl) rfl ?_
  refine j_sub [1, 2, 3, 0] rfl ?_
  exact p_f_X8_tellWant_b2 hd0 a0 a1 a2 0 S h0 h1 h2 (jZ_R jz0)
theorem c_X8_tellWant {G : jG} (a0 : Int) (a1 : Int) (a2 : Int) (S : jSt) (h0 : 0 ≤ (a0)) (h1 : R32 (a1)) (h2 : R32 (a2)) : CT G yX8_tellWant cX8_tellWant 4 none 1 ([(2, a0), (0, a1), (0, a2)].map jval) S (f_X8_tellWant a0 a1 a2 S) := ct_of [(2, a0), (0, a1), (0, a2)] (by decide) rfl (Nat.le_of_ble_eq_true rfl) (e_X8_tellWant (Nat.le_refl _) a0 a1 a2 S h0 h1 h2)
-- X11_want
def f_X11_want_b32 (S : jSt) : Option (Int × jSt) :=
  some (0, S)
theorem p_f_X11_want_b32 {G : jG} {d : Nat} {S0 : jSt} (hd0 : 3 ≤ d) : ∀ (S : jSt), J G yX11_want cX11_want 4 (some .boolean) d S0 32 [] [] S (f_X11_want_b32   S) := by
  intro S
  unfold f_X11_want_b32
  refine j_iconst dX11_want_32 ?_
  exact j_zreturn jz0 dX11_want_33
def f_X11_want (a0 : Int) (a1 : Int) (a2 : Int) (a3 : Int) (S : jSt) : Option (Int × jSt) :=
  fgetr S a0 11 0 (fun v1 => fcallv S v1 10 (f_X10_hasBidder v1 a1 S) (fun v2 S3 => if v2 = 0 then f_X11_want_b32 S3 else fgetr S3 a0 11 0 (fun v4 => fcallv S3 v4 10 (f_X10_hasLot v4 a2 S3) (fun v5 S6 => if v5 = 0 then f_X11_want_b32 S6 else fcall (f_X11_within a3 0 99 S6) (fun v7 S8 => if v7 = 0 then f_X11_want_b32 S8 else fgetr S8 a0 11 1 (fun v9 => fgetr S8 v9 1 3 (fun v10 => fcall (f_X11_wantAt a1 a2 S8) (fun v11 S12 => fast S12 v10 v11 1 a3 (fun S13 => fgetr S13 a0 11 2 (fun v14 => fcall (f_X11_wantAt a1 a2 S13) (fun v15 S16 => fcallv S16 v14 8 (f_X8_tellWant v14 v15 a3 S16) (fun v17 S18 => some (1, S18)))))))))))))
theorem e_X11_want {G : jG} {d : Nat} {S0 : jSt} (hd0 : 3 ≤ d) (a0 : Int) (a1 : Int) (a2 : Int) (a3 : Int) (S : jSt) (h0 : 0 ≤ (a0)) (h1 : R32 (a1)) (h2 : R32 (a2)) (h3 : R32 (a3)) : J G yX11_want cX11_want 4 (some .boolean) d S0 0 [(0, 2, a0), (1, 0, a1), (2, 0, a2), (3, 0, a3)] [] S (f_X11_want a0 a1 a2 a3 S) := by
  unfold f_X11_want
  refine j_aload_n 0 dX11_want_0 rfl rfl ?_
  refine j_getr (ci := 11) (k := 0) rfl in_X11 (Nat.le_of_ble_eq_true rfl) rfl rfl fl_X11_10 dX11_want_1 (fun (v1 : Int) (hv1 : 0 ≤ v1) => ?_)
  refine j_iload_n 1 dX11_want_4 rfl rfl ?_
  refine j_callV (ci := 10) (As := [(0, a1)]) (st := []) kc_X10_hasBidder (c_X10_hasBidder v1 a1 S hv1 h1) rfl lm_X11_107 ki_X10_hasBidder ke_X10_hasBidder rfl (Nat.le_of_ble_eq_true rfl) (Nat.le_trans (m := 3) (Nat.le_of_ble_eq_true rfl) hd0) dX11_want_5 (fun (v2 : Int) (S3 : jSt) (hv2 : (v2) = 0 ∨ (v2) = 1) => ?_)
  refine j_if_eq (tgt := 32) (jZ_R hv2) dX11_want_8 rfl (fun _ => ?_) (fun _ => ?_)
  · refine j_sub [] rfl ?_
    exact p_f_X11_want_b32 hd0 S3
  · refine j_aload_n 0 dX11_want_11 rfl rfl ?_
    refine j_getr (ci := 11) (k := 0) rfl in_X11 (Nat.le_of_ble_eq_true rfl) rfl rfl fl_X11_10 dX11_want_12 (fun (v4 : Int) (hv4 : 0 ≤ v4) => ?_)
    refine j_iload_n 2 dX11_want_15 rfl rfl ?_
    refine j_callV (ci := 10) (As := [(0, a2)]) (st := []) kc_X10_hasLot (c_X10_hasLot v4 a2 S3 hv4 h2) rfl lm_X11_111 ki_X10_hasLot ke_X10_hasLot rfl (Nat.le_of_ble_eq_true rfl) (Nat.le_trans (m := 3) (Nat.le_of_ble_eq_true rfl) hd0) dX11_want_16 (fun (v5 : Int) (S6 : jSt) (hv5 : (v5) = 0 ∨ (v5) = 1) => ?_)
    refine j_if_eq (tgt := 32) (jZ_R hv5) dX11_want_19 rfl (fun _ => ?_) (fun _ => ?_)
    · refine j_sub [] rfl ?_
      exact p_f_X11_want_b32 hd0 S6
    · refine j_iload_n 3 dX11_want_22 rfl rfl ?_
      refine j_iconst dX11_want_23 ?_
      refine j_bipush dX11_want_24 (by decide) ?_
      refine j_callS (As := [(0, a3), (0, 0), (0, 99)]) (st := []) kc_X11_within (c_X11_within a3 0 99 S6 h3 (jZ_R jz0) (j_r32 99 rfl)) lm_X11_76 ks_X11_within rfl (Nat.le_of_ble_eq_true rfl) (Nat.le_trans (m := 3) (Nat.le_of_ble_eq_true rfl) hd0) dX11_want_26 (fun (v7 : Int) (S8 : jSt) (hv7 : (v7) = 0 ∨ (v7) = 1) => ?_)
      refine j_if_ne (tgt := 34) (jZ_R hv7) dX11_want_29 rfl (fun _ => ?_) (fun _ => ?_)
      · refine j_aload_n 0 dX11_want_34 rfl rfl ?_
        refine j_getr (ci := 11) (k := 1) rfl in_X11 (Nat.le_of_ble_eq_true rfl) rfl rfl fl_X11_19 dX11_want_35 (fun (v9 : Int) (hv9 : 0 ≤ v9) => ?_)
        refine j_getr (ci := 1) (k := 3) rfl in_X1 (Nat.le_of_ble_eq_true rfl) rfl rfl fl_X11_114 dX11_want_38 (fun (v10 : Int) (hv10 : 0 ≤ v10) => ?_)
        refine j_iload_n 1 dX11_want_41 rfl rfl ?_
        refine j_iload_n 2 dX11_want_42 rfl rfl ?_
        refine j_callS (As := [(0, a1), (0, a2)]) (st := [(2, v10)]) kc_X11_wantAt (c_X11_wantAt a1 a2 S8 h1 h2) lm_X11_117 ks_X11_wantAt rfl (Nat.le_of_ble_eq_true rfl) (Nat.le_trans (m := 3) (Nat.le_of_ble_eq_true rfl) hd0) dX11_want_43 (fun (v11 : Int) (S12 : jSt) (hv11 : R32 (v11)) => ?_)
        refine j_iload_n 3 dX11_want_46 rfl rfl ?_
        refine j_iastore hv11 h3 dX11_want_47 (fun S13 => ?_)
        refine j_aload_n 0 dX11_want_48 rfl rfl ?_
        refine j_getr (ci := 11) (k := 2) rfl in_X11 (Nat.le_of_ble_eq_true rfl) rfl rfl fl_X11_26 dX11_want_49 (fun (v14 : Int) (hv14 : 0 ≤ v14) => ?_)
        refine j_iload_n 1 dX11_want_52 rfl rfl ?_
        refine j_iload_n 2 dX11_want_53 rfl rfl ?_
        refine j_callS (As := [(0, a1), (0, a2)]) (st := [(2, v14)]) kc_X11_wantAt (c_X11_wantAt a1 a2 S13 h1 h2) lm_X11_117 ks_X11_wantAt rfl (Nat.le_of_ble_eq_true rfl) (Nat.le_trans (m := 3) (Nat.le_of_ble_eq_true rfl) hd0) dX11_want_54 (fun (v15 : Int) (S16 : jSt) (hv15 : R32 (v15)) => ?_)
        refine j_iload_n 3 dX11_want_57 rfl rfl ?_
        refine j_callV (ci := 8) (As := [(0, v15), (0, a3)]) (st := []) kc_X8_tellWant (c_X8_tellWant v14 v15 a3 S16 hv14 hv15 h3) rfl lm_X11_121 ki_X8_tellWant ke_X8_tellWant rfl (Nat.le_of_ble_eq_true rfl) (Nat.le_trans (m := 3) (Nat.le_of_ble_eq_true rfl) hd0) dX11_want_58 (fun v17 S18 _ => ?_)
        refine j_iconst dX11_want_61 ?_
        exact j_zreturn jz1 dX11_want_62
      · refine j_sub [] rfl ?_
        exact p_f_X11_want_b32 hd0 S8
theorem c_X11_want {G : jG} (a0 : Int) (a1 : Int) (a2 : Int) (a3 : Int) (S : jSt) (h0 : 0 ≤ (a0)) (h1 : R32 (a1)) (h2 : R32 (a2)) (h3 : R32 (a3)) : CT G yX11_want cX11_want 4 (some .boolean) 3 ([(2, a0), (0, a1), (0, a2), (0, a3)].map jval) S (f_X11_want a0 a1 a2 a3 S) := ct_of [(2, a0), (0, a1), (0, a2), (0, a3)] (by decide) rfl (Nat.le_of_ble_eq_true rfl) (e_X11_want (Nat.le_refl _) a0 a1 a2 a3 S h0 h1 h2 h3)
-- X6_kindOf
def f_X6_kindOf (a0 : Int) (a1 : Int) (S : jSt) : Option (Int × jSt) :=
  fgetr S a0 6 1 (fun v1 => fald S v1 (w32 (a1 * 4)) 1 (fun v2 => some (v2, S)))
theorem e_X6_kindOf {G : jG} {d : Nat} {S0 : jSt} (hd0 : 1 ≤ d) (a0 : Int) (a1 : Int) (S : jSt) (h0 : 0 ≤ (a0)) (h1 : R32 (a1)) : J G yX6_kindOf cX6_kindOf 2 (some .int) d S0 0 [(0, 2, a0), (1, 0, a1)] [] S (f_X6_kindOf a0 a1 S) := by
  unfold f_X6_kindOf
  refine j_aload_n 0 dX6_kindOf_0 rfl rfl ?_
  refine j_getr (ci := 6) (k := 1) rfl in_X6 (Nat.le_of_ble_eq_true rfl) rfl rfl fl_X6_13 dX6_kindOf_1 (fun (v1 : Int) (hv1 : 0 ≤ v1) => ?_)
  refine j_iload_n 1 dX6_kindOf_4 rfl rfl ?_
  refine j_iconst dX6_kindOf_5 ?_
  refine j_imul dX6_kindOf_6 ?_
  refine j_iaload (w32_R _) dX6_kindOf_7 (fun (v2 : Int) (hv2 : R32 (v2)) => ?_)
  exact j_ireturn hv2 dX6_kindOf_8
theorem c_X6_kindOf {G : jG} (a0 : Int) (a1 : Int) (S : jSt) (h0 : 0 ≤ (a0)) (h1 : R32 (a1)) : CT G yX6_kindOf cX6_kindOf 2 (some .int) 1 ([(2, a0), (0, a1)].map jval) S (f_X6_kindOf a0 a1 S) := ct_of [(2, a0), (0, a1)] (by decide) rfl (Nat.le_of_ble_eq_true rfl) (e_X6_kindOf (Nat.le_refl _) a0 a1 S h0 h1)
-- X6_numberOf
def f_X6_numberOf (a0 : Int) (a1 : Int) (a2 : Int) (S : jSt) : Option (Int × jSt) :=
  fgetr S a0 6 1 (fun v1 => fald S v1 (w32 ((w32 ((w32 (a1 * 4)) + 1)) + a2)) 1 (fun v2 => some (v2, S)))
theorem e_X6_numberOf {G : jG} {d : Nat} {S0 : jSt} (hd0 : 1 ≤ d) (a0 : Int) (a1 : Int) (a2 : Int) (S : jSt) (h0 : 0 ≤ (a0)) (h1 : R32 (a1)) (h2 : R32 (a2)) : J G yX6_numberOf cX6_numberOf 3 (some .int) d S0 0 [(0, 2, a0), (1, 0, a1), (2, 0, a2)] [] S (f_X6_numberOf a0 a1 a2 S) := by
  unfold f_X6_numberOf
  refine j_aload_n 0 dX6_numberOf_0 rfl rfl ?_
  refine j_getr (ci := 6) (k := 1) rfl in_X6 (Nat.le_of_ble_eq_true rfl) rfl rfl fl_X6_13 dX6_numberOf_1 (fun (v1 : Int) (hv1 : 0 ≤ v1) => ?_)
  refine j_iload_n 1 dX6_numberOf_4 rfl rfl ?_
  refine j_iconst dX6_numberOf_5 ?_
  refine j_imul dX6_numberOf_6 ?_
  refine j_iconst dX6_numberOf_7 ?_
  refine j_iadd dX6_numberOf_8 ?_
  refine j_iload_n 2 dX6_numberOf_9 rfl rfl ?_
  refine j_iadd dX6_numberOf_10 ?_
  refine j_iaload (w32_R _) dX6_numberOf_11 (fun (v2 : Int) (hv2 : R32 (v2)) => ?_)
  exact j_ireturn hv2 dX6_numberOf_12
theorem c_X6_numberOf {G : jG} (a0 : Int) (a1 : Int) (a2 : Int) (S : jSt) (h0 : 0 ≤ (a0)) (h1 : R32 (a1)) (h2 : R32 (a2)) : CT G yX6_numberOf cX6_numberOf 3 (some .int) 1 ([(2, a0), (0, a1), (0, a2)].map jval) S (f_X6_numberOf a0 a1 a2 S) := ct_of [(2, a0), (0, a1), (0, a2)] (by decide) rfl (Nat.le_of_ble_eq_true rfl) (e_X6_numberOf (Nat.le_refl _) a0 a1 a2 S h0 h1 h2)
-- X11_playClause
def f_X11_playClause_b109 (x0 : Int) (S : jSt) : Option (Int × jSt) :=
  some (x0, S)
theorem p_f_X11_playClause_b109 {G : jG} {d : Nat} {S0 : jSt} (hd0 : 7 ≤ d) : ∀ (x0 : Int) (S : jSt), ((x0) = 0 ∨ (x0) = 1) → J G yX11_playClause cX11_playClause 7 (some .boolean) d S0 109 [] [(0, x0)] S (f_X11_playClause_b109  x0 S) := by
  intro x0 S h0
  unfold f_X11_playClause_b109
  exact j_zreturn h0 dX11_playClause_109
def f_X11_playClause_b135 (x0 : Int) (S : jSt) : Option (Int × jSt) :=
  some (x0, S)
theorem p_f_X11_playClause_b135 {G : jG} {d : Nat} {S0 : jSt} (hd0 : 7 ≤ d) : ∀ (x0 : Int) (S : jSt), ((x0) = 0 ∨ (x0) = 1) → J G yX11_playClause cX11_playClause 7 (some .boolean) d S0 135 [] [(0, x0)] S (f_X11_playClause_b135  x0 S) := by
  intro x0 S h0
  unfold f_X11_playClause_b135
  exact j_zreturn h0 dX11_playClause_135
def f_X11_playClause_b94 (x0 : Int) (S : jSt) : Option (Int × jSt) :=
  some (x0, S)
theorem p_f_X11_playClause_b94 {G : jG} {d : Nat} {S0 : jSt} (hd0 : 7 ≤ d) : ∀ (x0 : Int) (S : jSt), ((x0) = 0 ∨ (x0) = 1) → J G yX11_playClause cX11_playClause 7 (some .boolean) d S0 94 [] [(0, x0)] S (f_X11_playClause_b94  x0 S) := by
  intro x0 S h0
  unfold f_X11_playClause_b94
  exact j_zreturn h0 dX11_playClause_94
def f_X11_playClause_b191 (x0 : Int) (S : jSt) : Option (Int × jSt) :=
  some (x0, S)
theorem p_f_X11_playClause_b191 {G : jG} {d : Nat} {S0 : jSt} (hd0 : 7 ≤ d) : ∀ (x0 : Int) (S : jSt), ((x0) = 0 ∨ (x0) = 1) → J G yX11_playClause cX11_playClause 7 (some .boolean) d S0 191 [] [(0, x0)] S (f_X11_playClause_b191  x0 S) := by
  intro x0 S h0
  unfold f_X11_playClause_b191
  exact j_zreturn h0 dX11_playClause_191
def f_X11_playClause (a0 : Int) (a1 : Int) (a2 : Int) (S : jSt) : Option (Int × jSt) :=
  if 0 ≤ a1 then fcallv S a1 6 (f_X6_numberOf a1 a2 0 S) (fun v1 S2 => if 0 ≤ a1 then fcallv S2 a1 6 (f_X6_numberOf a1 a2 1 S2) (fun v3 S4 => if 0 ≤ a1 then fcallv S4 a1 6 (f_X6_numberOf a1 a2 2 S4) (fun v5 S6 => if 0 ≤ a1 then fcallv S6 a1 6 (f_X6_kindOf a1 a2 S6) (fun v7 S8 => if v7 = 4 then fcallv S8 a0 11 (f_X11_bidder a0 v1 S8) (fun v9 S10 => if v9 = (-1) then f_X11_playClause_b109 0 S10 else f_X11_playClause_b109 1 S10) else if v7 = 5 then fcallv S8 a0 11 (f_X11_sell a0 v1 S8) (fun v11 S12 => if v11 = (-2) then f_X11_playClause_b135 0 S12 else f_X11_playClause_b135 1 S12) else if v7 = 6 then fcallv S8 a0 11 (f_X11_carry a0 v1 S8) (fun v13 S14 => some (v13, S14)) else if v7 = 7 then fcallv S8 a0 11 (f_X11_burn a0 v1 S8) (fun v15 S16 => some (v15, S16)) else if v7 = 8 then fcallv S8 a0 11 (f_X11_buy a0 v1 v3 S8) (fun v17 S18 => some (v17, S18)) else if v7 = 9 then fcallv S8 a0 11 (f_X11_lot a0 v1 v3 v5 S8) (fun v19 S20 => if v19 = (-1) then f_X11_playClause_b94 0 S20 else f_X11_playClause_b94 1 S20) else if v7 = 10 then fcallv S8 a0 11 (f_X11_want a0 v5 v3 v1 S8) (fun v21 S22 => some (v21, S22)) else if v7 = 11 then fgetr S8 a0 11 1 (fun v23 => fget S8 v23 1 7 (fun v24 => flet (imin v1 (w32 (9999 - v24))) (fun v25 => fcallv S8 a0 11 (f_X11_passWeeks a0 v25 S8) (fun v26 S27 => if v25 = v1 then f_X11_playClause_b191 1 S27 else f_X11_playClause_b191 0 S27)))) else some (1, S8)) else none) else none) else none) else none
theorem e_X11_playClause {G : jG} {d : Nat} {S0 : jSt} (hd0 : 7 ≤ d) (a0 : Int) (a1 : Int) (a2 : Int) (S : jSt) (h0 : 0 ≤ (a0)) (h2 : R32 (a2)) : J G yX11_playClause cX11_playClause 7 (some .boolean) d S0 0 [(0, 2, a0), (1, 3, a1), (2, 0, a2)] [] S (f_X11_playClause a0 a1 a2 S) := by
  unfold f_X11_playClause
  refine j_aload_nq 1 dX11_playClause_0 rfl rfl ?_
  refine j_iload_n 2 dX11_playClause_1 rfl rfl ?_
  refine j_iconst dX11_playClause_2 ?_
  refine j_cast (z := a1) (st' := [(0, 0), (0, a2), (2, a1)]) (fun h => by simp only [List.map_cons, jpush, jtag, jval3r h]) (fun hq3 => ?_)
  refine j_callV (ci := 6) (As := [(0, a2), (0, 0)]) (st := []) kc_X6_numberOf (c_X6_numberOf a1 a2 0 S hq3 h2 (jZ_R jz0)) rfl lm_X11_230 ki_X6_numberOf ke_X6_numberOf rfl (Nat.le_of_ble_eq_true rfl) (Nat.le_trans (m := 7) (Nat.le_of_ble_eq_true rfl) hd0) dX11_playClause_3 (fun (v1 : Int) (S2 : jSt) (hv1 : R32 (v1)) => ?_)
  refine j_istore_n (lv' := [(3, 0, v1), (0, 2, a0), (1, 3, a1), (2, 0, a2)]) dX11_playClause_6 rfl (Nat.le_of_ble_eq_true rfl) rfl ?_
  refine j_aload_nq 2 dX11_playClause_7 rfl rfl ?_
  refine j_iload_n 3 dX11_playClause_8 rfl rfl ?_
  refine j_iconst dX11_playClause_9 ?_
  refine j_cast (z := a1) (st' := [(0, 1), (0, a2), (2, a1)]) (fun h => by simp only [List.map_cons, jpush, jtag, jval3r h]) (fun hq10 => ?_)
  refine j_callV (ci := 6) (As := [(0, a2), (0, 1)]) (st := []) kc_X6_numberOf (c_X6_numberOf a1 a2 1 S2 hq10 h2 (jZ_R jz1)) rfl lm_X11_230 ki_X6_numberOf ke_X6_numberOf rfl (Nat.le_of_ble_eq_true rfl) (Nat.le_trans (m := 7) (Nat.le_of_ble_eq_true rfl) hd0) dX11_playClause_10 (fun (v3 : Int) (S4 : jSt) (hv3 : R32 (v3)) => ?_)
  refine j_istore (lv' := [(4, 0, v3), (3, 0, v1), (0, 2, a0), (1, 3, a1), (2, 0, a2)]) dX11_playClause_13 (Nat.le_of_ble_eq_true rfl) rfl ?_
  refine j_aload_nq 3 dX11_playClause_15 rfl rfl ?_
  refine j_iload_n 4 dX11_playClause_16 rfl rfl ?_
  refine j_iconst dX11_playClause_17 ?_
  refine j_cast (z := a1) (st' := [(0, 2), (0, a2), (2, a1)]) (fun h => by simp only [List.map_cons, jpush, jtag, jval3r h]) (fun hq18 => ?_)
  refine j_callV (ci := 6) (As := [(0, a2), (0, 2)]) (st := []) kc_X6_numberOf (c_X6_numberOf a1 a2 2 S4 hq18 h2 (j_r32 2 rfl)) rfl lm_X11_230 ki_X6_numberOf ke_X6_numberOf rfl (Nat.le_of_ble_eq_true rfl) (Nat.le_trans (m := 7) (Nat.le_of_ble_eq_true rfl) hd0) dX11_playClause_18 (fun (v5 : Int) (S6 : jSt) (hv5 : R32 (v5)) => ?_)
  refine j_istore (lv' := [(5, 0, v5), (4, 0, v3), (3, 0, v1), (0, 2, a0), (1, 3, a1), (2, 0, a2)]) dX11_playClause_21 (Nat.le_of_ble_eq_true rfl) rfl ?_
  refine j_aload_nq 4 dX11_playClause_23 rfl rfl ?_
  refine j_iload_n 5 dX11_playClause_24 rfl rfl ?_
  refine j_cast (z := a1) (st' := [(0, a2), (2, a1)]) (fun h => by simp only [List.map_cons, jpush, jtag, jval3r h]) (fun hq25 => ?_)
  refine j_callV (ci := 6) (As := [(0, a2)]) (st := []) kc_X6_kindOf (c_X6_kindOf a1 a2 S6 hq25 h2) rfl lm_X11_233 ki_X6_kindOf ke_X6_kindOf rfl (Nat.le_of_ble_eq_true rfl) (Nat.le_trans (m := 7) (Nat.le_of_ble_eq_true rfl) hd0) dX11_playClause_25 (fun (v7 : Int) (S8 : jSt) (hv7 : R32 (v7)) => ?_)
  refine j_ite (fun hc0 => ?_) (fun hc0 => ?_)
  · refine j_tableIn (tgt := 95) (off := 67) hv7 dX11_playClause_28 (by omega) (by omega) (by rw [hc0]; rfl) rfl ?_
    refine j_aload_n 3 dX11_playClause_95 rfl rfl ?_
    refine j_iload_n 2 dX11_playClause_96 rfl rfl ?_
    refine j_callV (ci := 11) (As := [(0, v1)]) (st := []) kc_X11_bidder (c_X11_bidder a0 v1 S8 h0 hv1) rfl lm_X11_240 ki_X11_bidder ke_X11_bidder rfl (Nat.le_of_ble_eq_true rfl) (Nat.le_trans (m := 7) (Nat.le_of_ble_eq_true rfl) hd0) dX11_playClause_97 (fun (v9 : Int) (S10 : jSt) (hv9 : R32 (v9)) => ?_)
    refine j_iconst dX11_playClause_100 ?_
    refine j_icmp_eq (tgt := 108) hv9 (j_r32 (-1) rfl) dX11_playClause_101 rfl (fun _ => ?_) (fun _ => ?_)
    · refine j_iconst dX11_playClause_108 ?_
      refine j_sub [] rfl ?_
      exact p_f_X11_playClause_b109 hd0 0 S10 jz0
    · refine j_iconst dX11_playClause_104 ?_
      refine j_goto (tgt := 109) dX11_playClause_105 rfl ?_
      refine j_sub [] rfl ?_
      exact p_f_X11_playClause_b109 hd0 1 S10 jz1
  refine j_ite (fun hc1 => ?_) (fun hc1 => ?_)
  · refine j_tableIn (tgt := 120) (off := 92) hv7 dX11_playClause_28 (by omega) (by omega) (by rw [hc1]; rfl) rfl ?_
    refine j_aload_n 3 dX11_playClause_120 rfl rfl ?_
    refine j_iload_n 2 dX11_playClause_121 rfl rfl ?_
    refine j_callV (ci := 11) (As := [(0, v1)]) (st := []) kc_X11_sell (c_X11_sell a0 v1 S8 h0 hv1) rfl lm_X11_245 ki_X11_sell ke_X11_sell rfl (Nat.le_of_ble_eq_true rfl) (Nat.le_trans (m := 7) (Nat.le_of_ble_eq_true rfl) hd0) dX11_playClause_122 (fun (v11 : Int) (S12 : jSt) (hv11 : R32 (v11)) => ?_)
    refine j_bipush dX11_playClause_125 (by decide) ?_
    refine j_icmp_eq (tgt := 134) hv11 (j_r32 (-2) rfl) dX11_playClause_127 rfl (fun _ => ?_) (fun _ => ?_)
    · refine j_iconst dX11_playClause_134 ?_
      refine j_sub [] rfl ?_
      exact p_f_X11_playClause_b135 hd0 0 S12 jz0
    · refine j_iconst dX11_playClause_130 ?_
      refine j_goto (tgt := 135) dX11_playClause_131 rfl ?_
      refine j_sub [] rfl ?_
      exact p_f_X11_playClause_b135 hd0 1 S12 jz1
  refine j_ite (fun hc2 => ?_) (fun hc2 => ?_)
  · refine j_tableIn (tgt := 136) (off := 108) hv7 dX11_playClause_28 (by omega) (by omega) (by rw [hc2]; rfl) rfl ?_
    refine j_aload_n 3 dX11_playClause_136 rfl rfl ?_
    refine j_iload_n 2 dX11_playClause_137 rfl rfl ?_
    refine j_callV (ci := 11) (As := [(0, v1)]) (st := []) kc_X11_carry (c_X11_carry a0 v1 S8 h0 hv1) rfl lm_X11_248 ki_X11_carry ke_X11_carry rfl (Nat.le_of_ble_eq_true rfl) (Nat.le_trans (m := 7) (Nat.le_of_ble_eq_true rfl) hd0) dX11_playClause_138 (fun (v13 : Int) (S14 : jSt) (hv13 : (v13) = 0 ∨ (v13) = 1) => ?_)
    exact j_zreturn hv13 dX11_playClause_141
  refine j_ite (fun hc3 => ?_) (fun hc3 => ?_)
  · refine j_tableIn (tgt := 142) (off := 114) hv7 dX11_playClause_28 (by omega) (by omega) (by rw [hc3]; rfl) rfl ?_
    refine j_aload_n 3 dX11_playClause_142 rfl rfl ?_
    refine j_iload_n 2 dX11_playClause_143 rfl rfl ?_
    refine j_callV (ci := 11) (As := [(0, v1)]) (st := []) kc_X11_burn (c_X11_burn a0 v1 S8 h0 hv1) rfl lm_X11_251 ki_X11_burn ke_X11_burn rfl (Nat.le_of_ble_eq_true rfl) (Nat.le_trans (m := 7) (Nat.le_of_ble_eq_true rfl) hd0) dX11_playClause_144 (fun (v15 : Int) (S16 : jSt) (hv15 : (v15) = 0 ∨ (v15) = 1) => ?_)
    exact j_zreturn hv15 dX11_playClause_147
  refine j_ite (fun hc4 => ?_) (fun hc4 => ?_)
  · refine j_tableIn (tgt := 148) (off := 120) hv7 dX11_playClause_28 (by omega) (by omega) (by rw [hc4]; rfl) rfl ?_
    refine j_aload_n 3 dX11_playClause_148 rfl rfl ?_
    refine j_iload_n 2 dX11_playClause_149 rfl rfl ?_
    refine j_iload 1 dX11_playClause_150 rfl ?_
    refine j_callV (ci := 11) (As := [(0, v1), (0, v3)]) (st := []) kc_X11_buy (c_X11_buy a0 v1 v3 S8 h0 hv1 hv3) rfl lm_X11_254 ki_X11_buy ke_X11_buy rfl (Nat.le_of_ble_eq_true rfl) (Nat.le_trans (m := 7) (Nat.le_of_ble_eq_true rfl) hd0) dX11_playClause_152 (fun (v17 : Int) (S18 : jSt) (hv17 : (v17) = 0 ∨ (v17) = 1) => ?_)
    exact j_zreturn hv17 dX11_playClause_155
  refine j_ite (fun hc5 => ?_) (fun hc5 => ?_)
  · refine j_tableIn (tgt := 76) (off := 48) hv7 dX11_playClause_28 (by omega) (by omega) (by rw [hc5]; rfl) rfl ?_
    refine j_aload_n 3 dX11_playClause_76 rfl rfl ?_
    refine j_iload_n 2 dX11_playClause_77 rfl rfl ?_
    refine j_iload 1 dX11_playClause_78 rfl ?_
    refine j_iload 0 dX11_playClause_80 rfl ?_
    refine j_callV (ci := 11) (As := [(0, v1), (0, v3), (0, v5)]) (st := []) kc_X11_lot (c_X11_lot a0 v1 v3 v5 S8 h0 hv1 hv3 hv5) rfl lm_X11_236 ki_X11_lot ke_X11_lot rfl (Nat.le_of_ble_eq_true rfl) (Nat.le_trans (m := 7) (Nat.le_of_ble_eq_true rfl) hd0) dX11_playClause_82 (fun (v19 : Int) (S20 : jSt) (hv19 : R32 (v19)) => ?_)
    refine j_iconst dX11_playClause_85 ?_
    refine j_icmp_eq (tgt := 93) hv19 (j_r32 (-1) rfl) dX11_playClause_86 rfl (fun _ => ?_) (fun _ => ?_)
    · refine j_iconst dX11_playClause_93 ?_
      refine j_sub [] rfl ?_
      exact p_f_X11_playClause_b94 hd0 0 S20 jz0
    · refine j_iconst dX11_playClause_89 ?_
      refine j_goto (tgt := 94) dX11_playClause_90 rfl ?_
      refine j_sub [] rfl ?_
      exact p_f_X11_playClause_b94 hd0 1 S20 jz1
  refine j_ite (fun hc6 => ?_) (fun hc6 => ?_)
  · refine j_tableIn (tgt := 110) (off := 82) hv7 dX11_playClause_28 (by omega) (by omega) (by rw [hc6]; rfl) rfl ?_
    refine j_aload_n 3 dX11_playClause_110 rfl rfl ?_
    refine j_iload 0 dX11_playClause_111 rfl ?_
    refine j_iload 1 dX11_playClause_113 rfl ?_
    refine j_iload_n 2 dX11_playClause_115 rfl rfl ?_
    refine j_callV (ci := 11) (As := [(0, v5), (0, v3), (0, v1)]) (st := []) kc_X11_want (c_X11_want a0 v5 v3 v1 S8 h0 hv5 hv3 hv1) rfl lm_X11_243 ki_X11_want ke_X11_want rfl (Nat.le_of_ble_eq_true rfl) (Nat.le_trans (m := 7) (Nat.le_of_ble_eq_true rfl) hd0) dX11_playClause_116 (fun (v21 : Int) (S22 : jSt) (hv21 : (v21) = 0 ∨ (v21) = 1) => ?_)
    exact j_zreturn hv21 dX11_playClause_119
  refine j_ite (fun hc7 => ?_) (fun hc7 => ?_)
  · refine j_tableIn (tgt := 156) (off := 128) hv7 dX11_playClause_28 (by omega) (by omega) (by rw [hc7]; rfl) rfl ?_
    refine j_iload_n 2 dX11_playClause_156 rfl rfl ?_
    refine j_sipush dX11_playClause_157 (by decide) ?_
    refine j_aload_n 3 dX11_playClause_160 rfl rfl ?_
    refine j_getr (ci := 11) (k := 1) rfl in_X11 (Nat.le_of_ble_eq_true rfl) rfl rfl fl_X11_19 dX11_playClause_161 (fun (v23 : Int) (hv23 : 0 ≤ v23) => ?_)
    refine j_get (ci := 1) (k := 7) (t := 0) rfl in_X1 (Nat.le_of_ble_eq_true rfl) rfl rfl fl_X11_193 dX11_playClause_164 (fun (v24 : Int) (hv24 : R32 (v24)) => ?_)
    refine j_isub dX11_playClause_167 ?_
    refine j_mmin hv1 (w32_R _) lx_X11_258 mx_s_mmin mx_i mx_c_mmin (Nat.le_of_ble_eq_true rfl) (Nat.le_trans (Nat.le_of_ble_eq_true rfl) hd0) dX11_playClause_168 ?_
    refine j_leti (imin_R hv1 (w32_R _)) (fun v25 hv25 => ?_)
    refine j_istore (lv' := [(6, 0, v25), (5, 0, v5), (4, 0, v3), (3, 0, v1), (0, 2, a0), (1, 3, a1), (2, 0, a2)]) dX11_playClause_171 (Nat.le_of_ble_eq_true rfl) rfl ?_
    refine j_aload_n 4 dX11_playClause_173 rfl rfl ?_
    refine j_iload 0 dX11_playClause_174 rfl ?_
    refine j_callV (ci := 11) (As := [(0, v25)]) (st := []) kc_X11_passWeeks (c_X11_passWeeks a0 v25 S8 h0 hv25) rfl lm_X11_196 ki_X11_passWeeks ke_X11_passWeeks rfl (Nat.le_of_ble_eq_true rfl) (Nat.le_trans (m := 7) (Nat.le_of_ble_eq_true rfl) hd0) dX11_playClause_176 (fun (v26 : Int) (S27 : jSt) (hv26 : R32 (v26)) => ?_)
    refine j_pop dX11_playClause_179 (fun h => nomatch h) ?_
    refine j_iload 0 dX11_playClause_180 rfl ?_
    refine j_iload_n 3 dX11_playClause_182 rfl rfl ?_
    refine j_icmp_ne (tgt := 190) hv25 hv1 dX11_playClause_183 rfl (fun _ => ?_) (fun _ => ?_)
    · refine j_iconst dX11_playClause_190 ?_
      refine j_sub [] rfl ?_
      exact p_f_X11_playClause_b191 hd0 0 S27 jz0
    · refine j_iconst dX11_playClause_186 ?_
      refine j_goto (tgt := 191) dX11_playClause_187 rfl ?_
      refine j_sub [] rfl ?_
      exact p_f_X11_playClause_b191 hd0 1 S27 jz1
  refine j_tableOut (tgt := 192) hv7 dX11_playClause_28 (by omega) rfl ?_
  refine j_iconst dX11_playClause_192 ?_
  exact j_zreturn jz1 dX11_playClause_193
theorem c_X11_playClause {G : jG} (a0 : Int) (a1 : Int) (a2 : Int) (S : jSt) (h0 : 0 ≤ (a0)) (h2 : R32 (a2)) : CT G yX11_playClause cX11_playClause 7 (some .boolean) 7 ([(2, a0), (3, a1), (0, a2)].map jval) S (f_X11_playClause a0 a1 a2 S) := ct_of [(2, a0), (3, a1), (0, a2)] (by decide) rfl (Nat.le_of_ble_eq_true rfl) (e_X11_playClause (Nat.le_refl _) a0 a1 a2 S h0 h2)
-- X11_played
def f_X11_played_b18B (r18 : Int → Int → Int → jSt → Option (Int × jSt)) (x0 : Int) (x1 : Int) (x2 : Int) (S : jSt) : Option (Int × jSt) :=
  if 0 ≤ x1 then fget S x1 6 0 (fun v4 => if v4 ≤ x2 then some ((-1), S) else fcallv S x0 11 (f_X11_playClause x0 x1 x2 S) (fun v5 S6 => if v5 = 0 then some (x2, S6) else flet (w32 (x2 + 1)) (fun v7 => r18 x0 x1 v7 S6))) else none
theorem p_f_X11_played_b18B {G : jG} {d : Nat} {S0 : jSt} (hd0 : 8 ≤ d) {r18 : Int → Int → Int → jSt → Option (Int × jSt)} (k18 : ∀ (x0 : Int) (x1 : Int) (x2 : Int) (S : jSt), (0 ≤ (x0)) → (R32 (x2)) → J G yX11_played cX11_played 4 (some .int) d S0 18 [(0, 2, x0), (2, 3, x1), (3, 0, x2)] [] S (r18 x0 x1 x2 S)) : ∀ (x0 : Int) (x1 : Int) (x2 : Int) (S : jSt), (0 ≤ (x0)) → (R32 (x2)) → J G yX11_played cX11_played 4 (some .int) d S0 18 [(0, 2, x0), (2, 3, x1), (3, 0, x2)] [] S (f_X11_played_b18B r18 x0 x1 x2 S) := by
  intro x0 x1 x2 S h0 h2
  unfold f_X11_played_b18B
  refine j_iload_n 2 dX11_played_18 rfl rfl ?_
  refine j_aload_nq 1 dX11_played_19 rfl rfl ?_
  refine j_cast (z := x1) (st' := [(2, x1), (0, x2)]) (fun h => by simp only [List.map_cons, jpush, jtag, jval3r h]) (fun hq20 => ?_)
  refine j_get (ci := 6) (k := 0) (t := 0) rfl in_X6 (Nat.le_of_ble_eq_true rfl) rfl rfl fl_X11_204 dX11_played_20 (fun (v4 : Int) (hv4 : R32 (v4)) => ?_)
  refine j_icmp_ge (tgt := 43) h2 hv4 dX11_played_23 rfl (fun _ => ?_) (fun _ => ?_)
  · refine j_iconst dX11_played_43 ?_
    exact j_ireturn (j_r32 (-1) rfl) dX11_played_44
  · refine j_aload_n 0 dX11_played_26 rfl rfl ?_
    refine j_aload_nq 1 dX11_played_27 rfl rfl ?_
    refine j_iload_n 2 dX11_played_28 rfl rfl ?_
    refine j_callV (ci := 11) (As := [(3, x1), (0, x2)]) (st := []) kc_X11_playClause (c_X11_playClause x0 x1 x2 S h0 h2) rfl lm_X11_209 ki_X11_playClause ke_X11_playClause rfl (Nat.le_of_ble_eq_true rfl) (Nat.le_trans (m := 8) (Nat.le_of_ble_eq_true rfl) hd0) dX11_played_29 (fun (v5 : Int) (S6 : jSt) (hv5 : (v5) = 0 ∨ (v5) = 1) => ?_)
    refine j_if_ne (tgt := 37) (jZ_R hv5) dX11_played_32 rfl (fun _ => ?_) (fun _ => ?_)
    · refine j_iincL (q := 2) dX11_played_37 rfl (Nat.le_of_ble_eq_true rfl) (fun v7 hv7 => ?_)
      refine j_lv (lv' := [(3, 0, v7), (0, 2, x0), (2, 3, x1)]) rfl ?_
      refine j_goto (tgt := 18) dX11_played_40 rfl ?_
      refine j_sub [1, 2, 0] rfl ?_
      exact k18 x0 x1 v7 S6 h0 hv7
    · refine j_iload_n 2 dX11_played_35 rfl rfl ?_
      exact j_ireturn h2 dX11_played_36
def f_X11_played_b18 : Int → Int → Int → jSt → Option (Int × jSt) := jrep (β := Int → Int → Int → jSt → Option (Int × jSt)) (fun _ _ _ _ => none) (fun r => f_X11_played_b18B r) jN
theorem p_f_X11_played_b18 {G : jG} {d : Nat} {S0 : jSt} (hd0 : 8 ≤ d) : ∀ (x0 : Int) (x1 : Int) (x2 : Int) (S : jSt), (0 ≤ (x0)) → (R32 (x2)) → J G yX11_played cX11_played 4 (some .int) d S0 18 [(0, 2, x0), (2, 3, x1), (3, 0, x2)] [] S (f_X11_played_b18  x0 x1 x2 S) :=
  jrep_ind (P := fun (r : Int → Int → Int → jSt → Option (Int × jSt)) => ∀ (x0 : Int) (x1 : Int) (x2 : Int) (S : jSt), (0 ≤ (x0)) → (R32 (x2)) → J G yX11_played cX11_played 4 (some .int) d S0 18 [(0, 2, x0), (2, 3, x1), (3, 0, x2)] [] S (r x0 x1 x2 S)) (by intros; exact j_none) (fun r k => p_f_X11_played_b18B hd0 k) jN
def f_X11_played (a0 : Int) (a1 : Int) (S : jSt) : Option (Int × jSt) :=
  fgetr S a0 11 0 (fun v1 => fcallv S v1 10 (f_X10_scriptOf v1 a1 S) (fun v2 S3 => if v2 < 0 then some ((-2), S3) else f_X11_played_b18 a0 v2 0 S3))
theorem e_X11_played {G : jG} {d : Nat} {S0 : jSt} (hd0 : 8 ≤ d) (a0 : Int) (a1 : Int) (S : jSt) (h0 : 0 ≤ (a0)) (h1 : R32 (a1)) : J G yX11_played cX11_played 4 (some .int) d S0 0 [(0, 2, a0), (1, 0, a1)] [] S (f_X11_played a0 a1 S) := by
  unfold f_X11_played
  refine j_aload_n 0 dX11_played_0 rfl rfl ?_
  refine j_getr (ci := 11) (k := 0) rfl in_X11 (Nat.le_of_ble_eq_true rfl) rfl rfl fl_X11_10 dX11_played_1 (fun (v1 : Int) (hv1 : 0 ≤ v1) => ?_)
  refine j_iload_n 1 dX11_played_4 rfl rfl ?_
  refine j_callV (ci := 10) (As := [(0, a1)]) (st := []) kc_X10_scriptOf (c_X10_scriptOf v1 a1 S hv1 h1) rfl lm_X11_200 ki_X10_scriptOf ke_X10_scriptOf rfl (Nat.le_of_ble_eq_true rfl) (Nat.le_trans (m := 8) (Nat.le_of_ble_eq_true rfl) hd0) dX11_played_5 (fun v2 S3 _ => ?_)
  refine j_astore_nq (lv' := [(2, 3, v2), (0, 2, a0), (1, 0, a1)]) dX11_played_8 rfl (Nat.le_of_ble_eq_true rfl) rfl ?_
  refine j_aload_nq 0 dX11_played_9 rfl rfl ?_
  refine j_ifnonnull (tgt := 16) dX11_played_10 rfl (fun _ => ?_) (fun _ => ?_)
  · refine j_iconst dX11_played_16 ?_
    refine j_istore_n (lv' := [(3, 0, 0), (2, 3, v2), (0, 2, a0), (1, 0, a1)]) dX11_played_17 rfl (Nat.le_of_ble_eq_true rfl) rfl ?_
    refine j_sub [2, 1, 0] rfl ?_
    exact p_f_X11_played_b18 hd0 a0 v2 0 S3 h0 (jZ_R jz0)
  · refine j_bipush dX11_played_13 (by decide) ?_
    exact j_ireturn (j_r32 (-2) rfl) dX11_played_15
theorem c_X11_played {G : jG} (a0 : Int) (a1 : Int) (S : jSt) (h0 : 0 ≤ (a0)) (h1 : R32 (a1)) : CT G yX11_played cX11_played 4 (some .int) 8 ([(2, a0), (0, a1)].map jval) S (f_X11_played a0 a1 S) := ct_of [(2, a0), (0, a1)] (by decide) rfl (Nat.le_of_ble_eq_true rfl) (e_X11_played (Nat.le_refl _) a0 a1 S h0 h1)
