-- X12_feed
def f_X12_feed (a0 : Int) (a1 : Int) (a2 : Int) (a3 : Int) (a4 : Int) (a5 : Int) (S : jSt) : Option (Int × jSt) :=
  fget S a0 12 4 (fun v1 => if (w32 (v1 + 20)) ≤ 300 then fcallv S a0 12 (f_X12_four a0 a1 S) (fun v2 S3 => fcallv S3 a0 12 (f_X12_four a0 a2 S3) (fun v4 S5 => fcallv S5 a0 12 (f_X12_four a0 a3 S5) (fun v6 S7 => fcallv S7 a0 12 (f_X12_four a0 a4 S7) (fun v8 S9 => fcallv S9 a0 12 (f_X12_four a0 a5 S9) (fun v10 S11 => fget S11 a0 12 4 (fun v12 => some (v12, S11))))))) else some ((-1), S))
theorem e_X12_feed {G : jG} {d : Nat} {S0 : jSt} (hd0 : 2 ≤ d) (a0 : Int) (a1 : Int) (a2 : Int) (a3 : Int) (a4 : Int) (a5 : Int) (S : jSt) (h0 : 0 ≤ (a0)) (h1 : R32 (a1)) (h2 : R32 (a2)) (h3 : R32 (a3)) (h4 : R32 (a4)) (h5 : R32 (a5)) : J G yX12_feed cX12_feed 6 (some .int) d S0 0 [(0, 2, a0), (1, 0, a1), (2, 0, a2), (3, 0, a3), (4, 0, a4), (5, 0, a5)] [] S (f_X12_feed a0 a1 a2 a3 a4 a5 S) := by
  unfold f_X12_feed
  refine j_aload_n 0 dX12_feed_0 rfl rfl ?_
  refine j_get (ci := 12) (k := 4) (t := 0) rfl in_X12 (Nat.le_of_ble_eq_true rfl) rfl rfl fl_X12_85 dX12_feed_1 (fun (v1 : Int) (hv1 : R32 (v1)) => ?_)
  refine j_bipush dX12_feed_4 (by decide) ?_
  refine j_iadd dX12_feed_6 ?_
  refine j_sipush dX12_feed_7 (by decide) ?_
  refine j_icmp_le (tgt := 15) (w32_R _) (j_r32 300 rfl) dX12_feed_10 rfl (fun _ => ?_) (fun _ => ?_)
  · refine j_aload_n 0 dX12_feed_15 rfl rfl ?_
    refine j_iload_n 1 dX12_feed_16 rfl rfl ?_
    refine j_callV (ci := 12) (As := [(0, a1)]) (st := []) kc_X12_four (c_X12_four a0 a1 S h0 h1) rfl lm_X12_88 ki_X12_four ke_X12_four rfl (Nat.le_of_ble_eq_true rfl) (Nat.le_trans (m := 2) (Nat.le_of_ble_eq_true rfl) hd0) dX12_feed_17 (fun v2 S3 _ => ?_)
    refine j_aload_n 0 dX12_feed_20 rfl rfl ?_
    refine j_iload_n 2 dX12_feed_21 rfl rfl ?_
    refine j_callV (ci := 12) (As := [(0, a2)]) (st := []) kc_X12_four (c_X12_four a0 a2 S3 h0 h2) rfl lm_X12_88 ki_X12_four ke_X12_four rfl (Nat.le_of_ble_eq_true rfl) (Nat.le_trans (m := 2) (Nat.le_of_ble_eq_true rfl) hd0) dX12_feed_22 (fun v4 S5 _ => ?_)
    refine j_aload_n 0 dX12_feed_25 rfl rfl ?_
    refine j_iload_n 3 dX12_feed_26 rfl rfl ?_
    refine j_callV (ci := 12) (As := [(0, a3)]) (st := []) kc_X12_four (c_X12_four a0 a3 S5 h0 h3) rfl lm_X12_88 ki_X12_four ke_X12_four rfl (Nat.le_of_ble_eq_true rfl) (Nat.le_trans (m := 2) (Nat.le_of_ble_eq_true rfl) hd0) dX12_feed_27 (fun v6 S7 _ => ?_)
    refine j_aload_n 0 dX12_feed_30 rfl rfl ?_
    refine j_iload 4 dX12_feed_31 rfl ?_
    refine j_callV (ci := 12) (As := [(0, a4)]) (st := []) kc_X12_four (c_X12_four a0 a4 S7 h0 h4) rfl lm_X12_88 ki_X12_four ke_X12_four rfl (Nat.le_of_ble_eq_true rfl) (Nat.le_trans (m := 2) (Nat.le_of_ble_eq_true rfl) hd0) dX12_feed_33 (fun v8 S9 _ => ?_)
    refine j_aload_n 0 dX12_feed_36 rfl rfl ?_
    refine j_iload 5 dX12_feed_37 rfl ?_
    refine j_callV (ci := 12) (As := [(0, a5)]) (st := []) kc_X12_four (c_X12_four a0 a5 S9 h0 h5) rfl lm_X12_88 ki_X12_four ke_X12_four rfl (Nat.le_of_ble_eq_true rfl) (Nat.le_trans (m := 2) (Nat.le_of_ble_eq_true rfl) hd0) dX12_feed_39 (fun v10 S11 _ => ?_)
    refine j_aload_n 0 dX12_feed_42 rfl rfl ?_
    refine j_get (ci := 12) (k := 4) (t := 0) rfl in_X12 (Nat.le_of_ble_eq_true rfl) rfl rfl fl_X12_85 dX12_feed_43 (fun (v12 : Int) (hv12 : R32 (v12)) => ?_)
    exact j_ireturn hv12 dX12_feed_46
  · refine j_iconst dX12_feed_13 ?_
    exact j_ireturn (j_r32 (-1) rfl) dX12_feed_14
theorem c_X12_feed {G : jG} (a0 : Int) (a1 : Int) (a2 : Int) (a3 : Int) (a4 : Int) (a5 : Int) (S : jSt) (h0 : 0 ≤ (a0)) (h1 : R32 (a1)) (h2 : R32 (a2)) (h3 : R32 (a3)) (h4 : R32 (a4)) (h5 : R32 (a5)) : CT G yX12_feed cX12_feed 6 (some .int) 2 ([(2, a0), (0, a1), (0, a2), (0, a3), (0, a4), (0, a5)].map jval) S (f_X12_feed a0 a1 a2 a3 a4 a5 S) := ct_of [(2, a0), (0, a1), (0, a2), (0, a3), (0, a4), (0, a5)] (by decide) rfl (Nat.le_of_ble_eq_true rfl) (e_X12_feed (Nat.le_refl _) a0 a1 a2 a3 a4 a5 S h0 h1 h2 h3 h4 h5)
-- X12_putBack
def f_X12_putBack_b3B (r3 : Int → Int → jSt → Option (Int × jSt)) (x0 : Int) (x1 : Int) (S : jSt) : Option (Int × jSt) :=
  if 141 ≤ x1 then fput S x0 12 23 1 (fun S1 => some (0, S1)) else fgetr S x0 12 0 (fun v2 => fgetr S x0 12 25 (fun v3 => fald S v3 x1 1 (fun v4 => fast S v2 x1 1 v4 (fun S5 => flet (w32 (x1 + 1)) (fun v6 => r3 x0 v6 S5)))))
theorem p_f_X12_putBack_b3B {G : jG} {d : Nat} {S0 : jSt} (hd0 : 1 ≤ d) {r3 : Int → Int → jSt → Option (Int × jSt)} (k3 : ∀ (x0 : Int) (x1 : Int) (S : jSt), (0 ≤ (x0)) → (R32 (x1)) → J G yX12_putBack cX12_putBack 2 none d S0 3 [(0, 2, x0), (1, 0, x1)] [] S (r3 x0 x1 S)) : ∀ (x0 : Int) (x1 : Int) (S : jSt), (0 ≤ (x0)) → (R32 (x1)) → J G yX12_putBack cX12_putBack 2 none d S0 3 [(0, 2, x0), (1, 0, x1)] [] S (f_X12_putBack_b3B r3 x0 x1 S) := by
  intro x0 x1 S h0 h1
  unfold f_X12_putBack_b3B
  refine j_iload_n 1 dX12_putBack_3 rfl rfl ?_
  refine j_sipush dX12_putBack_4 (by decide) ?_
  refine j_icmp_ge (tgt := 28) h1 (j_r32 141 rfl) dX12_putBack_7 rfl (fun _ => ?_) (fun _ => ?_)
  · refine j_aload_n 0 dX12_putBack_28 rfl rfl ?_
    refine j_iconst dX12_putBack_29 ?_
    refine j_putz (ci := 12) (k := 23) (ty0 := tyX12) rfl in_X12 (Nat.le_of_ble_eq_true rfl) rfl tyX12_ok nmX12 rfl rfl (by decide +kernel) jz1 fl_X12_43 dX12_putBack_30 (fun S1 => ?_)
    exact j_return dX12_putBack_33
  · refine j_aload_n 0 dX12_putBack_10 rfl rfl ?_
    refine j_getr (ci := 12) (k := 0) rfl in_X12 (Nat.le_of_ble_eq_true rfl) rfl rfl fl_X12_7 dX12_putBack_11 (fun (v2 : Int) (hv2 : 0 ≤ v2) => ?_)
    refine j_iload_n 1 dX12_putBack_14 rfl rfl ?_
    refine j_aload_n 0 dX12_putBack_15 rfl rfl ?_
    refine j_getr (ci := 12) (k := 25) rfl in_X12 (Nat.le_of_ble_eq_true rfl) rfl rfl fl_X12_47 dX12_putBack_16 (fun (v3 : Int) (hv3 : 0 ≤ v3) => ?_)
    refine j_iload_n 1 dX12_putBack_19 rfl rfl ?_
    refine j_iaload h1 dX12_putBack_20 (fun (v4 : Int) (hv4 : R32 (v4)) => ?_)
    refine j_iastore h1 hv4 dX12_putBack_21 (fun S5 => ?_)
    refine j_iincL (q := 1) dX12_putBack_22 rfl (Nat.le_of_ble_eq_true rfl) (fun v6 hv6 => ?_)
    refine j_lv (lv' := [(1, 0, v6), (0, 2, x0)]) rfl ?_
    refine j_goto (tgt := 3) dX12_putBack_25 rfl ?_
    refine j_sub [1, 0] rfl ?_
    exact k3 x0 v6 S5 h0 hv6
def f_X12_putBack_b3 : Int → Int → jSt → Option (Int × jSt) := jrep (β := Int → Int → jSt → Option (Int × jSt)) (fun _ _ _ => none) (fun r => f_X12_putBack_b3B r) jN
theorem p_f_X12_putBack_b3 {G : jG} {d : Nat} {S0 : jSt} (hd0 : 1 ≤ d) : ∀ (x0 : Int) (x1 : Int) (S : jSt), (0 ≤ (x0)) → (R32 (x1)) → J G yX12_putBack cX12_putBack 2 none d S0 3 [(0, 2, x0), (1, 0, x1)] [] S (f_X12_putBack_b3  x0 x1 S) :=
  jrep_ind (P := fun (r : Int → Int → jSt → Option (Int × jSt)) => ∀ (x0 : Int) (x1 : Int) (S : jSt), (0 ≤ (x0)) → (R32 (x1)) → J G yX12_putBack cX12_putBack 2 none d S0 3 [(0, 2, x0), (1, 0, x1)] [] S (r x0 x1 S)) (by intros; exact j_none) (fun r k => p_f_X12_putBack_b3B hd0 k) jN
def f_X12_putBack (a0 : Int) (S : jSt) : Option (Int × jSt) :=
  f_X12_putBack_b3 a0 7 S
theorem e_X12_putBack {G : jG} {d : Nat} {S0 : jSt} (hd0 : 1 ≤ d) (a0 : Int) (S : jSt) (h0 : 0 ≤ (a0)) : J G yX12_putBack cX12_putBack 2 none d S0 0 [(0, 2, a0)] [] S (f_X12_putBack a0 S) := by
  unfold f_X12_putBack
  refine j_bipush dX12_putBack_0 (by decide) ?_
  refine j_istore_n (lv' := [(1, 0, 7), (0, 2, a0)]) dX12_putBack_2 rfl (Nat.le_of_ble_eq_true rfl) rfl ?_
  refine j_sub [1, 0] rfl ?_
  exact p_f_X12_putBack_b3 hd0 a0 7 S h0 (j_r32 7 rfl)
theorem c_X12_putBack {G : jG} (a0 : Int) (S : jSt) (h0 : 0 ≤ (a0)) : CT G yX12_putBack cX12_putBack 2 none 1 ([(2, a0)].map jval) S (f_X12_putBack a0 S) := ct_of [(2, a0)] (by decide) rfl (Nat.le_of_ble_eq_true rfl) (e_X12_putBack (Nat.le_refl _) a0 S h0)
-- X12_setAside
def f_X12_setAside_b3B (r3 : Int → Int → jSt → Option (Int × jSt)) (x0 : Int) (x1 : Int) (S : jSt) : Option (Int × jSt) :=
  if 141 ≤ x1 then fput S x0 12 23 0 (fun S1 => fput S1 x0 12 24 0 (fun S2 => some (0, S2))) else fgetr S x0 12 25 (fun v3 => fgetr S x0 12 0 (fun v4 => fald S v4 x1 1 (fun v5 => fast S v3 x1 1 v5 (fun S6 => flet (w32 (x1 + 1)) (fun v7 => r3 x0 v7 S6)))))
theorem p_f_X12_setAside_b3B {G : jG} {d : Nat} {S0 : jSt} (hd0 : 1 ≤ d) {r3 : Int → Int → jSt → Option (Int × jSt)} (k3 : ∀ (x0 : Int) (x1 : Int) (S : jSt), (0 ≤ (x0)) → (R32 (x1)) → J G yX12_setAside cX12_setAside 2 none d S0 3 [(0, 2, x0), (1, 0, x1)] [] S (r3 x0 x1 S)) : ∀ (x0 : Int) (x1 : Int) (S : jSt), (0 ≤ (x0)) → (R32 (x1)) → J G yX12_setAside cX12_setAside 2 none d S0 3 [(0, 2, x0), (1, 0, x1)] [] S (f_X12_setAside_b3B r3 x0 x1 S) := by
  intro x0 x1 S h0 h1
  unfold f_X12_setAside_b3B
  refine j_iload_n 1 dX12_setAside_3 rfl rfl ?_
  refine j_sipush dX12_setAside_4 (by decide) ?_
  refine j_icmp_ge (tgt := 28) h1 (j_r32 141 rfl) dX12_setAside_7 rfl (fun _ => ?_) (fun _ => ?_)
  · refine j_aload_n 0 dX12_setAside_28 rfl rfl ?_
    refine j_iconst dX12_setAside_29 ?_
    refine j_putz (ci := 12) (k := 23) (ty0 := tyX12) rfl in_X12 (Nat.le_of_ble_eq_true rfl) rfl tyX12_ok nmX12 rfl rfl (by decide +kernel) jz0 fl_X12_43 dX12_setAside_30 (fun S1 => ?_)
    refine j_aload_n 0 dX12_setAside_33 rfl rfl ?_
    refine j_iconst dX12_setAside_34 ?_
    refine j_puti (ci := 12) (k := 24) (ty0 := tyX12) rfl in_X12 (Nat.le_of_ble_eq_true rfl) rfl tyX12_ok nmX12 rfl rfl (by decide +kernel) (jZ_R jz0) fl_X12_331 dX12_setAside_35 (fun S2 => ?_)
    exact j_return dX12_setAside_38
  · refine j_aload_n 0 dX12_setAside_10 rfl rfl ?_
    refine j_getr (ci := 12) (k := 25) rfl in_X12 (Nat.le_of_ble_eq_true rfl) rfl rfl fl_X12_47 dX12_setAside_11 (fun (v3 : Int) (hv3 : 0 ≤ v3) => ?_)
    refine j_iload_n 1 dX12_setAside_14 rfl rfl ?_
    refine j_aload_n 0 dX12_setAside_15 rfl rfl ?_
    refine j_getr (ci := 12) (k := 0) rfl in_X12 (Nat.le_of_ble_eq_true rfl) rfl rfl fl_X12_7 dX12_setAside_16 (fun (v4 : Int) (hv4 : 0 ≤ v4) => ?_)
    refine j_iload_n 1 dX12_setAside_19 rfl rfl ?_
    refine j_iaload h1 dX12_setAside_20 (fun (v5 : Int) (hv5 : R32 (v5)) => ?_)
    refine j_iastore h1 hv5 dX12_setAside_21 (fun S6 => ?_)
    refine j_iincL (q := 1) dX12_setAside_22 rfl (Nat.le_of_ble_eq_true rfl) (fun v7 hv7 => ?_)
    refine j_lv (lv' := [(1, 0, v7), (0, 2, x0)]) rfl ?_
    refine j_goto (tgt := 3) dX12_setAside_25 rfl ?_
    refine j_sub [1, 0] rfl ?_
    exact k3 x0 v7 S6 h0 hv7
def f_X12_setAside_b3 : Int → Int → jSt → Option (Int × jSt) := jrep (β := Int → Int → jSt → Option (Int × jSt)) (fun _ _ _ => none) (fun r => f_X12_setAside_b3B r) jN
theorem p_f_X12_setAside_b3 {G : jG} {d : Nat} {S0 : jSt} (hd0 : 1 ≤ d) : ∀ (x0 : Int) (x1 : Int) (S : jSt), (0 ≤ (x0)) → (R32 (x1)) → J G yX12_setAside cX12_setAside 2 none d S0 3 [(0, 2, x0), (1, 0, x1)] [] S (f_X12_setAside_b3  x0 x1 S) :=
  jrep_ind (P := fun (r : Int → Int → jSt → Option (Int × jSt)) => ∀ (x0 : Int) (x1 : Int) (S : jSt), (0 ≤ (x0)) → (R32 (x1)) → J G yX12_setAside cX12_setAside 2 none d S0 3 [(0, 2, x0), (1, 0, x1)] [] S (r x0 x1 S)) (by intros; exact j_none) (fun r k => p_f_X12_setAside_b3B hd0 k) jN
def f_X12_setAside (a0 : Int) (S : jSt) : Option (Int × jSt) :=
  f_X12_setAside_b3 a0 7 S
theorem e_X12_setAside {G : jG} {d : Nat} {S0 : jSt} (hd0 : 1 ≤ d) (a0 : Int) (S : jSt) (h0 : 0 ≤ (a0)) : J G yX12_setAside cX12_setAside 2 none d S0 0 [(0, 2, a0)] [] S (f_X12_setAside a0 S) := by
  unfold f_X12_setAside
  refine j_bipush dX12_setAside_0 (by decide) ?_
  refine j_istore_n (lv' := [(1, 0, 7), (0, 2, a0)]) dX12_setAside_2 rfl (Nat.le_of_ble_eq_true rfl) rfl ?_
  refine j_sub [1, 0] rfl ?_
  exact p_f_X12_setAside_b3 hd0 a0 7 S h0 (j_r32 7 rfl)
theorem c_X12_setAside {G : jG} (a0 : Int) (S : jSt) (h0 : 0 ≤ (a0)) : CT G yX12_setAside cX12_setAside 2 none 1 ([(2, a0)].map jval) S (f_X12_setAside a0 S) := ct_of [(2, a0)] (by decide) rfl (Nat.le_of_ble_eq_true rfl) (e_X12_setAside (Nat.le_refl _) a0 S h0)
-- X12_foretold
def f_X12_foretold_b32 (S : jSt) : Option (Int × jSt) :=
  some ((-2), S)
theorem p_f_X12_foretold_b32 {G : jG} {d : Nat} {S0 : jSt} (hd0 : 10 ≤ d) : ∀ (S : jSt), J G yX12_foretold cX12_foretold 5 (some .int) d S0 32 [] [] S (f_X12_foretold_b32   S) := by
  intro S
  unfold f_X12_foretold_b32
  refine j_bipush dX12_foretold_32 (by decide) ?_
  exact j_ireturn (j_r32 (-2) rfl) dX12_foretold_34
def f_X12_foretold_b103 (x0 : Int) (x1 : Int) (S : jSt) : Option (Int × jSt) :=
  fcallv S x0 12 (f_X12_putBack x0 S) (fun v8 S9 => some (x1, S9))
theorem p_f_X12_foretold_b103 {G : jG} {d : Nat} {S0 : jSt} (hd0 : 10 ≤ d) : ∀ (x0 : Int) (x1 : Int) (S : jSt), (0 ≤ (x0)) → (R32 (x1)) → J G yX12_foretold cX12_foretold 5 (some .int) d S0 103 [(0, 2, x0)] [(0, x1)] S (f_X12_foretold_b103  x0 x1 S) := by
  intro x0 x1 S h0 h1
  unfold f_X12_foretold_b103
  refine j_istore (lv' := [(4, 0, x1), (0, 2, x0)]) dX12_foretold_103 (Nat.le_of_ble_eq_true rfl) rfl ?_
  refine j_aload_n 1 dX12_foretold_105 rfl rfl ?_
  refine j_callV (ci := 12) (As := []) (st := []) kc_X12_putBack (c_X12_putBack x0 S h0) rfl lm_X12_418 ki_X12_putBack ke_X12_putBack rfl (Nat.le_of_ble_eq_true rfl) (Nat.le_trans (m := 10) (Nat.le_of_ble_eq_true rfl) hd0) dX12_foretold_106 (fun v8 S9 _ => ?_)
  refine j_iload 0 dX12_foretold_109 rfl ?_
  exact j_ireturn h1 dX12_foretold_111
def f_X12_foretold_b65 (r42 : Int → Int → Int → Int → Int → jSt → Option (Int × jSt)) (x0 : Int) (x1 : Int) (x2 : Int) (x3 : Int) (x4 : Int) (S : jSt) : Option (Int × jSt) :=
  flet (w32 (x4 + 1)) (fun v16 => r42 x0 x1 x2 x3 v16 S)
theorem p_f_X12_foretold_b65 {G : jG} {d : Nat} {S0 : jSt} (hd0 : 10 ≤ d) {r42 : Int → Int → Int → Int → Int → jSt → Option (Int × jSt)} (k42 : ∀ (x0 : Int) (x1 : Int) (x2 : Int) (x3 : Int) (x4 : Int) (S : jSt), (0 ≤ (x0)) → (R32 (x1)) → (R32 (x2)) → (R32 (x3)) → (R32 (x4)) → J G yX12_foretold cX12_foretold 5 (some .int) d S0 42 [(0, 2, x0), (1, 0, x1), (2, 0, x2), (3, 0, x3), (4, 0, x4)] [] S (r42 x0 x1 x2 x3 x4 S)) : ∀ (x0 : Int) (x1 : Int) (x2 : Int) (x3 : Int) (x4 : Int) (S : jSt), (0 ≤ (x0)) → (R32 (x1)) → (R32 (x2)) → (R32 (x3)) → (R32 (x4)) → J G yX12_foretold cX12_foretold 5 (some .int) d S0 65 [(0, 2, x0), (1, 0, x1), (2, 0, x2), (3, 0, x3), (4, 0, x4)] [] S (f_X12_foretold_b65 r42 x0 x1 x2 x3 x4 S) := by
  intro x0 x1 x2 x3 x4 S h0 h1 h2 h3 h4
  unfold f_X12_foretold_b65
  refine j_iincL (q := 4) dX12_foretold_65 rfl (Nat.le_of_ble_eq_true rfl) (fun v16 hv16 => ?_)
  refine j_lv (lv' := [(4, 0, v16), (0, 2, x0), (1, 0, x1), (2, 0, x2), (3, 0, x3)]) rfl ?_
  refine j_goto (tgt := 42) dX12_foretold_68 rfl ?_
  refine j_sub [1, 2, 3, 4, 0] rfl ?_
  exact k42 x0 x1 x2 x3 v16 S h0 h1 h2 h3 hv16
def f_X12_foretold_b42B (r42 : Int → Int → Int → Int → Int → jSt → Option (Int × jSt)) (x0 : Int) (x1 : Int) (x2 : Int) (x3 : Int) (x4 : Int) (S : jSt) : Option (Int × jSt) :=
  if x1 ≤ x4 then if x2 = 0 then fgetr S x0 12 0 (fun v12 => fald S v12 8 1 (fun v13 => f_X12_foretold_b103 x0 v13 S)) else if x2 = 1 then fcallv S x0 12 (f_X12_get x0 x3 1 S) (fun v10 S11 => f_X12_foretold_b103 x0 v10 S11) else fget S x0 12 24 (fun v7 => f_X12_foretold_b103 x0 v7 S) else fgetr S x0 12 0 (fun v14 => fald S v14 7 1 (fun v15 => if 9999 ≤ v15 then f_X12_foretold_b65 r42 x0 x1 x2 x3 x4 S else fcallv S x0 12 (f_X12_pass x0 S) (fun v17 S18 => f_X12_foretold_b65 r42 x0 x1 x2 x3 x4 S18)))
theorem p_f_X12_foretold_b42B {G : jG} {d : Nat} {S0 : jSt} (hd0 : 10 ≤ d) {r42 : Int → Int → Int → Int → Int → jSt → Option (Int × jSt)} (k42 : ∀ (x0 : Int) (x1 : Int) (x2 : Int) (x3 : Int) (x4 : Int) (S : jSt), (0 ≤ (x0)) → (R32 (x1)) → (R32 (x2)) → (R32 (x3)) → (R32 (x4)) → J G yX12_foretold cX12_foretold 5 (some .int) d S0 42 [(0, 2, x0), (1, 0, x1), (2, 0, x2), (3, 0, x3), (4, 0, x4)] [] S (r42 x0 x1 x2 x3 x4 S)) : ∀ (x0 : Int) (x1 : Int) (x2 : Int) (x3 : Int) (x4 : Int) (S : jSt), (0 ≤ (x0)) → (R32 (x1)) → (R32 (x2)) → (R32 (x3)) → (R32 (x4)) → J G yX12_foretold cX12_foretold 5 (some .int) d S0 42 [(0, 2, x0), (1, 0, x1), (2, 0, x2), (3, 0, x3), (4, 0, x4)] [] S (f_X12_foretold_b42B r42 x0 x1 x2 x3 x4 S) := by
  intro x0 x1 x2 x3 x4 S h0 h1 h2 h3 h4
  unfold f_X12_foretold_b42B
  refine j_iload 4 dX12_foretold_42 rfl ?_
  refine j_iload_n 1 dX12_foretold_44 rfl rfl ?_
  refine j_icmp_ge (tgt := 71) h4 h1 dX12_foretold_45 rfl (fun _ => ?_) (fun _ => ?_)
  · refine j_iload_n 2 dX12_foretold_71 rfl rfl ?_
    refine j_if_ne (tgt := 85) h2 dX12_foretold_72 rfl (fun _ => ?_) (fun _ => ?_)
    · refine j_iload_n 2 dX12_foretold_85 rfl rfl ?_
      refine j_iconst dX12_foretold_86 ?_
      refine j_icmp_ne (tgt := 99) h2 (jZ_R jz1) dX12_foretold_87 rfl (fun _ => ?_) (fun _ => ?_)
      · refine j_aload_n 0 dX12_foretold_99 rfl rfl ?_
        refine j_get (ci := 12) (k := 24) (t := 0) rfl in_X12 (Nat.le_of_ble_eq_true rfl) rfl rfl fl_X12_331 dX12_foretold_100 (fun (v7 : Int) (hv7 : R32 (v7)) => ?_)
        refine j_sub [0] rfl ?_
        exact p_f_X12_foretold_b103 hd0 x0 v7 S h0 hv7
      · refine j_aload_n 0 dX12_foretold_90 rfl rfl ?_
        refine j_iload_n 3 dX12_foretold_91 rfl rfl ?_
        refine j_iconst dX12_foretold_92 ?_
        refine j_callV (ci := 12) (As := [(0, x3), (0, 1)]) (st := []) kc_X12_get (c_X12_get x0 x3 1 S h0 h3 (jZ_R jz1)) rfl lm_X12_68 ki_X12_get ke_X12_get rfl (Nat.le_of_ble_eq_true rfl) (Nat.le_trans (m := 10) (Nat.le_of_ble_eq_true rfl) hd0) dX12_foretold_93 (fun (v10 : Int) (S11 : jSt) (hv10 : R32 (v10)) => ?_)
        refine j_goto (tgt := 103) dX12_foretold_96 rfl ?_
        refine j_sub [0] rfl ?_
        exact p_f_X12_foretold_b103 hd0 x0 v10 S11 h0 hv10
    · refine j_aload_n 0 dX12_foretold_75 rfl rfl ?_
      refine j_getr (ci := 12) (k := 0) rfl in_X12 (Nat.le_of_ble_eq_true rfl) rfl rfl fl_X12_7 dX12_foretold_76 (fun (v12 : Int) (hv12 : 0 ≤ v12) => ?_)
      refine j_bipush dX12_foretold_79 (by decide) ?_
      refine j_iaload (j_r32 8 rfl) dX12_foretold_81 (fun (v13 : Int) (hv13 : R32 (v13)) => ?_)
      refine j_goto (tgt := 103) dX12_foretold_82 rfl ?_
      refine j_sub [0] rfl ?_
      exact p_f_X12_foretold_b103 hd0 x0 v13 S h0 hv13
  · refine j_aload_n 0 dX12_foretold_48 rfl rfl ?_
    refine j_getr (ci := 12) (k := 0) rfl in_X12 (Nat.le_of_ble_eq_true rfl) rfl rfl fl_X12_7 dX12_foretold_49 (fun (v14 : Int) (hv14 : 0 ≤ v14) => ?_)
    refine j_bipush dX12_foretold_52 (by decide) ?_
    refine j_iaload (j_r32 7 rfl) dX12_foretold_54 (fun (v15 : Int) (hv15 : R32 (v15)) => ?_)
    refine j_sipush dX12_foretold_55 (by decide) ?_
    refine j_icmp_ge (tgt := 65) hv15 (j_r32 9999 rfl) dX12_foretold_58 rfl (fun _ => ?_) (fun _ => ?_)
    · exact p_f_X12_foretold_b65 hd0 k42 x0 x1 x2 x3 x4 S h0 h1 h2 h3 h4
    · refine j_aload_n 0 dX12_foretold_61 rfl rfl ?_
      refine j_callV (ci := 12) (As := []) (st := []) kc_X12_pass (c_X12_pass x0 S h0) rfl lm_X12_373 ki_X12_pass ke_X12_pass rfl (Nat.le_of_ble_eq_true rfl) (Nat.le_trans (m := 10) (Nat.le_of_ble_eq_true rfl) hd0) dX12_foretold_62 (fun v17 S18 _ => ?_)
      exact p_f_X12_foretold_b65 hd0 k42 x0 x1 x2 x3 x4 S18 h0 h1 h2 h3 h4
def f_X12_foretold_b42 : Int → Int → Int → Int → Int → jSt → Option (Int × jSt) := jrep (β := Int → Int → Int → Int → Int → jSt → Option (Int × jSt)) (fun _ _ _ _ _ _ => none) (fun r => f_X12_foretold_b42B r) jN
theorem p_f_X12_foretold_b42 {G : jG} {d : Nat} {S0 : jSt} (hd0 : 10 ≤ d) : ∀ (x0 : Int) (x1 : Int) (x2 : Int) (x3 : Int) (x4 : Int) (S : jSt), (0 ≤ (x0)) → (R32 (x1)) → (R32 (x2)) → (R32 (x3)) → (R32 (x4)) → J G yX12_foretold cX12_foretold 5 (some .int) d S0 42 [(0, 2, x0), (1, 0, x1), (2, 0, x2), (3, 0, x3), (4, 0, x4)] [] S (f_X12_foretold_b42  x0 x1 x2 x3 x4 S) :=
  jrep_ind (P := fun (r : Int → Int → Int → Int → Int → jSt → Option (Int × jSt)) => ∀ (x0 : Int) (x1 : Int) (x2 : Int) (x3 : Int) (x4 : Int) (S : jSt), (0 ≤ (x0)) → (R32 (x1)) → (R32 (x2)) → (R32 (x3)) → (R32 (x4)) → J G yX12_foretold cX12_foretold 5 (some .int) d S0 42 [(0, 2, x0), (1, 0, x1), (2, 0, x2), (3, 0, x3), (4, 0, x4)] [] S (r x0 x1 x2 x3 x4 S)) (by intros; exact j_none) (fun r k => p_f_X12_foretold_b42B hd0 k) jN
def f_X12_foretold_b35 (x0 : Int) (x1 : Int) (x2 : Int) (x3 : Int) (S : jSt) : Option (Int × jSt) :=
  fcallv S x0 12 (f_X12_setAside x0 S) (fun v5 S6 => f_X12_foretold_b42 x0 x1 x2 x3 0 S6)
theorem p_f_X12_foretold_b35 {G : jG} {d : Nat} {S0 : jSt} (hd0 : 10 ≤ d) : ∀ (x0 : Int) (x1 : Int) (x2 : Int) (x3 : Int) (S : jSt), (0 ≤ (x0)) → (R32 (x1)) → (R32 (x2)) → (R32 (x3)) → J G yX12_foretold cX12_foretold 5 (some .int) d S0 35 [(0, 2, x0), (1, 0, x1), (2, 0, x2), (3, 0, x3)] [] S (f_X12_foretold_b35  x0 x1 x2 x3 S) := by
  intro x0 x1 x2 x3 S h0 h1 h2 h3
  unfold f_X12_foretold_b35
  refine j_aload_n 0 dX12_foretold_35 rfl rfl ?_
  refine j_callV (ci := 12) (As := []) (st := []) kc_X12_setAside (c_X12_setAside x0 S h0) rfl lm_X12_415 ki_X12_setAside ke_X12_setAside rfl (Nat.le_of_ble_eq_true rfl) (Nat.le_trans (m := 10) (Nat.le_of_ble_eq_true rfl) hd0) dX12_foretold_36 (fun v5 S6 _ => ?_)
  refine j_iconst dX12_foretold_39 ?_
  refine j_istore (lv' := [(4, 0, 0), (0, 2, x0), (1, 0, x1), (2, 0, x2), (3, 0, x3)]) dX12_foretold_40 (Nat.le_of_ble_eq_true rfl) rfl ?_
  refine j_sub [1, 2, 3, 4, 0] rfl ?_
  exact p_f_X12_foretold_b42 hd0 x0 x1 x2 x3 0 S6 h0 h1 h2 h3 (jZ_R jz0)
def f_X12_foretold (a0 : Int) (a1 : Int) (a2 : Int) (a3 : Int) (S : jSt) : Option (Int × jSt) :=
  fcall (f_X12_isIn a1 1 60 S) (fun v1 S2 => if v1 = 0 then f_X12_foretold_b32 S2 else fcall (f_X12_isIn a2 0 2 S2) (fun v3 S4 => if v3 = 0 then f_X12_foretold_b32 S4 else if a2 = 1 then fcallv S4 a0 12 (f_X12_isLot a0 a3 S4) (fun v19 S20 => if v19 = 0 then f_X12_foretold_b32 S20 else f_X12_foretold_b35 a0 a1 a2 a3 S20) else f_X12_foretold_b35 a0 a1 a2 a3 S4))
theorem e_X12_foretold {G : jG} {d : Nat} {S0 : jSt} (hd0 : 10 ≤ d) (a0 : Int) (a1 : Int) (a2 : Int) (a3 : Int) (S : jSt) (h0 : 0 ≤ (a0)) (h1 : R32 (a1)) (h2 : R32 (a2)) (h3 : R32 (a3)) : J G yX12_foretold cX12_foretold 5 (some .int) d S0 0 [(0, 2, a0), (1, 0, a1), (2, 0, a2), (3, 0, a3)] [] S (f_X12_foretold a0 a1 a2 a3 S) := by
  unfold f_X12_foretold
  refine j_iload_n 1 dX12_foretold_0 rfl rfl ?_
  refine j_iconst dX12_foretold_1 ?_
  refine j_bipush dX12_foretold_2 (by decide) ?_
  refine j_callS (As := [(0, a1), (0, 1), (0, 60)]) (st := []) kc_X12_isIn (c_X12_isIn a1 1 60 S h1 (jZ_R jz1) (j_r32 60 rfl)) lm_X12_60 ks_X12_isIn rfl (Nat.le_of_ble_eq_true rfl) (Nat.le_trans (m := 10) (Nat.le_of_ble_eq_true rfl) hd0) dX12_foretold_4 (fun (v1 : Int) (S2 : jSt) (hv1 : (v1) = 0 ∨ (v1) = 1) => ?_)
  refine j_if_eq (tgt := 32) (jZ_R hv1) dX12_foretold_7 rfl (fun _ => ?_) (fun _ => ?_)
  · refine j_sub [] rfl ?_
    exact p_f_X12_foretold_b32 hd0 S2
  · refine j_iload_n 2 dX12_foretold_10 rfl rfl ?_
    refine j_iconst dX12_foretold_11 ?_
    refine j_iconst dX12_foretold_12 ?_
    refine j_callS (As := [(0, a2), (0, 0), (0, 2)]) (st := []) kc_X12_isIn (c_X12_isIn a2 0 2 S2 h2 (jZ_R jz0) (j_r32 2 rfl)) lm_X12_60 ks_X12_isIn rfl (Nat.le_of_ble_eq_true rfl) (Nat.le_trans (m := 10) (Nat.le_of_ble_eq_true rfl) hd0) dX12_foretold_13 (fun (v3 : Int) (S4 : jSt) (hv3 : (v3) = 0 ∨ (v3) = 1) => ?_)
    refine j_if_eq (tgt := 32) (jZ_R hv3) dX12_foretold_16 rfl (fun _ => ?_) (fun _ => ?_)
    · refine j_sub [] rfl ?_
      exact p_f_X12_foretold_b32 hd0 S4
    · refine j_iload_n 2 dX12_foretold_19 rfl rfl ?_
      refine j_iconst dX12_foretold_20 ?_
      refine j_icmp_ne (tgt := 35) h2 (jZ_R jz1) dX12_foretold_21 rfl (fun _ => ?_) (fun _ => ?_)
      · exact p_f_X12_foretold_b35 hd0 a0 a1 a2 a3 S4 h0 h1 h2 h3
      · refine j_aload_n 0 dX12_foretold_24 rfl rfl ?_
        refine j_iload_n 3 dX12_foretold_25 rfl rfl ?_
        refine j_callV (ci := 12) (As := [(0, a3)]) (st := []) kc_X12_isLot (c_X12_isLot a0 a3 S4 h0 h3) rfl lm_X12_64 ki_X12_isLot ke_X12_isLot rfl (Nat.le_of_ble_eq_true rfl) (Nat.le_trans (m := 10) (Nat.le_of_ble_eq_true rfl) hd0) dX12_foretold_26 (fun (v19 : Int) (S20 : jSt) (hv19 : (v19) = 0 ∨ (v19) = 1) => ?_)
        refine j_if_ne (tgt := 35) (jZ_R hv19) dX12_foretold_29 rfl (fun _ => ?_) (fun _ => ?_)
        · exact p_f_X12_foretold_b35 hd0 a0 a1 a2 a3 S20 h0 h1 h2 h3
        · refine j_sub [] rfl ?_
          exact p_f_X12_foretold_b32 hd0 S20
theorem c_X12_foretold {G : jG} (a0 : Int) (a1 : Int) (a2 : Int) (a3 : Int) (S : jSt) (h0 : 0 ≤ (a0)) (h1 : R32 (a1)) (h2 : R32 (a2)) (h3 : R32 (a3)) : CT G yX12_foretold cX12_foretold 5 (some .int) 10 ([(2, a0), (0, a1), (0, a2), (0, a3)].map jval) S (f_X12_foretold a0 a1 a2 a3 S) := ct_of [(2, a0), (0, a1), (0, a2), (0, a3)] (by decide) rfl (Nat.le_of_ble_eq_true rfl) (e_X12_foretold (Nat.le_refl _) a0 a1 a2 a3 S h0 h1 h2 h3)
-- X12_gone
def f_X12_gone_b31 (S : jSt) : Option (Int × jSt) :=
  some (0, S)
theorem p_f_X12_gone_b31 {G : jG} {d : Nat} {S0 : jSt} (hd0 : 3 ≤ d) : ∀ (S : jSt), J G yX12_gone cX12_gone 3 (some .boolean) d S0 31 [] [] S (f_X12_gone_b31   S) := by
  intro S
  unfold f_X12_gone_b31
  refine j_iconst dX12_gone_31 ?_
  exact j_zreturn jz0 dX12_gone_32
def f_X12_gone (a0 : Int) (a1 : Int) (a2 : Int) (S : jSt) : Option (Int × jSt) :=
  fcall (f_X12_isFloor a1 S) (fun v1 S2 => if v1 = 0 then f_X12_gone_b31 S2 else fcall (f_X12_isFloor a2 S2) (fun v3 S4 => if v3 = 0 then f_X12_gone_b31 S4 else fgetr S4 a0 12 0 (fun v5 => fald S4 v5 (w32 (141 + a1)) 1 (fun v6 => fcall (f_X12_has v6 a2 S4) (fun v7 S8 => if v7 = 0 then f_X12_gone_b31 S8 else fcallv S8 a0 12 (f_X12_turnStair a0 a1 a2 S8) (fun v9 S10 => some (1, S10)))))))
theorem e_X12_gone {G : jG} {d : Nat} {S0 : jSt} (hd0 : 3 ≤ d) (a0 : Int) (a1 : Int) (a2 : Int) (S : jSt) (h0 : 0 ≤ (a0)) (h1 : R32 (a1)) (h2 : R32 (a2)) : J G yX12_gone cX12_gone 3 (some .boolean) d S0 0 [(0, 2, a0), (1, 0, a1), (2, 0, a2)] [] S (f_X12_gone a0 a1 a2 S) := by
  unfold f_X12_gone
  refine j_iload_n 1 dX12_gone_0 rfl rfl ?_
  refine j_callS (As := [(0, a1)]) (st := []) kc_X12_isFloor (c_X12_isFloor a1 S h1) lm_X12_72 ks_X12_isFloor rfl (Nat.le_of_ble_eq_true rfl) (Nat.le_trans (m := 3) (Nat.le_of_ble_eq_true rfl) hd0) dX12_gone_1 (fun (v1 : Int) (S2 : jSt) (hv1 : (v1) = 0 ∨ (v1) = 1) => ?_)
  refine j_if_eq (tgt := 31) (jZ_R hv1) dX12_gone_4 rfl (fun _ => ?_) (fun _ => ?_)
  · refine j_sub [] rfl ?_
    exact p_f_X12_gone_b31 hd0 S2
  · refine j_iload_n 2 dX12_gone_7 rfl rfl ?_
    refine j_callS (As := [(0, a2)]) (st := []) kc_X12_isFloor (c_X12_isFloor a2 S2 h2) lm_X12_72 ks_X12_isFloor rfl (Nat.le_of_ble_eq_true rfl) (Nat.le_trans (m := 3) (Nat.le_of_ble_eq_true rfl) hd0) dX12_gone_8 (fun (v3 : Int) (S4 : jSt) (hv3 : (v3) = 0 ∨ (v3) = 1) => ?_)
    refine j_if_eq (tgt := 31) (jZ_R hv3) dX12_gone_11 rfl (fun _ => ?_) (fun _ => ?_)
    · refine j_sub [] rfl ?_
      exact p_f_X12_gone_b31 hd0 S4
    · refine j_aload_n 0 dX12_gone_14 rfl rfl ?_
      refine j_getr (ci := 12) (k := 0) rfl in_X12 (Nat.le_of_ble_eq_true rfl) rfl rfl fl_X12_7 dX12_gone_15 (fun (v5 : Int) (hv5 : 0 ≤ v5) => ?_)
      refine j_sipush dX12_gone_18 (by decide) ?_
      refine j_iload_n 1 dX12_gone_21 rfl rfl ?_
      refine j_iadd dX12_gone_22 ?_
      refine j_iaload (w32_R _) dX12_gone_23 (fun (v6 : Int) (hv6 : R32 (v6)) => ?_)
      refine j_iload_n 2 dX12_gone_24 rfl rfl ?_
      refine j_callS (As := [(0, v6), (0, a2)]) (st := []) kc_X12_has (c_X12_has v6 a2 S4 hv6 h2) lm_X12_249 ks_X12_has rfl (Nat.le_of_ble_eq_true rfl) (Nat.le_trans (m := 3) (Nat.le_of_ble_eq_true rfl) hd0) dX12_gone_25 (fun (v7 : Int) (S8 : jSt) (hv7 : (v7) = 0 ∨ (v7) = 1) => ?_)
      refine j_if_ne (tgt := 33) (jZ_R hv7) dX12_gone_28 rfl (fun _ => ?_) (fun _ => ?_)
      · refine j_aload_n 0 dX12_gone_33 rfl rfl ?_
        refine j_iload_n 1 dX12_gone_34 rfl rfl ?_
        refine j_iload_n 2 dX12_gone_35 rfl rfl ?_
        refine j_callV (ci := 12) (As := [(0, a1), (0, a2)]) (st := []) kc_X12_turnStair (c_X12_turnStair a0 a1 a2 S8 h0 h1 h2) rfl lm_X12_445 ki_X12_turnStair ke_X12_turnStair rfl (Nat.le_of_ble_eq_true rfl) (Nat.le_trans (m := 3) (Nat.le_of_ble_eq_true rfl) hd0) dX12_gone_36 (fun v9 S10 _ => ?_)
        refine j_iconst dX12_gone_39 ?_
        exact j_zreturn jz1 dX12_gone_40
      · refine j_sub [] rfl ?_
        exact p_f_X12_gone_b31 hd0 S8
theorem c_X12_gone {G : jG} (a0 : Int) (a1 : Int) (a2 : Int) (S : jSt) (h0 : 0 ≤ (a0)) (h1 : R32 (a1)) (h2 : R32 (a2)) : CT G yX12_gone cX12_gone 3 (some .boolean) 3 ([(2, a0), (0, a1), (0, a2)].map jval) S (f_X12_gone a0 a1 a2 S) := ct_of [(2, a0), (0, a1), (0, a2)] (by decide) rfl (Nat.le_of_ble_eq_true rfl) (e_X12_gone (Nat.le_refl _) a0 a1 a2 S h0 h1 h2)
-- X12_happens
def f_X12_happens_b163 (S : jSt) : Option (Int × jSt) :=
  some (0, S)
theorem p_f_X12_happens_b163 {G : jG} {d : Nat} {S0 : jSt} (hd0 : 10 ≤ d) : ∀ (S : jSt), J G yX12_happens cX12_happens 3 none d S0 163 [] [] S (f_X12_happens_b163   S) := by
  intro S
  unfold f_X12_happens_b163
  exact j_return dX12_happens_163
def f_X12_happens_b25 (S : jSt) : Option (Int × jSt) :=
  some (0, S)
theorem p_f_X12_happens_b25 {G : jG} {d : Nat} {S0 : jSt} (hd0 : 10 ≤ d) : ∀ (S : jSt), J G yX12_happens cX12_happens 3 none d S0 25 [] [] S (f_X12_happens_b25   S) := by
  intro S
  unfold f_X12_happens_b25
  exact j_return dX12_happens_25
def f_X12_happens (a0 : Int) (a1 : Int) (S : jSt) : Option (Int × jSt) :=
  if 6 = 0 then none else if (irem32 a1 6) ≤ 3 then fgetr S a0 12 0 (fun v1 => fald S v1 0 1 (fun v2 => if v2 = 0 then some (0, S) else fgetr S a0 12 0 (fun v3 => fald S v3 0 1 (fun v4 => if v4 = 0 then none else flet (irem32 a1 v4) (fun v5 => if 6 = 0 then none else if (irem32 a1 6) = 0 then fcallv S a0 12 (f_X12_canSell a0 v5 S) (fun v20 S21 => if v20 = 0 then f_X12_happens_b163 S21 else fcallv S21 a0 12 (f_X12_sellNow a0 v5 S21) (fun v22 S23 => f_X12_happens_b163 S23)) else if 6 = 0 then none else if (irem32 a1 6) = 1 then fcallv S a0 12 (f_X12_canCarry a0 v5 S) (fun v14 S15 => if v14 = 0 then f_X12_happens_b163 S15 else fcallv S15 a0 12 (f_X12_get a0 v5 0 S15) (fun v16 S17 => fcallv S17 a0 12 (f_X12_put a0 v5 0 (w32 (v16 + 1)) S17) (fun v18 S19 => f_X12_happens_b163 S19))) else if 6 = 0 then none else if (irem32 a1 6) = 2 then if 8 = 0 then none else if (irem32 a1 8) = 2 then fcallv S a0 12 (f_X12_canBurn a0 v5 S) (fun v10 S11 => if v10 = 0 then f_X12_happens_b163 S11 else fcallv S11 a0 12 (f_X12_put a0 v5 1 2 S11) (fun v12 S13 => f_X12_happens_b163 S13)) else f_X12_happens_b163 S else if 30 = 0 then none else fcallv S a0 12 (f_X12_canBuy a0 v5 (w32 (20 + (irem32 a1 30))) S) (fun v6 S7 => if v6 = 0 then f_X12_happens_b163 S7 else if 30 = 0 then none else fcallv S7 a0 12 (f_X12_buyNow a0 v5 (w32 (20 + (irem32 a1 30))) S7) (fun v8 S9 => f_X12_happens_b163 S9))))))) else fgetr S a0 12 0 (fun v24 => fald S v24 7 1 (fun v25 => if 9999 ≤ v25 then f_X12_happens_b25 S else fcallv S a0 12 (f_X12_pass a0 S) (fun v26 S27 => f_X12_happens_b25 S27)))
theorem e_X12_happens {G : jG} {d : Nat} {S0 : jSt} (hd0 : 10 ≤ d) (a0 : Int) (a1 : Int) (S : jSt) (h0 : 0 ≤ (a0)) (h1 : R32 (a1)) : J G yX12_happens cX12_happens 3 none d S0 0 [(0, 2, a0), (1, 0, a1)] [] S (f_X12_happens a0 a1 S) := by
  unfold f_X12_happens
  refine j_iload_n 1 dX12_happens_0 rfl rfl ?_
  refine j_bipush dX12_happens_1 (by decide) ?_
  refine j_irem (j_r32 6 rfl) dX12_happens_3 ?_
  refine j_iconst dX12_happens_4 ?_
  refine j_icmp_le (tgt := 26) (irem32_R _ _) (j_r32 3 rfl) dX12_happens_5 rfl (fun _ => ?_) (fun _ => ?_)
  · refine j_aload_n 0 dX12_happens_26 rfl rfl ?_
    refine j_getr (ci := 12) (k := 0) rfl in_X12 (Nat.le_of_ble_eq_true rfl) rfl rfl fl_X12_7 dX12_happens_27 (fun (v1 : Int) (hv1 : 0 ≤ v1) => ?_)
    refine j_iconst dX12_happens_30 ?_
    refine j_iaload (jZ_R jz0) dX12_happens_31 (fun (v2 : Int) (hv2 : R32 (v2)) => ?_)
    refine j_if_ne (tgt := 36) hv2 dX12_happens_32 rfl (fun _ => ?_) (fun _ => ?_)
    · refine j_iload_n 1 dX12_happens_36 rfl rfl ?_
      refine j_aload_n 0 dX12_happens_37 rfl rfl ?_
      refine j_getr (ci := 12) (k := 0) rfl in_X12 (Nat.le_of_ble_eq_true rfl) rfl rfl fl_X12_7 dX12_happens_38 (fun (v3 : Int) (hv3 : 0 ≤ v3) => ?_)
      refine j_iconst dX12_happens_41 ?_
      refine j_iaload (jZ_R jz0) dX12_happens_42 (fun (v4 : Int) (hv4 : R32 (v4)) => ?_)
      refine j_irem hv4 dX12_happens_43 ?_
      refine j_leti (irem32_R _ _) (fun v5 hv5 => ?_)
      refine j_istore_n (lv' := [(2, 0, v5), (0, 2, a0), (1, 0, a1)]) dX12_happens_44 rfl (Nat.le_of_ble_eq_true rfl) rfl ?_
      refine j_iload_n 2 dX12_happens_45 rfl rfl ?_
      refine j_bipush dX12_happens_46 (by decide) ?_
      refine j_irem (j_r32 6 rfl) dX12_happens_48 ?_
      refine j_if_ne (tgt := 69) (irem32_R _ _) dX12_happens_49 rfl (fun _ => ?_) (fun _ => ?_)
      · refine j_iload_n 2 dX12_happens_69 rfl rfl ?_
        refine j_bipush dX12_happens_70 (by decide) ?_
        refine j_irem (j_r32 6 rfl) dX12_happens_72 ?_
        refine j_iconst dX12_happens_73 ?_
        refine j_icmp_ne (tgt := 102) (irem32_R _ _) (jZ_R jz1) dX12_happens_74 rfl (fun _ => ?_) (fun _ => ?_)
        · refine j_iload_n 2 dX12_happens_102 rfl rfl ?_
          refine j_bipush dX12_happens_103 (by decide) ?_
          refine j_irem (j_r32 6 rfl) dX12_happens_105 ?_
          refine j_iconst dX12_happens_106 ?_
          refine j_icmp_ne (tgt := 136) (irem32_R _ _) (j_r32 2 rfl) dX12_happens_107 rfl (fun _ => ?_) (fun _ => ?_)
          · refine j_aload_n 1 dX12_happens_136 rfl rfl ?_
            refine j_iload_n 0 dX12_happens_137 rfl rfl ?_
            refine j_bipush dX12_happens_138 (by decide) ?_
            refine j_iload_n 2 dX12_happens_140 rfl rfl ?_
            refine j_bipush dX12_happens_141 (by decide) ?_
            refine j_irem (j_r32 30 rfl) dX12_happens_143 ?_
            refine j_iadd dX12_happens_144 ?_
            refine j_callV (ci := 12) (As := [(0, v5), (0, w32 (20 + (irem32 a1 30)))]) (st := []) kc_X12_canBuy (c_X12_canBuy a0 v5 (w32 (20 + (irem32 a1 30))) S h0 hv5 (w32_R _)) rfl lm_X12_367 ki_X12_canBuy ke_X12_canBuy rfl (Nat.le_of_ble_eq_true rfl) (Nat.le_trans (m := 10) (Nat.le_of_ble_eq_true rfl) hd0) dX12_happens_145 (fun (v6 : Int) (S7 : jSt) (hv6 : (v6) = 0 ∨ (v6) = 1) => ?_)
            refine j_if_eq (tgt := 163) (jZ_R hv6) dX12_happens_148 rfl (fun _ => ?_) (fun _ => ?_)
            · refine j_sub [] rfl ?_
              exact p_f_X12_happens_b163 hd0 S7
            · refine j_aload_n 1 dX12_happens_151 rfl rfl ?_
              refine j_iload_n 0 dX12_happens_152 rfl rfl ?_
              refine j_bipush dX12_happens_153 (by decide) ?_
              refine j_iload_n 2 dX12_happens_155 rfl rfl ?_
              refine j_bipush dX12_happens_156 (by decide) ?_
              refine j_irem (j_r32 30 rfl) dX12_happens_158 ?_
              refine j_iadd dX12_happens_159 ?_
              refine j_callV (ci := 12) (As := [(0, v5), (0, w32 (20 + (irem32 a1 30)))]) (st := []) kc_X12_buyNow (c_X12_buyNow a0 v5 (w32 (20 + (irem32 a1 30))) S7 h0 hv5 (w32_R _)) rfl lm_X12_370 ki_X12_buyNow ke_X12_buyNow rfl (Nat.le_of_ble_eq_true rfl) (Nat.le_trans (m := 10) (Nat.le_of_ble_eq_true rfl) hd0) dX12_happens_160 (fun v8 S9 _ => ?_)
              refine j_sub [] rfl ?_
              exact p_f_X12_happens_b163 hd0 S9
          · refine j_iload_n 2 dX12_happens_110 rfl rfl ?_
            refine j_bipush dX12_happens_111 (by decide) ?_
            refine j_irem (j_r32 8 rfl) dX12_happens_113 ?_
            refine j_iconst dX12_happens_114 ?_
            refine j_icmp_ne (tgt := 163) (irem32_R _ _) (j_r32 2 rfl) dX12_happens_115 rfl (fun _ => ?_) (fun _ => ?_)
            · refine j_sub [] rfl ?_
              exact p_f_X12_happens_b163 hd0 S
            · refine j_aload_n 1 dX12_happens_118 rfl rfl ?_
              refine j_iload_n 0 dX12_happens_119 rfl rfl ?_
              refine j_callV (ci := 12) (As := [(0, v5)]) (st := []) kc_X12_canBurn (c_X12_canBurn a0 v5 S h0 hv5) rfl lm_X12_364 ki_X12_canBurn ke_X12_canBurn rfl (Nat.le_of_ble_eq_true rfl) (Nat.le_trans (m := 10) (Nat.le_of_ble_eq_true rfl) hd0) dX12_happens_120 (fun (v10 : Int) (S11 : jSt) (hv10 : (v10) = 0 ∨ (v10) = 1) => ?_)
              refine j_if_eq (tgt := 163) (jZ_R hv10) dX12_happens_123 rfl (fun _ => ?_) (fun _ => ?_)
              · refine j_sub [] rfl ?_
                exact p_f_X12_happens_b163 hd0 S11
              · refine j_aload_n 1 dX12_happens_126 rfl rfl ?_
                refine j_iload_n 0 dX12_happens_127 rfl rfl ?_
                refine j_iconst dX12_happens_128 ?_
                refine j_iconst dX12_happens_129 ?_
                refine j_callV (ci := 12) (As := [(0, v5), (0, 1), (0, 2)]) (st := []) kc_X12_put (c_X12_put a0 v5 1 2 S11 h0 hv5 (jZ_R jz1) (j_r32 2 rfl)) rfl lm_X12_75 ki_X12_put ke_X12_put rfl (Nat.le_of_ble_eq_true rfl) (Nat.le_trans (m := 10) (Nat.le_of_ble_eq_true rfl) hd0) dX12_happens_130 (fun v12 S13 _ => ?_)
                refine j_goto (tgt := 163) dX12_happens_133 rfl ?_
                refine j_sub [] rfl ?_
                exact p_f_X12_happens_b163 hd0 S13
        · refine j_aload_n 1 dX12_happens_77 rfl rfl ?_
          refine j_iload_n 0 dX12_happens_78 rfl rfl ?_
          refine j_callV (ci := 12) (As := [(0, v5)]) (st := []) kc_X12_canCarry (c_X12_canCarry a0 v5 S h0 hv5) rfl lm_X12_361 ki_X12_canCarry ke_X12_canCarry rfl (Nat.le_of_ble_eq_true rfl) (Nat.le_trans (m := 10) (Nat.le_of_ble_eq_true rfl) hd0) dX12_happens_79 (fun (v14 : Int) (S15 : jSt) (hv14 : (v14) = 0 ∨ (v14) = 1) => ?_)
          refine j_if_eq (tgt := 163) (jZ_R hv14) dX12_happens_82 rfl (fun _ => ?_) (fun _ => ?_)
          · refine j_sub [] rfl ?_
            exact p_f_X12_happens_b163 hd0 S15
          · refine j_aload_n 1 dX12_happens_85 rfl rfl ?_
            refine j_iload_n 0 dX12_happens_86 rfl rfl ?_
            refine j_iconst dX12_happens_87 ?_
            refine j_aload_n 1 dX12_happens_88 rfl rfl ?_
            refine j_iload_n 0 dX12_happens_89 rfl rfl ?_
            refine j_iconst dX12_happens_90 ?_
            refine j_callV (ci := 12) (As := [(0, v5), (0, 0)]) (st := [(0, 0), (0, v5), (2, a0)]) kc_X12_get (c_X12_get a0 v5 0 S15 h0 hv5 (jZ_R jz0)) rfl lm_X12_68 ki_X12_get ke_X12_get rfl (Nat.le_of_ble_eq_true rfl) (Nat.le_trans (m := 10) (Nat.le_of_ble_eq_true rfl) hd0) dX12_happens_91 (fun (v16 : Int) (S17 : jSt) (hv16 : R32 (v16)) => ?_)
            refine j_iconst dX12_happens_94 ?_
            refine j_iadd dX12_happens_95 ?_
            refine j_callV (ci := 12) (As := [(0, v5), (0, 0), (0, w32 (v16 + 1))]) (st := []) kc_X12_put (c_X12_put a0 v5 0 (w32 (v16 + 1)) S17 h0 hv5 (jZ_R jz0) (w32_R _)) rfl lm_X12_75 ki_X12_put ke_X12_put rfl (Nat.le_of_ble_eq_true rfl) (Nat.le_trans (m := 10) (Nat.le_of_ble_eq_true rfl) hd0) dX12_happens_96 (fun v18 S19 _ => ?_)
            refine j_goto (tgt := 163) dX12_happens_99 rfl ?_
            refine j_sub [] rfl ?_
            exact p_f_X12_happens_b163 hd0 S19
      · refine j_aload_n 1 dX12_happens_52 rfl rfl ?_
        refine j_iload_n 0 dX12_happens_53 rfl rfl ?_
        refine j_callV (ci := 12) (As := [(0, v5)]) (st := []) kc_X12_canSell (c_X12_canSell a0 v5 S h0 hv5) rfl lm_X12_355 ki_X12_canSell ke_X12_canSell rfl (Nat.le_of_ble_eq_true rfl) (Nat.le_trans (m := 10) (Nat.le_of_ble_eq_true rfl) hd0) dX12_happens_54 (fun (v20 : Int) (S21 : jSt) (hv20 : (v20) = 0 ∨ (v20) = 1) => ?_)
        refine j_if_eq (tgt := 163) (jZ_R hv20) dX12_happens_57 rfl (fun _ => ?_) (fun _ => ?_)
        · refine j_sub [] rfl ?_
          exact p_f_X12_happens_b163 hd0 S21
        · refine j_aload_n 1 dX12_happens_60 rfl rfl ?_
          refine j_iload_n 0 dX12_happens_61 rfl rfl ?_
          refine j_callV (ci := 12) (As := [(0, v5)]) (st := []) kc_X12_sellNow (c_X12_sellNow a0 v5 S21 h0 hv5) rfl lm_X12_346 ki_X12_sellNow ke_X12_sellNow rfl (Nat.le_of_ble_eq_true rfl) (Nat.le_trans (m := 10) (Nat.le_of_ble_eq_true rfl) hd0) dX12_happens_62 (fun (v22 : Int) (S23 : jSt) (hv22 : R32 (v22)) => ?_)
          refine j_pop dX12_happens_65 (fun h => nomatch h) ?_
          refine j_goto (tgt := 163) dX12_happens_66 rfl ?_
          refine j_sub [] rfl ?_
          exact p_f_X12_happens_b163 hd0 S23
    · exact j_return dX12_happens_35
  · refine j_aload_n 0 dX12_happens_8 rfl rfl ?_
    refine j_getr (ci := 12) (k := 0) rfl in_X12 (Nat.le_of_ble_eq_true rfl) rfl rfl fl_X12_7 dX12_happens_9 (fun (v24 : Int) (hv24 : 0 ≤ v24) => ?_)
    refine j_bipush dX12_happens_12 (by decide) ?_
    refine j_iaload (j_r32 7 rfl) dX12_happens_14 (fun (v25 : Int) (hv25 : R32 (v25)) => ?_)
    refine j_sipush dX12_happens_15 (by decide) ?_
    refine j_icmp_ge (tgt := 25) hv25 (j_r32 9999 rfl) dX12_happens_18 rfl (fun _ => ?_) (fun _ => ?_)
    · refine j_sub [] rfl ?_
      exact p_f_X12_happens_b25 hd0 S
    · refine j_aload_n 0 dX12_happens_21 rfl rfl ?_
      refine j_callV (ci := 12) (As := []) (st := []) kc_X12_pass (c_X12_pass a0 S h0) rfl lm_X12_373 ki_X12_pass ke_X12_pass rfl (Nat.le_of_ble_eq_true rfl) (Nat.le_trans (m := 10) (Nat.le_of_ble_eq_true rfl) hd0) dX12_happens_22 (fun v26 S27 _ => ?_)
      refine j_sub [] rfl ?_
      exact p_f_X12_happens_b25 hd0 S27
theorem c_X12_happens {G : jG} (a0 : Int) (a1 : Int) (S : jSt) (h0 : 0 ≤ (a0)) (h1 : R32 (a1)) : CT G yX12_happens cX12_happens 3 none 10 ([(2, a0), (0, a1)].map jval) S (f_X12_happens a0 a1 S) := ct_of [(2, a0), (0, a1)] (by decide) rfl (Nat.le_of_ble_eq_true rfl) (e_X12_happens (Nat.le_refl _) a0 a1 S h0 h1)
-- X12_image
def f_X12_image (a0 : Int) (S : jSt) : Option (Int × jSt) :=
  fgetr S a0 12 0 (fun v1 => fgetr S a0 12 1 (fun v2 => fcall (f_X12_copy v1 v2 S) (fun v3 S4 => fgetr S4 a0 12 0 (fun v5 => fald S4 v5 7 1 (fun v6 => some (v6, S4))))))
theorem e_X12_image {G : jG} {d : Nat} {S0 : jSt} (hd0 : 2 ≤ d) (a0 : Int) (S : jSt) (h0 : 0 ≤ (a0)) : J G yX12_image cX12_image 1 (some .int) d S0 0 [(0, 2, a0)] [] S (f_X12_image a0 S) := by
  unfold f_X12_image
  refine j_aload_n 0 dX12_image_0 rfl rfl ?_
  refine j_getr (ci := 12) (k := 0) rfl in_X12 (Nat.le_of_ble_eq_true rfl) rfl rfl fl_X12_7 dX12_image_1 (fun (v1 : Int) (hv1 : 0 ≤ v1) => ?_)
  refine j_aload_n 0 dX12_image_4 rfl rfl ?_
  refine j_getr (ci := 12) (k := 1) rfl in_X12 (Nat.le_of_ble_eq_true rfl) rfl rfl fl_X12_13 dX12_image_5 (fun (v2 : Int) (hv2 : 0 ≤ v2) => ?_)
  refine j_callS (As := [(2, v1), (2, v2)]) (st := []) kc_X12_copy (c_X12_copy v1 v2 S hv1 hv2) lm_X12_56 ks_X12_copy rfl (Nat.le_of_ble_eq_true rfl) (Nat.le_trans (m := 2) (Nat.le_of_ble_eq_true rfl) hd0) dX12_image_8 (fun v3 S4 _ => ?_)
  refine j_aload_n 0 dX12_image_11 rfl rfl ?_
  refine j_getr (ci := 12) (k := 0) rfl in_X12 (Nat.le_of_ble_eq_true rfl) rfl rfl fl_X12_7 dX12_image_12 (fun (v5 : Int) (hv5 : 0 ≤ v5) => ?_)
  refine j_bipush dX12_image_15 (by decide) ?_
  refine j_iaload (j_r32 7 rfl) dX12_image_17 (fun (v6 : Int) (hv6 : R32 (v6)) => ?_)
  exact j_ireturn hv6 dX12_image_18
theorem c_X12_image {G : jG} (a0 : Int) (S : jSt) (h0 : 0 ≤ (a0)) : CT G yX12_image cX12_image 1 (some .int) 2 ([(2, a0)].map jval) S (f_X12_image a0 S) := ct_of [(2, a0)] (by decide) rfl (Nat.le_of_ble_eq_true rfl) (e_X12_image (Nat.le_refl _) a0 S h0)
-- X12_init
def f_X12_init_b173 (r132 : Int → Int → jSt → Option (Int × jSt)) (x0 : Int) (x1 : Int) (x2 : Int) (x3 : Int) (x4 : Int) (x5 : Int) (S : jSt) : Option (Int × jSt) :=
  fast S x2 x3 1 (ior32 x4 x5) (fun S48 => flet (w32 (x1 + 1)) (fun v49 => r132 x0 v49 S48))
theorem p_f_X12_init_b173 {G : jG} {d : Nat} {S0 : jSt} (hd0 : 2 ≤ d) {r132 : Int → Int → jSt → Option (Int × jSt)} (k132 : ∀ (x0 : Int) (x1 : Int) (S : jSt), (0 ≤ (x0)) → (R32 (x1)) → J G yX12_init cX12_init 2 none d S0 132 [(0, 2, x0), (1, 0, x1)] [] S (r132 x0 x1 S)) : ∀ (x0 : Int) (x1 : Int) (x2 : Int) (x3 : Int) (x4 : Int) (x5 : Int) (S : jSt), (0 ≤ (x0)) → (R32 (x1)) → (0 ≤ (x2)) → (R32 (x3)) → (R32 (x4)) → (R32 (x5)) → J G yX12_init cX12_init 2 none d S0 173 [(0, 2, x0), (1, 0, x1)] [(0, x5), (0, x4), (0, x3), (2, x2)] S (f_X12_init_b173 r132 x0 x1 x2 x3 x4 x5 S) := by
  intro x0 x1 x2 x3 x4 x5 S h0 h1 h2 h3 h4 h5
  unfold f_X12_init_b173
  refine j_ior dX12_init_173 ?_
  refine j_iastore h3 (ior32_R _ _) dX12_init_174 (fun S48 => ?_)
  refine j_iincL (q := 1) dX12_init_175 rfl (Nat.le_of_ble_eq_true rfl) (fun v49 hv49 => ?_)
  refine j_lv (lv' := [(1, 0, v49), (0, 2, x0)]) rfl ?_
  refine j_goto (tgt := 132) dX12_init_178 rfl ?_
  refine j_sub [1, 0] rfl ?_
  exact k132 x0 v49 S48 h0 hv49
def f_X12_init_b159 (r132 : Int → Int → jSt → Option (Int × jSt)) (x0 : Int) (x1 : Int) (x2 : Int) (x3 : Int) (x4 : Int) (S : jSt) : Option (Int × jSt) :=
  if 5 ≤ x1 then f_X12_init_b173 r132 x0 x1 x2 x3 x4 0 S else f_X12_init_b173 r132 x0 x1 x2 x3 x4 (ishl32 1 (w32 (x1 + 1))) S
theorem p_f_X12_init_b159 {G : jG} {d : Nat} {S0 : jSt} (hd0 : 2 ≤ d) {r132 : Int → Int → jSt → Option (Int × jSt)} (k132 : ∀ (x0 : Int) (x1 : Int) (S : jSt), (0 ≤ (x0)) → (R32 (x1)) → J G yX12_init cX12_init 2 none d S0 132 [(0, 2, x0), (1, 0, x1)] [] S (r132 x0 x1 S)) : ∀ (x0 : Int) (x1 : Int) (x2 : Int) (x3 : Int) (x4 : Int) (S : jSt), (0 ≤ (x0)) → (R32 (x1)) → (0 ≤ (x2)) → (R32 (x3)) → (R32 (x4)) → J G yX12_init cX12_init 2 none d S0 159 [(0, 2, x0), (1, 0, x1)] [(0, x4), (0, x3), (2, x2)] S (f_X12_init_b159 r132 x0 x1 x2 x3 x4 S) := by
  intro x0 x1 x2 x3 x4 S h0 h1 h2 h3 h4
  unfold f_X12_init_b159
  refine j_iload_n 1 dX12_init_159 rfl rfl ?_
  refine j_iconst dX12_init_160 ?_
  refine j_icmp_ge (tgt := 172) h1 (j_r32 5 rfl) dX12_init_161 rfl (fun _ => ?_) (fun _ => ?_)
  · refine j_iconst dX12_init_172 ?_
    exact p_f_X12_init_b173 hd0 k132 x0 x1 x2 x3 x4 0 S h0 h1 h2 h3 h4 (jZ_R jz0)
  · refine j_iconst dX12_init_164 ?_
    refine j_iload_n 1 dX12_init_165 rfl rfl ?_
    refine j_iconst dX12_init_166 ?_
    refine j_iadd dX12_init_167 ?_
    refine j_ishl dX12_init_168 ?_
    refine j_goto (tgt := 173) dX12_init_169 rfl ?_
    exact p_f_X12_init_b173 hd0 k132 x0 x1 x2 x3 x4 (ishl32 1 (w32 (x1 + 1))) S h0 h1 h2 h3 h4 (ishl32_R _ _)
def f_X12_init_b132B (r132 : Int → Int → jSt → Option (Int × jSt)) (x0 : Int) (x1 : Int) (S : jSt) : Option (Int × jSt) :=
  if 5 < x1 then fgetr S x0 12 0 (fun v41 => fast S v41 147 1 10 (fun S42 => fgetr S42 x0 12 0 (fun v43 => fgetr S42 x0 12 1 (fun v44 => fcall (f_X12_copy v43 v44 S42) (fun v45 S46 => some (0, S46)))))) else fgetr S x0 12 0 (fun v47 => if x1 ≤ 0 then f_X12_init_b159 r132 x0 x1 v47 (w32 (141 + x1)) 0 S else f_X12_init_b159 r132 x0 x1 v47 (w32 (141 + x1)) (ishl32 1 (w32 (x1 - 1))) S)
theorem p_f_X12_init_b132B {G : jG} {d : Nat} {S0 : jSt} (hd0 : 2 ≤ d) {r132 : Int → Int → jSt → Option (Int × jSt)} (k132 : ∀ (x0 : Int) (x1 : Int) (S : jSt), (0 ≤ (x0)) → (R32 (x1)) → J G yX12_init cX12_init 2 none d S0 132 [(0, 2, x0), (1, 0, x1)] [] S (r132 x0 x1 S)) : ∀ (x0 : Int) (x1 : Int) (S : jSt), (0 ≤ (x0)) → (R32 (x1)) → J G yX12_init cX12_init 2 none d S0 132 [(0, 2, x0), (1, 0, x1)] [] S (f_X12_init_b132B r132 x0 x1 S) := by
  intro x0 x1 S h0 h1
  unfold f_X12_init_b132B
  refine j_iload_n 1 dX12_init_132 rfl rfl ?_
  refine j_iconst dX12_init_133 ?_
  refine j_icmp_gt (tgt := 181) h1 (j_r32 5 rfl) dX12_init_134 rfl (fun _ => ?_) (fun _ => ?_)
  · refine j_aload_n 0 dX12_init_181 rfl rfl ?_
    refine j_getr (ci := 12) (k := 0) rfl in_X12 (Nat.le_of_ble_eq_true rfl) rfl rfl fl_X12_7 dX12_init_182 (fun (v41 : Int) (hv41 : 0 ≤ v41) => ?_)
    refine j_sipush dX12_init_185 (by decide) ?_
    refine j_bipush dX12_init_188 (by decide) ?_
    refine j_iastore (j_r32 147 rfl) (j_r32 10 rfl) dX12_init_190 (fun S42 => ?_)
    refine j_aload_n 0 dX12_init_191 rfl rfl ?_
    refine j_getr (ci := 12) (k := 0) rfl in_X12 (Nat.le_of_ble_eq_true rfl) rfl rfl fl_X12_7 dX12_init_192 (fun (v43 : Int) (hv43 : 0 ≤ v43) => ?_)
    refine j_aload_n 0 dX12_init_195 rfl rfl ?_
    refine j_getr (ci := 12) (k := 1) rfl in_X12 (Nat.le_of_ble_eq_true rfl) rfl rfl fl_X12_13 dX12_init_196 (fun (v44 : Int) (hv44 : 0 ≤ v44) => ?_)
    refine j_callS (As := [(2, v43), (2, v44)]) (st := []) kc_X12_copy (c_X12_copy v43 v44 S42 hv43 hv44) lm_X12_56 ks_X12_copy rfl (Nat.le_of_ble_eq_true rfl) (Nat.le_trans (m := 2) (Nat.le_of_ble_eq_true rfl) hd0) dX12_init_199 (fun v45 S46 _ => ?_)
    exact j_return dX12_init_202
  · refine j_aload_n 0 dX12_init_137 rfl rfl ?_
    refine j_getr (ci := 12) (k := 0) rfl in_X12 (Nat.le_of_ble_eq_true rfl) rfl rfl fl_X12_7 dX12_init_138 (fun (v47 : Int) (hv47 : 0 ≤ v47) => ?_)
    refine j_sipush dX12_init_141 (by decide) ?_
    refine j_iload_n 1 dX12_init_144 rfl rfl ?_
    refine j_iadd dX12_init_145 ?_
    refine j_iload_n 1 dX12_init_146 rfl rfl ?_
    refine j_if_le (tgt := 158) h1 dX12_init_147 rfl (fun _ => ?_) (fun _ => ?_)
    · refine j_iconst dX12_init_158 ?_
      exact p_f_X12_init_b159 hd0 k132 x0 x1 v47 (w32 (141 + x1)) 0 S h0 h1 hv47 (w32_R _) (jZ_R jz0)
    · refine j_iconst dX12_init_150 ?_
      refine j_iload_n 1 dX12_init_151 rfl rfl ?_
      refine j_iconst dX12_init_152 ?_
      refine j_isub dX12_init_153 ?_
      refine j_ishl dX12_init_154 ?_
      refine j_goto (tgt := 159) dX12_init_155 rfl ?_
      exact p_f_X12_init_b159 hd0 k132 x0 x1 v47 (w32 (141 + x1)) (ishl32 1 (w32 (x1 - 1))) S h0 h1 hv47 (w32_R _) (ishl32_R _ _)
def f_X12_init_b132 : Int → Int → jSt → Option (Int × jSt) := jrep (β := Int → Int → jSt → Option (Int × jSt)) (fun _ _ _ => none) (fun r => f_X12_init_b132B r) jN
theorem p_f_X12_init_b132 {G : jG} {d : Nat} {S0 : jSt} (hd0 : 2 ≤ d) : ∀ (x0 : Int) (x1 : Int) (S : jSt), (0 ≤ (x0)) → (R32 (x1)) → J G yX12_init cX12_init 2 none d S0 132 [(0, 2, x0), (1, 0, x1)] [] S (f_X12_init_b132  x0 x1 S) :=
  jrep_ind (P := fun (r : Int → Int → jSt → Option (Int × jSt)) => ∀ (x0 : Int) (x1 : Int) (S : jSt), (0 ≤ (x0)) → (R32 (x1)) → J G yX12_init cX12_init 2 none d S0 132 [(0, 2, x0), (1, 0, x1)] [] S (r x0 x1 S)) (by intros; exact j_none) (fun r k => p_f_X12_init_b132B hd0 k) jN
def f_X12_init (a0 : Int) (S : jSt) : Option (Int × jSt) :=
  fnewa S 1 4903 (fun v1 S2 => fput S2 a0 12 0 v1 (fun S3 => fnewa S3 1 4903 (fun v4 S5 => fput S5 a0 12 1 v4 (fun S6 => fnewa S6 1 2820 (fun v7 S8 => fput S8 a0 12 2 v7 (fun S9 => fnewa S9 1 300 (fun v10 S11 => fput S11 a0 12 3 v10 (fun S12 => fput S12 a0 12 5 (-1) (fun S13 => fput S13 a0 12 6 (-1) (fun S14 => fnewa S14 1 160 (fun v15 S16 => fput S16 a0 12 15 v15 (fun S17 => fnewa S17 1 9 (fun v18 S19 => fput S19 a0 12 20 v18 (fun S20 => fnewa S20 2 330 (fun v21 S22 => fput S22 a0 12 21 v21 (fun S23 => fnewa S23 3 330 (fun v24 S25 => fput S25 a0 12 22 v24 (fun S26 => fput S26 a0 12 23 1 (fun S27 => fnewa S27 1 141 (fun v28 S29 => fput S29 a0 12 25 v28 (fun S30 => fnewa S30 1 5 (fun v31 S32 => fput S32 a0 12 26 v31 (fun S33 => fnewa S33 1 5 (fun v34 S35 => fput S35 a0 12 27 v34 (fun S36 => fgetr S36 a0 12 0 (fun v37 => fast S36 v37 9 1 211 (fun S38 => fgetr S38 a0 12 0 (fun v39 => fast S38 v39 3 1 (-1) (fun S40 => f_X12_init_b132 a0 0 S40)))))))))))))))))))))))))))))
theorem e_X12_init {G : jG} {d : Nat} {S0 : jSt} (hd0 : 2 ≤ d) (a0 : Int) (S : jSt) (h0 : 0 ≤ (a0)) : J G yX12_init cX12_init 2 none d S0 0 [(0, 2, a0)] [] S (f_X12_init a0 S) := by
  unfold f_X12_init
  refine j_aload_n 0 dX12_init_0 rfl rfl ?_
  refine j_objInit lo_X12_1 oi_i oi_c (Nat.le_of_ble_eq_true rfl) (Nat.le_trans (Nat.le_of_ble_eq_true rfl) hd0) dX12_init_1 ?_
  refine j_aload_n 0 dX12_init_4 rfl rfl ?_
  refine j_sipush dX12_init_5 (by decide) ?_
  refine j_newai (j_r32 4903 rfl) ac_i dX12_init_8 (fun (v1 : Int) (S2 : jSt) hv1 => ?_)
  refine j_putFr (ci := 12) (k := 0) (ty0 := tyX12) rfl in_X12 (Nat.le_of_ble_eq_true rfl) rfl tyX12_ok nmX12 rfl (Or.inr ⟨_, rfl⟩) rfl rfl rfl (by decide +kernel) hv1 fl_X12_7 dX12_init_10 (fun S3 => ?_)
  refine j_aload_n 0 dX12_init_13 rfl rfl ?_
  refine j_sipush dX12_init_14 (by decide) ?_
  refine j_newai (j_r32 4903 rfl) ac_i dX12_init_17 (fun (v4 : Int) (S5 : jSt) hv4 => ?_)
  refine j_putFr (ci := 12) (k := 1) (ty0 := tyX12) rfl in_X12 (Nat.le_of_ble_eq_true rfl) rfl tyX12_ok nmX12 rfl (Or.inr ⟨_, rfl⟩) rfl rfl rfl (by decide +kernel) hv4 fl_X12_13 dX12_init_19 (fun S6 => ?_)
  refine j_aload_n 0 dX12_init_22 rfl rfl ?_
  refine j_sipush dX12_init_23 (by decide) ?_
  refine j_newai (j_r32 2820 rfl) ac_i dX12_init_26 (fun (v7 : Int) (S8 : jSt) hv7 => ?_)
  refine j_putFr (ci := 12) (k := 2) (ty0 := tyX12) rfl in_X12 (Nat.le_of_ble_eq_true rfl) rfl tyX12_ok nmX12 rfl (Or.inr ⟨_, rfl⟩) rfl rfl rfl (by decide +kernel) hv7 fl_X12_16 dX12_init_28 (fun S9 => ?_)
  refine j_aload_n 0 dX12_init_31 rfl rfl ?_
  refine j_sipush dX12_init_32 (by decide) ?_
  refine j_newai (j_r32 300 rfl) ac_i dX12_init_35 (fun (v10 : Int) (S11 : jSt) hv10 => ?_)
  refine j_putFr (ci := 12) (k := 3) (ty0 := tyX12) rfl in_X12 (Nat.le_of_ble_eq_true rfl) rfl tyX12_ok nmX12 rfl (Or.inr ⟨_, rfl⟩) rfl rfl rfl (by decide +kernel) hv10 fl_X12_19 dX12_init_37 (fun S12 => ?_)
  refine j_aload_n 0 dX12_init_40 rfl rfl ?_
  refine j_iconst dX12_init_41 ?_
  refine j_puti (ci := 12) (k := 5) (ty0 := tyX12) rfl in_X12 (Nat.le_of_ble_eq_true rfl) rfl tyX12_ok nmX12 rfl rfl (by decide +kernel) (j_r32 (-1) rfl) fl_X12_22 dX12_init_42 (fun S13 => ?_)
  refine j_aload_n 0 dX12_init_45 rfl rfl ?_
  refine j_iconst dX12_init_46 ?_
  refine j_puti (ci := 12) (k := 6) (ty0 := tyX12) rfl in_X12 (Nat.le_of_ble_eq_true rfl) rfl tyX12_ok nmX12 rfl rfl (by decide +kernel) (j_r32 (-1) rfl) fl_X12_26 dX12_init_47 (fun S14 => ?_)
  refine j_aload_n 0 dX12_init_50 rfl rfl ?_
  refine j_sipush dX12_init_51 (by decide) ?_
  refine j_newai (j_r32 160 rfl) ac_i dX12_init_54 (fun (v15 : Int) (S16 : jSt) hv15 => ?_)
  refine j_putFr (ci := 12) (k := 15) (ty0 := tyX12) rfl in_X12 (Nat.le_of_ble_eq_true rfl) rfl tyX12_ok nmX12 rfl (Or.inr ⟨_, rfl⟩) rfl rfl rfl (by decide +kernel) hv15 fl_X12_29 dX12_init_56 (fun S17 => ?_)
  refine j_aload_n 0 dX12_init_59 rfl rfl ?_
  refine j_bipush dX12_init_60 (by decide) ?_
  refine j_newai (j_r32 9 rfl) ac_i dX12_init_62 (fun (v18 : Int) (S19 : jSt) hv18 => ?_)
  refine j_putFr (ci := 12) (k := 20) (ty0 := tyX12) rfl in_X12 (Nat.le_of_ble_eq_true rfl) rfl tyX12_ok nmX12 rfl (Or.inr ⟨_, rfl⟩) rfl rfl rfl (by decide +kernel) hv18 fl_X12_32 dX12_init_64 (fun S20 => ?_)
  refine j_aload_n 0 dX12_init_67 rfl rfl ?_
  refine j_sipush dX12_init_68 (by decide) ?_
  refine j_newal (j_r32 330 rfl) ac_l dX12_init_71 (fun (v21 : Int) (S22 : jSt) hv21 => ?_)
  refine j_putFr (ci := 12) (k := 21) (ty0 := tyX12) rfl in_X12 (Nat.le_of_ble_eq_true rfl) rfl tyX12_ok nmX12 rfl (Or.inr ⟨_, rfl⟩) rfl rfl rfl (by decide +kernel) hv21 fl_X12_35 dX12_init_73 (fun S23 => ?_)
  refine j_aload_n 0 dX12_init_76 rfl rfl ?_
  refine j_sipush dX12_init_77 (by decide) ?_
  refine j_newaz (j_r32 330 rfl) ac_z dX12_init_80 (fun (v24 : Int) (S25 : jSt) hv24 => ?_)
  refine j_putFr (ci := 12) (k := 22) (ty0 := tyX12) rfl in_X12 (Nat.le_of_ble_eq_true rfl) rfl tyX12_ok nmX12 rfl (Or.inr ⟨_, rfl⟩) rfl rfl rfl (by decide +kernel) hv24 fl_X12_39 dX12_init_82 (fun S26 => ?_)
  refine j_aload_n 0 dX12_init_85 rfl rfl ?_
  refine j_iconst dX12_init_86 ?_
  refine j_putz (ci := 12) (k := 23) (ty0 := tyX12) rfl in_X12 (Nat.le_of_ble_eq_true rfl) rfl tyX12_ok nmX12 rfl rfl (by decide +kernel) jz1 fl_X12_43 dX12_init_87 (fun S27 => ?_)
  refine j_aload_n 0 dX12_init_90 rfl rfl ?_
  refine j_sipush dX12_init_91 (by decide) ?_
  refine j_newai (j_r32 141 rfl) ac_i dX12_init_94 (fun (v28 : Int) (S29 : jSt) hv28 => ?_)
  refine j_putFr (ci := 12) (k := 25) (ty0 := tyX12) rfl in_X12 (Nat.le_of_ble_eq_true rfl) rfl tyX12_ok nmX12 rfl (Or.inr ⟨_, rfl⟩) rfl rfl rfl (by decide +kernel) hv28 fl_X12_47 dX12_init_96 (fun S30 => ?_)
  refine j_aload_n 0 dX12_init_99 rfl rfl ?_
  refine j_iconst dX12_init_100 ?_
  refine j_newai (j_r32 5 rfl) ac_i dX12_init_101 (fun (v31 : Int) (S32 : jSt) hv31 => ?_)
  refine j_putFr (ci := 12) (k := 26) (ty0 := tyX12) rfl in_X12 (Nat.le_of_ble_eq_true rfl) rfl tyX12_ok nmX12 rfl (Or.inr ⟨_, rfl⟩) rfl rfl rfl (by decide +kernel) hv31 fl_X12_50 dX12_init_103 (fun S33 => ?_)
  refine j_aload_n 0 dX12_init_106 rfl rfl ?_
  refine j_iconst dX12_init_107 ?_
  refine j_newai (j_r32 5 rfl) ac_i dX12_init_108 (fun (v34 : Int) (S35 : jSt) hv34 => ?_)
  refine j_putFr (ci := 12) (k := 27) (ty0 := tyX12) rfl in_X12 (Nat.le_of_ble_eq_true rfl) rfl tyX12_ok nmX12 rfl (Or.inr ⟨_, rfl⟩) rfl rfl rfl (by decide +kernel) hv34 fl_X12_53 dX12_init_110 (fun S36 => ?_)
  refine j_aload_n 0 dX12_init_113 rfl rfl ?_
  refine j_getr (ci := 12) (k := 0) rfl in_X12 (Nat.le_of_ble_eq_true rfl) rfl rfl fl_X12_7 dX12_init_114 (fun (v37 : Int) (hv37 : 0 ≤ v37) => ?_)
  refine j_bipush dX12_init_117 (by decide) ?_
  refine j_sipush dX12_init_119 (by decide) ?_
  refine j_iastore (j_r32 9 rfl) (j_r32 211 rfl) dX12_init_122 (fun S38 => ?_)
  refine j_aload_n 0 dX12_init_123 rfl rfl ?_
  refine j_getr (ci := 12) (k := 0) rfl in_X12 (Nat.le_of_ble_eq_true rfl) rfl rfl fl_X12_7 dX12_init_124 (fun (v39 : Int) (hv39 : 0 ≤ v39) => ?_)
  refine j_iconst dX12_init_127 ?_
  refine j_iconst dX12_init_128 ?_
  refine j_iastore (j_r32 3 rfl) (j_r32 (-1) rfl) dX12_init_129 (fun S40 => ?_)
  refine j_iconst dX12_init_130 ?_
  refine j_istore_n (lv' := [(1, 0, 0), (0, 2, a0)]) dX12_init_131 rfl (Nat.le_of_ble_eq_true rfl) rfl ?_
  refine j_sub [1, 0] rfl ?_
  exact p_f_X12_init_b132 hd0 a0 0 S40 h0 (jZ_R jz0)
theorem c_X12_init {G : jG} (a0 : Int) (S : jSt) (h0 : 0 ≤ (a0)) : CT G yX12_init cX12_init 2 none 2 ([(2, a0)].map jval) S (f_X12_init a0 S) := ct_of [(2, a0)] (by decide) rfl (Nat.le_of_ble_eq_true rfl) (e_X12_init (Nat.le_refl _) a0 S h0)
-- X12_lotsAt
def f_X12_lotsAt_b40 (r4 : Int → Int → Int → Int → jSt → Option (Int × jSt)) (x0 : Int) (x1 : Int) (x2 : Int) (x3 : Int) (x4 : Int) (S : jSt) : Option (Int × jSt) :=
  flet (ior32 x3 x4) (fun v5 => flet (w32 (x2 + 1)) (fun v6 => r4 x0 x1 v5 v6 S))
theorem p_f_X12_lotsAt_b40 {G : jG} {d : Nat} {S0 : jSt} (hd0 : 4 ≤ d) {r4 : Int → Int → Int → Int → jSt → Option (Int × jSt)} (k4 : ∀ (x0 : Int) (x1 : Int) (x2 : Int) (x3 : Int) (S : jSt), (0 ≤ (x0)) → (R32 (x1)) → (R32 (x2)) → (R32 (x3)) → J G yX12_lotsAt cX12_lotsAt 4 (some .int) d S0 4 [(0, 2, x0), (1, 0, x1), (2, 0, x2), (3, 0, x3)] [] S (r4 x0 x1 x2 x3 S)) : ∀ (x0 : Int) (x1 : Int) (x2 : Int) (x3 : Int) (x4 : Int) (S : jSt), (0 ≤ (x0)) → (R32 (x1)) → (R32 (x2)) → (R32 (x3)) → (R32 (x4)) → J G yX12_lotsAt cX12_lotsAt 4 (some .int) d S0 40 [(0, 2, x0), (1, 0, x1), (3, 0, x2)] [(0, x4), (0, x3)] S (f_X12_lotsAt_b40 r4 x0 x1 x2 x3 x4 S) := by
  intro x0 x1 x2 x3 x4 S h0 h1 h2 h3 h4
  unfold f_X12_lotsAt_b40
  refine j_ior dX12_lotsAt_40 ?_
  refine j_leti (ior32_R _ _) (fun v5 hv5 => ?_)
  refine j_istore_n (lv' := [(2, 0, v5), (0, 2, x0), (1, 0, x1), (3, 0, x2)]) dX12_lotsAt_41 rfl (Nat.le_of_ble_eq_true rfl) rfl ?_
  refine j_iincL (q := 3) dX12_lotsAt_42 rfl (Nat.le_of_ble_eq_true rfl) (fun v6 hv6 => ?_)
  refine j_lv (lv' := [(3, 0, v6), (2, 0, v5), (0, 2, x0), (1, 0, x1)]) rfl ?_
  refine j_goto (tgt := 4) dX12_lotsAt_45 rfl ?_
  refine j_sub [2, 3, 1, 0] rfl ?_
  exact k4 x0 x1 v5 v6 S h0 h1 hv5 hv6
def f_X12_lotsAt_b39 (r4 : Int → Int → Int → Int → jSt → Option (Int × jSt)) (x0 : Int) (x1 : Int) (x2 : Int) (x3 : Int) (S : jSt) : Option (Int × jSt) :=
  f_X12_lotsAt_b40 r4 x0 x1 x2 x3 0 S
theorem p_f_X12_lotsAt_b39 {G : jG} {d : Nat} {S0 : jSt} (hd0 : 4 ≤ d) {r4 : Int → Int → Int → Int → jSt → Option (Int × jSt)} (k4 : ∀ (x0 : Int) (x1 : Int) (x2 : Int) (x3 : Int) (S : jSt), (0 ≤ (x0)) → (R32 (x1)) → (R32 (x2)) → (R32 (x3)) → J G yX12_lotsAt cX12_lotsAt 4 (some .int) d S0 4 [(0, 2, x0), (1, 0, x1), (2, 0, x2), (3, 0, x3)] [] S (r4 x0 x1 x2 x3 S)) : ∀ (x0 : Int) (x1 : Int) (x2 : Int) (x3 : Int) (S : jSt), (0 ≤ (x0)) → (R32 (x1)) → (R32 (x2)) → (R32 (x3)) → J G yX12_lotsAt cX12_lotsAt 4 (some .int) d S0 39 [(0, 2, x0), (1, 0, x1), (3, 0, x2)] [(0, x3)] S (f_X12_lotsAt_b39 r4 x0 x1 x2 x3 S) := by
  intro x0 x1 x2 x3 S h0 h1 h2 h3
  unfold f_X12_lotsAt_b39
  refine j_iconst dX12_lotsAt_39 ?_
  exact p_f_X12_lotsAt_b40 hd0 k4 x0 x1 x2 x3 0 S h0 h1 h2 h3 (jZ_R jz0)
def f_X12_lotsAt_b4B (r4 : Int → Int → Int → Int → jSt → Option (Int × jSt)) (x0 : Int) (x1 : Int) (x2 : Int) (x3 : Int) (S : jSt) : Option (Int × jSt) :=
  fgetr S x0 12 0 (fun v1 => fald S v1 0 1 (fun v2 => if v2 ≤ x3 then some (x2, S) else fcallv S x0 12 (f_X12_isInHouse x0 x3 S) (fun v3 S4 => if v3 = 0 then f_X12_lotsAt_b39 r4 x0 x1 x3 x2 S4 else fcallv S4 x0 12 (f_X12_get x0 x3 0 S4) (fun v7 S8 => if v7 = x1 then f_X12_lotsAt_b40 r4 x0 x1 x3 x2 (ishl32 1 x3) S8 else f_X12_lotsAt_b39 r4 x0 x1 x3 x2 S8))))
theorem p_f_X12_lotsAt_b4B {G : jG} {d : Nat} {S0 : jSt} (hd0 : 4 ≤ d) {r4 : Int → Int → Int → Int → jSt → Option (Int × jSt)} (k4 : ∀ (x0 : Int) (x1 : Int) (x2 : Int) (x3 : Int) (S : jSt), (0 ≤ (x0)) → (R32 (x1)) → (R32 (x2)) → (R32 (x3)) → J G yX12_lotsAt cX12_lotsAt 4 (some .int) d S0 4 [(0, 2, x0), (1, 0, x1), (2, 0, x2), (3, 0, x3)] [] S (r4 x0 x1 x2 x3 S)) : ∀ (x0 : Int) (x1 : Int) (x2 : Int) (x3 : Int) (S : jSt), (0 ≤ (x0)) → (R32 (x1)) → (R32 (x2)) → (R32 (x3)) → J G yX12_lotsAt cX12_lotsAt 4 (some .int) d S0 4 [(0, 2, x0), (1, 0, x1), (2, 0, x2), (3, 0, x3)] [] S (f_X12_lotsAt_b4B r4 x0 x1 x2 x3 S) := by
  intro x0 x1 x2 x3 S h0 h1 h2 h3
  unfold f_X12_lotsAt_b4B
  refine j_iload_n 3 dX12_lotsAt_4 rfl rfl ?_
  refine j_aload_n 0 dX12_lotsAt_5 rfl rfl ?_
  refine j_getr (ci := 12) (k := 0) rfl in_X12 (Nat.le_of_ble_eq_true rfl) rfl rfl fl_X12_7 dX12_lotsAt_6 (fun (v1 : Int) (hv1 : 0 ≤ v1) => ?_)
  refine j_iconst dX12_lotsAt_9 ?_
  refine j_iaload (jZ_R jz0) dX12_lotsAt_10 (fun (v2 : Int) (hv2 : R32 (v2)) => ?_)
  refine j_icmp_ge (tgt := 48) h3 hv2 dX12_lotsAt_11 rfl (fun _ => ?_) (fun _ => ?_)
  · refine j_iload_n 2 dX12_lotsAt_48 rfl rfl ?_
    exact j_ireturn h2 dX12_lotsAt_49
  · refine j_iload_n 2 dX12_lotsAt_14 rfl rfl ?_
    refine j_aload_n 0 dX12_lotsAt_15 rfl rfl ?_
    refine j_iload_n 3 dX12_lotsAt_16 rfl rfl ?_
    refine j_callV (ci := 12) (As := [(0, x3)]) (st := [(0, x2)]) kc_X12_isInHouse (c_X12_isInHouse x0 x3 S h0 h3) rfl lm_X12_337 ki_X12_isInHouse ke_X12_isInHouse rfl (Nat.le_of_ble_eq_true rfl) (Nat.le_trans (m := 4) (Nat.le_of_ble_eq_true rfl) hd0) dX12_lotsAt_17 (fun (v3 : Int) (S4 : jSt) (hv3 : (v3) = 0 ∨ (v3) = 1) => ?_)
    refine j_if_eq (tgt := 39) (jZ_R hv3) dX12_lotsAt_20 rfl (fun _ => ?_) (fun _ => ?_)
    · refine j_sub [0, 1, 3] rfl ?_
      exact p_f_X12_lotsAt_b39 hd0 k4 x0 x1 x3 x2 S4 h0 h1 h3 h2
    · refine j_aload_n 0 dX12_lotsAt_23 rfl rfl ?_
      refine j_iload_n 3 dX12_lotsAt_24 rfl rfl ?_
      refine j_iconst dX12_lotsAt_25 ?_
      refine j_callV (ci := 12) (As := [(0, x3), (0, 0)]) (st := [(0, x2)]) kc_X12_get (c_X12_get x0 x3 0 S4 h0 h3 (jZ_R jz0)) rfl lm_X12_68 ki_X12_get ke_X12_get rfl (Nat.le_of_ble_eq_true rfl) (Nat.le_trans (m := 4) (Nat.le_of_ble_eq_true rfl) hd0) dX12_lotsAt_26 (fun (v7 : Int) (S8 : jSt) (hv7 : R32 (v7)) => ?_)
      refine j_iload_n 1 dX12_lotsAt_29 rfl rfl ?_
      refine j_icmp_ne (tgt := 39) hv7 h1 dX12_lotsAt_30 rfl (fun _ => ?_) (fun _ => ?_)
      · refine j_sub [0, 1, 3] rfl ?_
        exact p_f_X12_lotsAt_b39 hd0 k4 x0 x1 x3 x2 S8 h0 h1 h3 h2
      · refine j_iconst dX12_lotsAt_33 ?_
        refine j_iload_n 3 dX12_lotsAt_34 rfl rfl ?_
        refine j_ishl dX12_lotsAt_35 ?_
        refine j_goto (tgt := 40) dX12_lotsAt_36 rfl ?_
        refine j_sub [0, 1, 3] rfl ?_
        exact p_f_X12_lotsAt_b40 hd0 k4 x0 x1 x3 x2 (ishl32 1 x3) S8 h0 h1 h3 h2 (ishl32_R _ _)
def f_X12_lotsAt_b4 : Int → Int → Int → Int → jSt → Option (Int × jSt) := jrep (β := Int → Int → Int → Int → jSt → Option (Int × jSt)) (fun _ _ _ _ _ => none) (fun r => f_X12_lotsAt_b4B r) jN
theorem p_f_X12_lotsAt_b4 {G : jG} {d : Nat} {S0 : jSt} (hd0 : 4 ≤ d) : ∀ (x0 : Int) (x1 : Int) (x2 : Int) (x3 : Int) (S : jSt), (0 ≤ (x0)) → (R32 (x1)) → (R32 (x2)) → (R32 (x3)) → J G yX12_lotsAt cX12_lotsAt 4 (some .int) d S0 4 [(0, 2, x0), (1, 0, x1), (2, 0, x2), (3, 0, x3)] [] S (f_X12_lotsAt_b4  x0 x1 x2 x3 S) :=
  jrep_ind (P := fun (r : Int → Int → Int → Int → jSt → Option (Int × jSt)) => ∀ (x0 : Int) (x1 : Int) (x2 : Int) (x3 : Int) (S : jSt), (0 ≤ (x0)) → (R32 (x1)) → (R32 (x2)) → (R32 (x3)) → J G yX12_lotsAt cX12_lotsAt 4 (some .int) d S0 4 [(0, 2, x0), (1, 0, x1), (2, 0, x2), (3, 0, x3)] [] S (r x0 x1 x2 x3 S)) (by intros; exact j_none) (fun r k => p_f_X12_lotsAt_b4B hd0 k) jN
def f_X12_lotsAt (a0 : Int) (a1 : Int) (S : jSt) : Option (Int × jSt) :=
  f_X12_lotsAt_b4 a0 a1 0 0 S
theorem e_X12_lotsAt {G : jG} {d : Nat} {S0 : jSt} (hd0 : 4 ≤ d) (a0 : Int) (a1 : Int) (S : jSt) (h0 : 0 ≤ (a0)) (h1 : R32 (a1)) : J G yX12_lotsAt cX12_lotsAt 4 (some .int) d S0 0 [(0, 2, a0), (1, 0, a1)] [] S (f_X12_lotsAt a0 a1 S) := by
  unfold f_X12_lotsAt
  refine j_iconst dX12_lotsAt_0 ?_
  refine j_istore_n (lv' := [(2, 0, 0), (0, 2, a0), (1, 0, a1)]) dX12_lotsAt_1 rfl (Nat.le_of_ble_eq_true rfl) rfl ?_
  refine j_iconst dX12_lotsAt_2 ?_
  refine j_istore_n (lv' := [(3, 0, 0), (2, 0, 0), (0, 2, a0), (1, 0, a1)]) dX12_lotsAt_3 rfl (Nat.le_of_ble_eq_true rfl) rfl ?_
  refine j_sub [2, 3, 1, 0] rfl ?_
  exact p_f_X12_lotsAt_b4 hd0 a0 a1 0 0 S h0 h1 (jZ_R jz0) (jZ_R jz0)
theorem c_X12_lotsAt {G : jG} (a0 : Int) (a1 : Int) (S : jSt) (h0 : 0 ≤ (a0)) (h1 : R32 (a1)) : CT G yX12_lotsAt cX12_lotsAt 4 (some .int) 4 ([(2, a0), (0, a1)].map jval) S (f_X12_lotsAt a0 a1 S) := ct_of [(2, a0), (0, a1)] (by decide) rfl (Nat.le_of_ble_eq_true rfl) (e_X12_lotsAt (Nat.le_refl _) a0 a1 S h0 h1)
-- X12_is
def f_X12_is_b51 (x0 : Int) (S : jSt) : Option (Int × jSt) :=
  some (x0, S)
theorem p_f_X12_is_b51 {G : jG} {d : Nat} {S0 : jSt} (hd0 : 5 ≤ d) : ∀ (x0 : Int) (S : jSt), (R32 (x0)) → J G yX12_is cX12_is 2 (some .int) d S0 51 [] [(0, x0)] S (f_X12_is_b51  x0 S) := by
  intro x0 S h0
  unfold f_X12_is_b51
  exact j_ireturn h0 dX12_is_51
def f_X12_is (a0 : Int) (a1 : Int) (S : jSt) : Option (Int × jSt) :=
  fcall (f_X12_isIn a1 0 2 S) (fun v1 S2 => if v1 = 0 then if a1 = 3 then fcallv S2 a0 12 (f_X12_saleFloor a0 S2) (fun v7 S8 => f_X12_is_b51 v7 S8) else if a1 = 4 then fcallv S2 a0 12 (f_X12_saleFloor a0 S2) (fun v3 S4 => fcallv S4 a0 12 (f_X12_lotsAt a0 v3 S4) (fun v5 S6 => f_X12_is_b51 v5 S6)) else f_X12_is_b51 (-2) S2 else fgetr S2 a0 12 0 (fun v9 => fald S2 v9 (w32 (7 + a1)) 1 (fun v10 => f_X12_is_b51 v10 S2)))
theorem e_X12_is {G : jG} {d : Nat} {S0 : jSt} (hd0 : 5 ≤ d) (a0 : Int) (a1 : Int) (S : jSt) (h0 : 0 ≤ (a0)) (h1 : R32 (a1)) : J G yX12_is cX12_is 2 (some .int) d S0 0 [(0, 2, a0), (1, 0, a1)] [] S (f_X12_is a0 a1 S) := by
  unfold f_X12_is
  refine j_iload_n 1 dX12_is_0 rfl rfl ?_
  refine j_iconst dX12_is_1 ?_
  refine j_iconst dX12_is_2 ?_
  refine j_callS (As := [(0, a1), (0, 0), (0, 2)]) (st := []) kc_X12_isIn (c_X12_isIn a1 0 2 S h1 (jZ_R jz0) (j_r32 2 rfl)) lm_X12_60 ks_X12_isIn rfl (Nat.le_of_ble_eq_true rfl) (Nat.le_trans (m := 5) (Nat.le_of_ble_eq_true rfl) hd0) dX12_is_3 (fun (v1 : Int) (S2 : jSt) (hv1 : (v1) = 0 ∨ (v1) = 1) => ?_)
  refine j_if_eq (tgt := 21) (jZ_R hv1) dX12_is_6 rfl (fun _ => ?_) (fun _ => ?_)
  · refine j_iload_n 1 dX12_is_21 rfl rfl ?_
    refine j_iconst dX12_is_22 ?_
    refine j_icmp_ne (tgt := 33) h1 (j_r32 3 rfl) dX12_is_23 rfl (fun _ => ?_) (fun _ => ?_)
    · refine j_iload_n 1 dX12_is_33 rfl rfl ?_
      refine j_iconst dX12_is_34 ?_
      refine j_icmp_ne (tgt := 49) h1 (j_r32 4 rfl) dX12_is_35 rfl (fun _ => ?_) (fun _ => ?_)
      · refine j_bipush dX12_is_49 (by decide) ?_
        refine j_sub [] rfl ?_
        exact p_f_X12_is_b51 hd0 (-2) S2 (j_r32 (-2) rfl)
      · refine j_aload_n 0 dX12_is_38 rfl rfl ?_
        refine j_aload_n 0 dX12_is_39 rfl rfl ?_
        refine j_callV (ci := 12) (As := []) (st := [(2, a0)]) kc_X12_saleFloor (c_X12_saleFloor a0 S2 h0) rfl lm_X12_349 ki_X12_saleFloor ke_X12_saleFloor rfl (Nat.le_of_ble_eq_true rfl) (Nat.le_trans (m := 5) (Nat.le_of_ble_eq_true rfl) hd0) dX12_is_40 (fun (v3 : Int) (S4 : jSt) (hv3 : R32 (v3)) => ?_)
        refine j_callV (ci := 12) (As := [(0, v3)]) (st := []) kc_X12_lotsAt (c_X12_lotsAt a0 v3 S4 h0 hv3) rfl lm_X12_406 ki_X12_lotsAt ke_X12_lotsAt rfl (Nat.le_of_ble_eq_true rfl) (Nat.le_trans (m := 5) (Nat.le_of_ble_eq_true rfl) hd0) dX12_is_43 (fun (v5 : Int) (S6 : jSt) (hv5 : R32 (v5)) => ?_)
        refine j_goto (tgt := 51) dX12_is_46 rfl ?_
        refine j_sub [] rfl ?_
        exact p_f_X12_is_b51 hd0 v5 S6 hv5
    · refine j_aload_n 0 dX12_is_26 rfl rfl ?_
      refine j_callV (ci := 12) (As := []) (st := []) kc_X12_saleFloor (c_X12_saleFloor a0 S2 h0) rfl lm_X12_349 ki_X12_saleFloor ke_X12_saleFloor rfl (Nat.le_of_ble_eq_true rfl) (Nat.le_trans (m := 5) (Nat.le_of_ble_eq_true rfl) hd0) dX12_is_27 (fun (v7 : Int) (S8 : jSt) (hv7 : R32 (v7)) => ?_)
      refine j_goto (tgt := 51) dX12_is_30 rfl ?_
      refine j_sub [] rfl ?_
      exact p_f_X12_is_b51 hd0 v7 S8 hv7
  · refine j_aload_n 0 dX12_is_9 rfl rfl ?_
    refine j_getr (ci := 12) (k := 0) rfl in_X12 (Nat.le_of_ble_eq_true rfl) rfl rfl fl_X12_7 dX12_is_10 (fun (v9 : Int) (hv9 : 0 ≤ v9) => ?_)
    refine j_bipush dX12_is_13 (by decide) ?_
    refine j_iload_n 1 dX12_is_15 rfl rfl ?_
    refine j_iadd dX12_is_16 ?_
    refine j_iaload (w32_R _) dX12_is_17 (fun (v10 : Int) (hv10 : R32 (v10)) => ?_)
    refine j_goto (tgt := 51) dX12_is_18 rfl ?_
    refine j_sub [] rfl ?_
    exact p_f_X12_is_b51 hd0 v10 S2 hv10
theorem c_X12_is {G : jG} (a0 : Int) (a1 : Int) (S : jSt) (h0 : 0 ≤ (a0)) (h1 : R32 (a1)) : CT G yX12_is cX12_is 2 (some .int) 5 ([(2, a0), (0, a1)].map jval) S (f_X12_is a0 a1 S) := ct_of [(2, a0), (0, a1)] (by decide) rfl (Nat.le_of_ble_eq_true rfl) (e_X12_is (Nat.le_refl _) a0 a1 S h0 h1)
-- X12_swap
def f_X12_swap (a0 : Int) (a1 : Int) (a2 : Int) (S : jSt) : Option (Int × jSt) :=
  fgetr S a0 12 26 (fun v1 => fald S v1 a1 1 (fun v2 => fgetr S a0 12 26 (fun v3 => fgetr S a0 12 26 (fun v4 => fald S v4 a2 1 (fun v5 => fast S v3 a1 1 v5 (fun S6 => fgetr S6 a0 12 26 (fun v7 => fast S6 v7 a2 1 v2 (fun S8 => some (0, S8)))))))))
theorem e_X12_swap {G : jG} {d : Nat} {S0 : jSt} (hd0 : 1 ≤ d) (a0 : Int) (a1 : Int) (a2 : Int) (S : jSt) (h0 : 0 ≤ (a0)) (h1 : R32 (a1)) (h2 : R32 (a2)) : J G yX12_swap cX12_swap 4 none d S0 0 [(0, 2, a0), (1, 0, a1), (2, 0, a2)] [] S (f_X12_swap a0 a1 a2 S) := by
  unfold f_X12_swap
  refine j_aload_n 0 dX12_swap_0 rfl rfl ?_
  refine j_getr (ci := 12) (k := 26) rfl in_X12 (Nat.le_of_ble_eq_true rfl) rfl rfl fl_X12_50 dX12_swap_1 (fun (v1 : Int) (hv1 : 0 ≤ v1) => ?_)
  refine j_iload_n 1 dX12_swap_4 rfl rfl ?_
  refine j_iaload h1 dX12_swap_5 (fun (v2 : Int) (hv2 : R32 (v2)) => ?_)
  refine j_istore_n (lv' := [(3, 0, v2), (0, 2, a0), (1, 0, a1), (2, 0, a2)]) dX12_swap_6 rfl (Nat.le_of_ble_eq_true rfl) rfl ?_
  refine j_aload_n 1 dX12_swap_7 rfl rfl ?_
  refine j_getr (ci := 12) (k := 26) rfl in_X12 (Nat.le_of_ble_eq_true rfl) rfl rfl fl_X12_50 dX12_swap_8 (fun (v3 : Int) (hv3 : 0 ≤ v3) => ?_)
  refine j_iload_n 2 dX12_swap_11 rfl rfl ?_
  refine j_aload_n 1 dX12_swap_12 rfl rfl ?_
  refine j_getr (ci := 12) (k := 26) rfl in_X12 (Nat.le_of_ble_eq_true rfl) rfl rfl fl_X12_50 dX12_swap_13 (fun (v4 : Int) (hv4 : 0 ≤ v4) => ?_)
  refine j_iload_n 3 dX12_swap_16 rfl rfl ?_
  refine j_iaload h2 dX12_swap_17 (fun (v5 : Int) (hv5 : R32 (v5)) => ?_)
  refine j_iastore h1 hv5 dX12_swap_18 (fun S6 => ?_)
  refine j_aload_n 1 dX12_swap_19 rfl rfl ?_
  refine j_getr (ci := 12) (k := 26) rfl in_X12 (Nat.le_of_ble_eq_true rfl) rfl rfl fl_X12_50 dX12_swap_20 (fun (v7 : Int) (hv7 : 0 ≤ v7) => ?_)
  refine j_iload_n 3 dX12_swap_23 rfl rfl ?_
  refine j_iload_n 0 dX12_swap_24 rfl rfl ?_
  refine j_iastore h2 hv2 dX12_swap_25 (fun S8 => ?_)
  exact j_return dX12_swap_26
theorem c_X12_swap {G : jG} (a0 : Int) (a1 : Int) (a2 : Int) (S : jSt) (h0 : 0 ≤ (a0)) (h1 : R32 (a1)) (h2 : R32 (a2)) : CT G yX12_swap cX12_swap 4 none 1 ([(2, a0), (0, a1), (0, a2)].map jval) S (f_X12_swap a0 a1 a2 S) := ct_of [(2, a0), (0, a1), (0, a2)] (by decide) rfl (Nat.le_of_ble_eq_true rfl) (e_X12_swap (Nat.le_refl _) a0 a1 a2 S h0 h1 h2)
-- X12_isNextTurn
def f_X12_isNextTurn_b78B (r78 : Int → Int → Int → jSt → Option (Int × jSt)) (x0 : Int) (x1 : Int) (x2 : Int) (S : jSt) : Option (Int × jSt) :=
  if x2 ≤ x1 then some (1, S) else fcallv S x0 12 (f_X12_swap x0 x1 x2 S) (fun v11 S12 => flet (w32 (x2 + (-1))) (fun v13 => flet (w32 (x1 + 1)) (fun v14 => r78 x0 v14 v13 S12)))
theorem p_f_X12_isNextTurn_b78B {G : jG} {d : Nat} {S0 : jSt} (hd0 : 2 ≤ d) {r78 : Int → Int → Int → jSt → Option (Int × jSt)} (k78 : ∀ (x0 : Int) (x1 : Int) (x2 : Int) (S : jSt), (0 ≤ (x0)) → (R32 (x1)) → (R32 (x2)) → J G yX12_isNextTurn cX12_isNextTurn 6 (some .boolean) d S0 78 [(0, 2, x0), (4, 0, x1), (5, 0, x2)] [] S (r78 x0 x1 x2 S)) : ∀ (x0 : Int) (x1 : Int) (x2 : Int) (S : jSt), (0 ≤ (x0)) → (R32 (x1)) → (R32 (x2)) → J G yX12_isNextTurn cX12_isNextTurn 6 (some .boolean) d S0 78 [(0, 2, x0), (4, 0, x1), (5, 0, x2)] [] S (f_X12_isNextTurn_b78B r78 x0 x1 x2 S) := by
  intro x0 x1 x2 S h0 h1 h2
  unfold f_X12_isNextTurn_b78B
  refine j_iload 1 dX12_isNextTurn_78 rfl ?_
  refine j_iload 2 dX12_isNextTurn_80 rfl ?_
  refine j_icmp_ge (tgt := 102) h1 h2 dX12_isNextTurn_82 rfl (fun _ => ?_) (fun _ => ?_)
  · refine j_iconst dX12_isNextTurn_102 ?_
    exact j_zreturn jz1 dX12_isNextTurn_103
  · refine j_aload_n 0 dX12_isNextTurn_85 rfl rfl ?_
    refine j_iload 1 dX12_isNextTurn_86 rfl ?_
    refine j_iload 2 dX12_isNextTurn_88 rfl ?_
    refine j_callV (ci := 12) (As := [(0, x1), (0, x2)]) (st := []) kc_X12_swap (c_X12_swap x0 x1 x2 S h0 h1 h2) rfl lm_X12_421 ki_X12_swap ke_X12_swap rfl (Nat.le_of_ble_eq_true rfl) (Nat.le_trans (m := 2) (Nat.le_of_ble_eq_true rfl) hd0) dX12_isNextTurn_90 (fun v11 S12 _ => ?_)
    refine j_iincL (q := 2) dX12_isNextTurn_93 rfl (Nat.le_of_ble_eq_true rfl) (fun v13 hv13 => ?_)
    refine j_lv (lv' := [(5, 0, v13), (0, 2, x0), (4, 0, x1)]) rfl ?_
    refine j_iincL (q := 2) dX12_isNextTurn_96 rfl (Nat.le_of_ble_eq_true rfl) (fun v14 hv14 => ?_)
    refine j_lv (lv' := [(4, 0, v14), (5, 0, v13), (0, 2, x0)]) rfl ?_
    refine j_goto (tgt := 78) dX12_isNextTurn_99 rfl ?_
    refine j_sub [2, 0, 1] rfl ?_
    exact k78 x0 v14 v13 S12 h0 hv14 hv13
def f_X12_isNextTurn_b78 : Int → Int → Int → jSt → Option (Int × jSt) := jrep (β := Int → Int → Int → jSt → Option (Int × jSt)) (fun _ _ _ _ => none) (fun r => f_X12_isNextTurn_b78B r) jN
theorem p_f_X12_isNextTurn_b78 {G : jG} {d : Nat} {S0 : jSt} (hd0 : 2 ≤ d) : ∀ (x0 : Int) (x1 : Int) (x2 : Int) (S : jSt), (0 ≤ (x0)) → (R32 (x1)) → (R32 (x2)) → J G yX12_isNextTurn cX12_isNextTurn 6 (some .boolean) d S0 78 [(0, 2, x0), (4, 0, x1), (5, 0, x2)] [] S (f_X12_isNextTurn_b78  x0 x1 x2 S) :=
  jrep_ind (P := fun (r : Int → Int → Int → jSt → Option (Int × jSt)) => ∀ (x0 : Int) (x1 : Int) (x2 : Int) (S : jSt), (0 ≤ (x0)) → (R32 (x1)) → (R32 (x2)) → J G yX12_isNextTurn cX12_isNextTurn 6 (some .boolean) d S0 78 [(0, 2, x0), (4, 0, x1), (5, 0, x2)] [] S (r x0 x1 x2 S)) (by intros; exact j_none) (fun r k => p_f_X12_isNextTurn_b78B hd0 k) jN
def f_X12_isNextTurn_b41B (r41 : Int → Int → Int → Int → jSt → Option (Int × jSt)) (x0 : Int) (x1 : Int) (x2 : Int) (x3 : Int) (S : jSt) : Option (Int × jSt) :=
  fgetr S x0 12 26 (fun v3 => fald S v3 x3 1 (fun v4 => fgetr S x0 12 26 (fun v5 => fald S v5 x2 1 (fun v6 => if v6 ≤ v4 then fcallv S x0 12 (f_X12_swap x0 x2 x3 S) (fun v7 S8 => flet (w32 (x2 + 1)) (fun v9 => flet (w32 (x1 - 1)) (fun v10 => f_X12_isNextTurn_b78 x0 v9 v10 S8))) else flet (w32 (x3 + (-1))) (fun v15 => r41 x0 x1 x2 v15 S)))))
theorem p_f_X12_isNextTurn_b41B {G : jG} {d : Nat} {S0 : jSt} (hd0 : 2 ≤ d) {r41 : Int → Int → Int → Int → jSt → Option (Int × jSt)} (k41 : ∀ (x0 : Int) (x1 : Int) (x2 : Int) (x3 : Int) (S : jSt), (0 ≤ (x0)) → (R32 (x1)) → (R32 (x2)) → (R32 (x3)) → J G yX12_isNextTurn cX12_isNextTurn 6 (some .boolean) d S0 41 [(0, 2, x0), (1, 0, x1), (2, 0, x2), (3, 0, x3)] [] S (r41 x0 x1 x2 x3 S)) : ∀ (x0 : Int) (x1 : Int) (x2 : Int) (x3 : Int) (S : jSt), (0 ≤ (x0)) → (R32 (x1)) → (R32 (x2)) → (R32 (x3)) → J G yX12_isNextTurn cX12_isNextTurn 6 (some .boolean) d S0 41 [(0, 2, x0), (1, 0, x1), (2, 0, x2), (3, 0, x3)] [] S (f_X12_isNextTurn_b41B r41 x0 x1 x2 x3 S) := by
  intro x0 x1 x2 x3 S h0 h1 h2 h3
  unfold f_X12_isNextTurn_b41B
  refine j_aload_n 0 dX12_isNextTurn_41 rfl rfl ?_
  refine j_getr (ci := 12) (k := 26) rfl in_X12 (Nat.le_of_ble_eq_true rfl) rfl rfl fl_X12_50 dX12_isNextTurn_42 (fun (v3 : Int) (hv3 : 0 ≤ v3) => ?_)
  refine j_iload_n 3 dX12_isNextTurn_45 rfl rfl ?_
  refine j_iaload h3 dX12_isNextTurn_46 (fun (v4 : Int) (hv4 : R32 (v4)) => ?_)
  refine j_aload_n 0 dX12_isNextTurn_47 rfl rfl ?_
  refine j_getr (ci := 12) (k := 26) rfl in_X12 (Nat.le_of_ble_eq_true rfl) rfl rfl fl_X12_50 dX12_isNextTurn_48 (fun (v5 : Int) (hv5 : 0 ≤ v5) => ?_)
  refine j_iload_n 2 dX12_isNextTurn_51 rfl rfl ?_
  refine j_iaload h2 dX12_isNextTurn_52 (fun (v6 : Int) (hv6 : R32 (v6)) => ?_)
  refine j_icmp_ge (tgt := 62) hv4 hv6 dX12_isNextTurn_53 rfl (fun _ => ?_) (fun _ => ?_)
  · refine j_aload_n 0 dX12_isNextTurn_62 rfl rfl ?_
    refine j_iload_n 2 dX12_isNextTurn_63 rfl rfl ?_
    refine j_iload_n 3 dX12_isNextTurn_64 rfl rfl ?_
    refine j_callV (ci := 12) (As := [(0, x2), (0, x3)]) (st := []) kc_X12_swap (c_X12_swap x0 x2 x3 S h0 h2 h3) rfl lm_X12_421 ki_X12_swap ke_X12_swap rfl (Nat.le_of_ble_eq_true rfl) (Nat.le_trans (m := 2) (Nat.le_of_ble_eq_true rfl) hd0) dX12_isNextTurn_65 (fun v7 S8 _ => ?_)
    refine j_iload_n 2 dX12_isNextTurn_68 rfl rfl ?_
    refine j_iconst dX12_isNextTurn_69 ?_
    refine j_iadd dX12_isNextTurn_70 ?_
    refine j_leti (w32_R _) (fun v9 hv9 => ?_)
    refine j_istore (lv' := [(4, 0, v9), (0, 2, x0), (1, 0, x1), (2, 0, x2), (3, 0, x3)]) dX12_isNextTurn_71 (Nat.le_of_ble_eq_true rfl) rfl ?_
    refine j_iload_n 2 dX12_isNextTurn_73 rfl rfl ?_
    refine j_iconst dX12_isNextTurn_74 ?_
    refine j_isub dX12_isNextTurn_75 ?_
    refine j_leti (w32_R _) (fun v10 hv10 => ?_)
    refine j_istore (lv' := [(5, 0, v10), (4, 0, v9), (0, 2, x0), (1, 0, x1), (2, 0, x2), (3, 0, x3)]) dX12_isNextTurn_76 (Nat.le_of_ble_eq_true rfl) rfl ?_
    refine j_sub [2, 1, 0] rfl ?_
    exact p_f_X12_isNextTurn_b78 hd0 x0 v9 v10 S8 h0 hv9 hv10
  · refine j_iincL (q := 3) dX12_isNextTurn_56 rfl (Nat.le_of_ble_eq_true rfl) (fun v15 hv15 => ?_)
    refine j_lv (lv' := [(3, 0, v15), (0, 2, x0), (1, 0, x1), (2, 0, x2)]) rfl ?_
    refine j_goto (tgt := 41) dX12_isNextTurn_59 rfl ?_
    refine j_sub [1, 2, 3, 0] rfl ?_
    exact k41 x0 x1 x2 v15 S h0 h1 h2 hv15
def f_X12_isNextTurn_b41 : Int → Int → Int → Int → jSt → Option (Int × jSt) := jrep (β := Int → Int → Int → Int → jSt → Option (Int × jSt)) (fun _ _ _ _ _ => none) (fun r => f_X12_isNextTurn_b41B r) jN
theorem p_f_X12_isNextTurn_b41 {G : jG} {d : Nat} {S0 : jSt} (hd0 : 2 ≤ d) : ∀ (x0 : Int) (x1 : Int) (x2 : Int) (x3 : Int) (S : jSt), (0 ≤ (x0)) → (R32 (x1)) → (R32 (x2)) → (R32 (x3)) → J G yX12_isNextTurn cX12_isNextTurn 6 (some .boolean) d S0 41 [(0, 2, x0), (1, 0, x1), (2, 0, x2), (3, 0, x3)] [] S (f_X12_isNextTurn_b41  x0 x1 x2 x3 S) :=
  jrep_ind (P := fun (r : Int → Int → Int → Int → jSt → Option (Int × jSt)) => ∀ (x0 : Int) (x1 : Int) (x2 : Int) (x3 : Int) (S : jSt), (0 ≤ (x0)) → (R32 (x1)) → (R32 (x2)) → (R32 (x3)) → J G yX12_isNextTurn cX12_isNextTurn 6 (some .boolean) d S0 41 [(0, 2, x0), (1, 0, x1), (2, 0, x2), (3, 0, x3)] [] S (r x0 x1 x2 x3 S)) (by intros; exact j_none) (fun r k => p_f_X12_isNextTurn_b41B hd0 k) jN
def f_X12_isNextTurn_b31 (x0 : Int) (x1 : Int) (x2 : Int) (S : jSt) : Option (Int × jSt) :=
  if 0 ≤ x2 then flet (w32 (x1 - 1)) (fun v2 => f_X12_isNextTurn_b41 x0 x1 x2 v2 S) else some (0, S)
theorem p_f_X12_isNextTurn_b31 {G : jG} {d : Nat} {S0 : jSt} (hd0 : 2 ≤ d) : ∀ (x0 : Int) (x1 : Int) (x2 : Int) (S : jSt), (0 ≤ (x0)) → (R32 (x1)) → (R32 (x2)) → J G yX12_isNextTurn cX12_isNextTurn 6 (some .boolean) d S0 31 [(0, 2, x0), (1, 0, x1), (2, 0, x2)] [] S (f_X12_isNextTurn_b31  x0 x1 x2 S) := by
  intro x0 x1 x2 S h0 h1 h2
  unfold f_X12_isNextTurn_b31
  refine j_iload_n 2 dX12_isNextTurn_31 rfl rfl ?_
  refine j_if_ge (tgt := 37) h2 dX12_isNextTurn_32 rfl (fun _ => ?_) (fun _ => ?_)
  · refine j_iload_n 1 dX12_isNextTurn_37 rfl rfl ?_
    refine j_iconst dX12_isNextTurn_38 ?_
    refine j_isub dX12_isNextTurn_39 ?_
    refine j_leti (w32_R _) (fun v2 hv2 => ?_)
    refine j_istore_n (lv' := [(3, 0, v2), (0, 2, x0), (1, 0, x1), (2, 0, x2)]) dX12_isNextTurn_40 rfl (Nat.le_of_ble_eq_true rfl) rfl ?_
    refine j_sub [1, 2, 3, 0] rfl ?_
    exact p_f_X12_isNextTurn_b41 hd0 x0 x1 x2 v2 S h0 h1 h2 hv2
  · refine j_iconst dX12_isNextTurn_35 ?_
    exact j_zreturn jz0 dX12_isNextTurn_36
def f_X12_isNextTurn_b4B (r4 : Int → Int → Int → jSt → Option (Int × jSt)) (x0 : Int) (x1 : Int) (x2 : Int) (S : jSt) : Option (Int × jSt) :=
  if x2 < 0 then f_X12_isNextTurn_b31 x0 x1 x2 S else fgetr S x0 12 26 (fun v16 => fald S v16 x2 1 (fun v17 => fgetr S x0 12 26 (fun v18 => fald S v18 (w32 (x2 + 1)) 1 (fun v19 => if v17 ≤ v19 then f_X12_isNextTurn_b31 x0 x1 x2 S else flet (w32 (x2 + (-1))) (fun v20 => r4 x0 x1 v20 S)))))
theorem p_f_X12_isNextTurn_b4B {G : jG} {d : Nat} {S0 : jSt} (hd0 : 2 ≤ d) {r4 : Int → Int → Int → jSt → Option (Int × jSt)} (k4 : ∀ (x0 : Int) (x1 : Int) (x2 : Int) (S : jSt), (0 ≤ (x0)) → (R32 (x1)) → (R32 (x2)) → J G yX12_isNextTurn cX12_isNextTurn 6 (some .boolean) d S0 4 [(0, 2, x0), (1, 0, x1), (2, 0, x2)] [] S (r4 x0 x1 x2 S)) : ∀ (x0 : Int) (x1 : Int) (x2 : Int) (S : jSt), (0 ≤ (x0)) → (R32 (x1)) → (R32 (x2)) → J G yX12_isNextTurn cX12_isNextTurn 6 (some .boolean) d S0 4 [(0, 2, x0), (1, 0, x1), (2, 0, x2)] [] S (f_X12_isNextTurn_b4B r4 x0 x1 x2 S) := by
  intro x0 x1 x2 S h0 h1 h2
  unfold f_X12_isNextTurn_b4B
  refine j_iload_n 2 dX12_isNextTurn_4 rfl rfl ?_
  refine j_if_lt (tgt := 31) h2 dX12_isNextTurn_5 rfl (fun _ => ?_) (fun _ => ?_)
  · exact p_f_X12_isNextTurn_b31 hd0 x0 x1 x2 S h0 h1 h2
  · refine j_aload_n 0 dX12_isNextTurn_8 rfl rfl ?_
    refine j_getr (ci := 12) (k := 26) rfl in_X12 (Nat.le_of_ble_eq_true rfl) rfl rfl fl_X12_50 dX12_isNextTurn_9 (fun (v16 : Int) (hv16 : 0 ≤ v16) => ?_)
    refine j_iload_n 2 dX12_isNextTurn_12 rfl rfl ?_
    refine j_iaload h2 dX12_isNextTurn_13 (fun (v17 : Int) (hv17 : R32 (v17)) => ?_)
    refine j_aload_n 0 dX12_isNextTurn_14 rfl rfl ?_
    refine j_getr (ci := 12) (k := 26) rfl in_X12 (Nat.le_of_ble_eq_true rfl) rfl rfl fl_X12_50 dX12_isNextTurn_15 (fun (v18 : Int) (hv18 : 0 ≤ v18) => ?_)
    refine j_iload_n 2 dX12_isNextTurn_18 rfl rfl ?_
    refine j_iconst dX12_isNextTurn_19 ?_
    refine j_iadd dX12_isNextTurn_20 ?_
    refine j_iaload (w32_R _) dX12_isNextTurn_21 (fun (v19 : Int) (hv19 : R32 (v19)) => ?_)
    refine j_icmp_le (tgt := 31) hv17 hv19 dX12_isNextTurn_22 rfl (fun _ => ?_) (fun _ => ?_)
    · exact p_f_X12_isNextTurn_b31 hd0 x0 x1 x2 S h0 h1 h2
    · refine j_iincL (q := 2) dX12_isNextTurn_25 rfl (Nat.le_of_ble_eq_true rfl) (fun v20 hv20 => ?_)
      refine j_lv (lv' := [(2, 0, v20), (0, 2, x0), (1, 0, x1)]) rfl ?_
      refine j_goto (tgt := 4) dX12_isNextTurn_28 rfl ?_
      refine j_sub [1, 2, 0] rfl ?_
      exact k4 x0 x1 v20 S h0 h1 hv20
def f_X12_isNextTurn_b4 : Int → Int → Int → jSt → Option (Int × jSt) := jrep (β := Int → Int → Int → jSt → Option (Int × jSt)) (fun _ _ _ _ => none) (fun r => f_X12_isNextTurn_b4B r) jN
theorem p_f_X12_isNextTurn_b4 {G : jG} {d : Nat} {S0 : jSt} (hd0 : 2 ≤ d) : ∀ (x0 : Int) (x1 : Int) (x2 : Int) (S : jSt), (0 ≤ (x0)) → (R32 (x1)) → (R32 (x2)) → J G yX12_isNextTurn cX12_isNextTurn 6 (some .boolean) d S0 4 [(0, 2, x0), (1, 0, x1), (2, 0, x2)] [] S (f_X12_isNextTurn_b4  x0 x1 x2 S) :=
  jrep_ind (P := fun (r : Int → Int → Int → jSt → Option (Int × jSt)) => ∀ (x0 : Int) (x1 : Int) (x2 : Int) (S : jSt), (0 ≤ (x0)) → (R32 (x1)) → (R32 (x2)) → J G yX12_isNextTurn cX12_isNextTurn 6 (some .boolean) d S0 4 [(0, 2, x0), (1, 0, x1), (2, 0, x2)] [] S (r x0 x1 x2 S)) (by intros; exact j_none) (fun r k => p_f_X12_isNextTurn_b4B hd0 k) jN
def f_X12_isNextTurn (a0 : Int) (a1 : Int) (S : jSt) : Option (Int × jSt) :=
  flet (w32 (a1 - 2)) (fun v1 => f_X12_isNextTurn_b4 a0 a1 v1 S)
theorem e_X12_isNextTurn {G : jG} {d : Nat} {S0 : jSt} (hd0 : 2 ≤ d) (a0 : Int) (a1 : Int) (S : jSt) (h0 : 0 ≤ (a0)) (h1 : R32 (a1)) : J G yX12_isNextTurn cX12_isNextTurn 6 (some .boolean) d S0 0 [(0, 2, a0), (1, 0, a1)] [] S (f_X12_isNextTurn a0 a1 S) := by
  unfold f_X12_isNextTurn
  refine j_iload_n 1 dX12_isNextTurn_0 rfl rfl ?_
  refine j_iconst dX12_isNextTurn_1 ?_
  refine j_isub dX12_isNextTurn_2 ?_
  refine j_leti (w32_R _) (fun v1 hv1 => ?_)
  refine j_istore_n (lv' := [(2, 0, v1), (0, 2, a0), (1, 0, a1)]) dX12_isNextTurn_3 rfl (Nat.le_of_ble_eq_true rfl) rfl ?_
  refine j_sub [1, 2, 0] rfl ?_
  exact p_f_X12_isNextTurn_b4 hd0 a0 a1 v1 S h0 h1 hv1
theorem c_X12_isNextTurn {G : jG} (a0 : Int) (a1 : Int) (S : jSt) (h0 : 0 ≤ (a0)) (h1 : R32 (a1)) : CT G yX12_isNextTurn cX12_isNextTurn 6 (some .boolean) 2 ([(2, a0), (0, a1)].map jval) S (f_X12_isNextTurn a0 a1 S) := ct_of [(2, a0), (0, a1)] (by decide) rfl (Nat.le_of_ble_eq_true rfl) (e_X12_isNextTurn (Nat.le_refl _) a0 a1 S h0 h1)
-- X12_lot
def f_X12_lot_b38 (S : jSt) : Option (Int × jSt) :=
  some ((-1), S)
theorem p_f_X12_lot_b38 {G : jG} {d : Nat} {S0 : jSt} (hd0 : 3 ≤ d) : ∀ (S : jSt), J G yX12_lot cX12_lot 5 (some .int) d S0 38 [] [] S (f_X12_lot_b38   S) := by
  intro S
  unfold f_X12_lot_b38
  refine j_iconst dX12_lot_38 ?_
  exact j_ireturn (j_r32 (-1) rfl) dX12_lot_39
def f_X12_lot (a0 : Int) (a1 : Int) (a2 : Int) (a3 : Int) (S : jSt) : Option (Int × jSt) :=
  fcall (f_X12_isFloor a1 S) (fun v1 S2 => if v1 = 0 then f_X12_lot_b38 S2 else fcall (f_X12_isIn a2 0 99 S2) (fun v3 S4 => if v3 = 0 then f_X12_lot_b38 S4 else fcall (f_X12_isIn a3 1 9 S4) (fun v5 S6 => if v5 = 0 then f_X12_lot_b38 S6 else fgetr S6 a0 12 0 (fun v7 => fald S6 v7 0 1 (fun v8 => if v8 = 12 then f_X12_lot_b38 S6 else fgetr S6 a0 12 0 (fun v9 => fald S6 v9 0 1 (fun v10 => fcallv S6 a0 12 (f_X12_put a0 v10 0 a1 S6) (fun v11 S12 => fcallv S12 a0 12 (f_X12_put a0 v10 1 0 S12) (fun v13 S14 => fcallv S14 a0 12 (f_X12_put a0 v10 2 a2 S14) (fun v15 S16 => fcallv S16 a0 12 (f_X12_put a0 v10 3 a3 S16) (fun v17 S18 => fcallv S18 a0 12 (f_X12_put a0 v10 4 a1 S18) (fun v19 S20 => fgetr S20 a0 12 0 (fun v21 => fald S20 v21 0 1 (fun v22 => fast S20 v21 0 1 (w32 (v22 + 1)) (fun S23 => some (v10, S23))))))))))))))))
theorem e_X12_lot {G : jG} {d : Nat} {S0 : jSt} (hd0 : 3 ≤ d) (a0 : Int) (a1 : Int) (a2 : Int) (a3 : Int) (S : jSt) (h0 : 0 ≤ (a0)) (h1 : R32 (a1)) (h2 : R32 (a2)) (h3 : R32 (a3)) : J G yX12_lot cX12_lot 5 (some .int) d S0 0 [(0, 2, a0), (1, 0, a1), (2, 0, a2), (3, 0, a3)] [] S (f_X12_lot a0 a1 a2 a3 S) := by
  unfold f_X12_lot
  refine j_iload_n 1 dX12_lot_0 rfl rfl ?_
  refine j_callS (As := [(0, a1)]) (st := []) kc_X12_isFloor (c_X12_isFloor a1 S h1) lm_X12_72 ks_X12_isFloor rfl (Nat.le_of_ble_eq_true rfl) (Nat.le_trans (m := 3) (Nat.le_of_ble_eq_true rfl) hd0) dX12_lot_1 (fun (v1 : Int) (S2 : jSt) (hv1 : (v1) = 0 ∨ (v1) = 1) => ?_)
  refine j_if_eq (tgt := 38) (jZ_R hv1) dX12_lot_4 rfl (fun _ => ?_) (fun _ => ?_)
  · refine j_sub [] rfl ?_
    exact p_f_X12_lot_b38 hd0 S2
  · refine j_iload_n 2 dX12_lot_7 rfl rfl ?_
    refine j_iconst dX12_lot_8 ?_
    refine j_bipush dX12_lot_9 (by decide) ?_
    refine j_callS (As := [(0, a2), (0, 0), (0, 99)]) (st := []) kc_X12_isIn (c_X12_isIn a2 0 99 S2 h2 (jZ_R jz0) (j_r32 99 rfl)) lm_X12_60 ks_X12_isIn rfl (Nat.le_of_ble_eq_true rfl) (Nat.le_trans (m := 3) (Nat.le_of_ble_eq_true rfl) hd0) dX12_lot_11 (fun (v3 : Int) (S4 : jSt) (hv3 : (v3) = 0 ∨ (v3) = 1) => ?_)
    refine j_if_eq (tgt := 38) (jZ_R hv3) dX12_lot_14 rfl (fun _ => ?_) (fun _ => ?_)
    · refine j_sub [] rfl ?_
      exact p_f_X12_lot_b38 hd0 S4
    · refine j_iload_n 3 dX12_lot_17 rfl rfl ?_
      refine j_iconst dX12_lot_18 ?_
      refine j_bipush dX12_lot_19 (by decide) ?_
      refine j_callS (As := [(0, a3), (0, 1), (0, 9)]) (st := []) kc_X12_isIn (c_X12_isIn a3 1 9 S4 h3 (jZ_R jz1) (j_r32 9 rfl)) lm_X12_60 ks_X12_isIn rfl (Nat.le_of_ble_eq_true rfl) (Nat.le_trans (m := 3) (Nat.le_of_ble_eq_true rfl) hd0) dX12_lot_21 (fun (v5 : Int) (S6 : jSt) (hv5 : (v5) = 0 ∨ (v5) = 1) => ?_)
      refine j_if_eq (tgt := 38) (jZ_R hv5) dX12_lot_24 rfl (fun _ => ?_) (fun _ => ?_)
      · refine j_sub [] rfl ?_
        exact p_f_X12_lot_b38 hd0 S6
      · refine j_aload_n 0 dX12_lot_27 rfl rfl ?_
        refine j_getr (ci := 12) (k := 0) rfl in_X12 (Nat.le_of_ble_eq_true rfl) rfl rfl fl_X12_7 dX12_lot_28 (fun (v7 : Int) (hv7 : 0 ≤ v7) => ?_)
        refine j_iconst dX12_lot_31 ?_
        refine j_iaload (jZ_R jz0) dX12_lot_32 (fun (v8 : Int) (hv8 : R32 (v8)) => ?_)
        refine j_bipush dX12_lot_33 (by decide) ?_
        refine j_icmp_ne (tgt := 40) hv8 (j_r32 12 rfl) dX12_lot_35 rfl (fun _ => ?_) (fun _ => ?_)
        · refine j_aload_n 0 dX12_lot_40 rfl rfl ?_
          refine j_getr (ci := 12) (k := 0) rfl in_X12 (Nat.le_of_ble_eq_true rfl) rfl rfl fl_X12_7 dX12_lot_41 (fun (v9 : Int) (hv9 : 0 ≤ v9) => ?_)
          refine j_iconst dX12_lot_44 ?_
          refine j_iaload (jZ_R jz0) dX12_lot_45 (fun (v10 : Int) (hv10 : R32 (v10)) => ?_)
          refine j_istore (lv' := [(4, 0, v10), (0, 2, a0), (1, 0, a1), (2, 0, a2), (3, 0, a3)]) dX12_lot_46 (Nat.le_of_ble_eq_true rfl) rfl ?_
          refine j_aload_n 1 dX12_lot_48 rfl rfl ?_
          refine j_iload 0 dX12_lot_49 rfl ?_
          refine j_iconst dX12_lot_51 ?_
          refine j_iload_n 2 dX12_lot_52 rfl rfl ?_
          refine j_callV (ci := 12) (As := [(0, v10), (0, 0), (0, a1)]) (st := []) kc_X12_put (c_X12_put a0 v10 0 a1 S6 h0 hv10 (jZ_R jz0) h1) rfl lm_X12_75 ki_X12_put ke_X12_put rfl (Nat.le_of_ble_eq_true rfl) (Nat.le_trans (m := 3) (Nat.le_of_ble_eq_true rfl) hd0) dX12_lot_53 (fun v11 S12 _ => ?_)
          refine j_aload_n 1 dX12_lot_56 rfl rfl ?_
          refine j_iload 0 dX12_lot_57 rfl ?_
          refine j_iconst dX12_lot_59 ?_
          refine j_iconst dX12_lot_60 ?_
          refine j_callV (ci := 12) (As := [(0, v10), (0, 1), (0, 0)]) (st := []) kc_X12_put (c_X12_put a0 v10 1 0 S12 h0 hv10 (jZ_R jz1) (jZ_R jz0)) rfl lm_X12_75 ki_X12_put ke_X12_put rfl (Nat.le_of_ble_eq_true rfl) (Nat.le_trans (m := 3) (Nat.le_of_ble_eq_true rfl) hd0) dX12_lot_61 (fun v13 S14 _ => ?_)
          refine j_aload_n 1 dX12_lot_64 rfl rfl ?_
          refine j_iload 0 dX12_lot_65 rfl ?_
          refine j_iconst dX12_lot_67 ?_
          refine j_iload_n 3 dX12_lot_68 rfl rfl ?_
          refine j_callV (ci := 12) (As := [(0, v10), (0, 2), (0, a2)]) (st := []) kc_X12_put (c_X12_put a0 v10 2 a2 S14 h0 hv10 (j_r32 2 rfl) h2) rfl lm_X12_75 ki_X12_put ke_X12_put rfl (Nat.le_of_ble_eq_true rfl) (Nat.le_trans (m := 3) (Nat.le_of_ble_eq_true rfl) hd0) dX12_lot_69 (fun v15 S16 _ => ?_)
          refine j_aload_n 1 dX12_lot_72 rfl rfl ?_
          refine j_iload 0 dX12_lot_73 rfl ?_
          refine j_iconst dX12_lot_75 ?_
          refine j_iload_n 4 dX12_lot_76 rfl rfl ?_
          refine j_callV (ci := 12) (As := [(0, v10), (0, 3), (0, a3)]) (st := []) kc_X12_put (c_X12_put a0 v10 3 a3 S16 h0 hv10 (j_r32 3 rfl) h3) rfl lm_X12_75 ki_X12_put ke_X12_put rfl (Nat.le_of_ble_eq_true rfl) (Nat.le_trans (m := 3) (Nat.le_of_ble_eq_true rfl) hd0) dX12_lot_77 (fun v17 S18 _ => ?_)
          refine j_aload_n 1 dX12_lot_80 rfl rfl ?_
          refine j_iload 0 dX12_lot_81 rfl ?_
          refine j_iconst dX12_lot_83 ?_
          refine j_iload_n 2 dX12_lot_84 rfl rfl ?_
          refine j_callV (ci := 12) (As := [(0, v10), (0, 4), (0, a1)]) (st := []) kc_X12_put (c_X12_put a0 v10 4 a1 S18 h0 hv10 (j_r32 4 rfl) h1) rfl lm_X12_75 ki_X12_put ke_X12_put rfl (Nat.le_of_ble_eq_true rfl) (Nat.le_trans (m := 3) (Nat.le_of_ble_eq_true rfl) hd0) dX12_lot_85 (fun v19 S20 _ => ?_)
          refine j_aload_n 1 dX12_lot_88 rfl rfl ?_
          refine j_getr (ci := 12) (k := 0) rfl in_X12 (Nat.le_of_ble_eq_true rfl) rfl rfl fl_X12_7 dX12_lot_89 (fun (v21 : Int) (hv21 : 0 ≤ v21) => ?_)
          refine j_iconst dX12_lot_92 ?_
          refine j_dup2 dX12_lot_93 (fun h => nomatch h) (fun h => nomatch h) ?_
          refine j_iaload (jZ_R jz0) dX12_lot_94 (fun (v22 : Int) (hv22 : R32 (v22)) => ?_)
          refine j_iconst dX12_lot_95 ?_
          refine j_iadd dX12_lot_96 ?_
          refine j_iastore (jZ_R jz0) (w32_R _) dX12_lot_97 (fun S23 => ?_)
          refine j_iload 0 dX12_lot_98 rfl ?_
          exact j_ireturn hv10 dX12_lot_100
        · refine j_sub [] rfl ?_
          exact p_f_X12_lot_b38 hd0 S6
theorem c_X12_lot {G : jG} (a0 : Int) (a1 : Int) (a2 : Int) (a3 : Int) (S : jSt) (h0 : 0 ≤ (a0)) (h1 : R32 (a1)) (h2 : R32 (a2)) (h3 : R32 (a3)) : CT G yX12_lot cX12_lot 5 (some .int) 3 ([(2, a0), (0, a1), (0, a2), (0, a3)].map jval) S (f_X12_lot a0 a1 a2 a3 S) := ct_of [(2, a0), (0, a1), (0, a2), (0, a3)] (by decide) rfl (Nat.le_of_ble_eq_true rfl) (e_X12_lot (Nat.le_refl _) a0 a1 a2 a3 S h0 h1 h2 h3)
-- X12_sell
def f_X12_sell (a0 : Int) (a1 : Int) (S : jSt) : Option (Int × jSt) :=
  fcallv S a0 12 (f_X12_canSell a0 a1 S) (fun v1 S2 => if v1 = 0 then some ((-2), S2) else fcallv S2 a0 12 (f_X12_keep a0 S2) (fun v3 S4 => fcallv S4 a0 12 (f_X12_sellNow a0 a1 S4) (fun v5 S6 => some (v5, S6))))
theorem e_X12_sell {G : jG} {d : Nat} {S0 : jSt} (hd0 : 8 ≤ d) (a0 : Int) (a1 : Int) (S : jSt) (h0 : 0 ≤ (a0)) (h1 : R32 (a1)) : J G yX12_sell cX12_sell 2 (some .int) d S0 0 [(0, 2, a0), (1, 0, a1)] [] S (f_X12_sell a0 a1 S) := by
  unfold f_X12_sell
  refine j_aload_n 0 dX12_sell_0 rfl rfl ?_
  refine j_iload_n 1 dX12_sell_1 rfl rfl ?_
  refine j_callV (ci := 12) (As := [(0, a1)]) (st := []) kc_X12_canSell (c_X12_canSell a0 a1 S h0 h1) rfl lm_X12_355 ki_X12_canSell ke_X12_canSell rfl (Nat.le_of_ble_eq_true rfl) (Nat.le_trans (m := 8) (Nat.le_of_ble_eq_true rfl) hd0) dX12_sell_2 (fun (v1 : Int) (S2 : jSt) (hv1 : (v1) = 0 ∨ (v1) = 1) => ?_)
  refine j_if_ne (tgt := 11) (jZ_R hv1) dX12_sell_5 rfl (fun _ => ?_) (fun _ => ?_)
  · refine j_aload_n 0 dX12_sell_11 rfl rfl ?_
    refine j_callV (ci := 12) (As := []) (st := []) kc_X12_keep (c_X12_keep a0 S2 h0) rfl lm_X12_358 ki_X12_keep ke_X12_keep rfl (Nat.le_of_ble_eq_true rfl) (Nat.le_trans (m := 8) (Nat.le_of_ble_eq_true rfl) hd0) dX12_sell_12 (fun v3 S4 _ => ?_)
    refine j_aload_n 0 dX12_sell_15 rfl rfl ?_
    refine j_iload_n 1 dX12_sell_16 rfl rfl ?_
    refine j_callV (ci := 12) (As := [(0, a1)]) (st := []) kc_X12_sellNow (c_X12_sellNow a0 a1 S4 h0 h1) rfl lm_X12_346 ki_X12_sellNow ke_X12_sellNow rfl (Nat.le_of_ble_eq_true rfl) (Nat.le_trans (m := 8) (Nat.le_of_ble_eq_true rfl) hd0) dX12_sell_17 (fun (v5 : Int) (S6 : jSt) (hv5 : R32 (v5)) => ?_)
    exact j_ireturn hv5 dX12_sell_20
  · refine j_bipush dX12_sell_8 (by decide) ?_
    exact j_ireturn (j_r32 (-2) rfl) dX12_sell_10
theorem c_X12_sell {G : jG} (a0 : Int) (a1 : Int) (S : jSt) (h0 : 0 ≤ (a0)) (h1 : R32 (a1)) : CT G yX12_sell cX12_sell 2 (some .int) 8 ([(2, a0), (0, a1)].map jval) S (f_X12_sell a0 a1 S) := ct_of [(2, a0), (0, a1)] (by decide) rfl (Nat.le_of_ble_eq_true rfl) (e_X12_sell (Nat.le_refl _) a0 a1 S h0 h1)
-- X12_want
def f_X12_want_b26 (S : jSt) : Option (Int × jSt) :=
  some (0, S)
theorem p_f_X12_want_b26 {G : jG} {d : Nat} {S0 : jSt} (hd0 : 3 ≤ d) : ∀ (S : jSt), J G yX12_want cX12_want 5 (some .boolean) d S0 26 [] [] S (f_X12_want_b26   S) := by
  intro S
  unfold f_X12_want_b26
  refine j_iconst dX12_want_26 ?_
  exact j_zreturn jz0 dX12_want_27
def f_X12_want_b40B (r40 : Int → Int → Int → Int → Int → jSt → Option (Int × jSt)) (x0 : Int) (x1 : Int) (x2 : Int) (x3 : Int) (x4 : Int) (S : jSt) : Option (Int × jSt) :=
  fgetr S x0 12 0 (fun v9 => fald S v9 4 1 (fun v10 => if v10 ≤ x4 then some (1, S) else fgetr S x0 12 0 (fun v11 => fast S v11 (w32 ((w32 ((w32 ((w32 ((w32 (193 + (w32 (155 * x4)))) + 30)) + (w32 (13 * x1)))) + 1)) + x2)) 1 x3 (fun S12 => flet (w32 (x4 + 1)) (fun v13 => r40 x0 x1 x2 x3 v13 S12)))))
theorem p_f_X12_want_b40B {G : jG} {d : Nat} {S0 : jSt} (hd0 : 3 ≤ d) {r40 : Int → Int → Int → Int → Int → jSt → Option (Int × jSt)} (k40 : ∀ (x0 : Int) (x1 : Int) (x2 : Int) (x3 : Int) (x4 : Int) (S : jSt), (0 ≤ (x0)) → (R32 (x1)) → (R32 (x2)) → (R32 (x3)) → (R32 (x4)) → J G yX12_want cX12_want 5 (some .boolean) d S0 40 [(0, 2, x0), (1, 0, x1), (2, 0, x2), (3, 0, x3), (4, 0, x4)] [] S (r40 x0 x1 x2 x3 x4 S)) : ∀ (x0 : Int) (x1 : Int) (x2 : Int) (x3 : Int) (x4 : Int) (S : jSt), (0 ≤ (x0)) → (R32 (x1)) → (R32 (x2)) → (R32 (x3)) → (R32 (x4)) → J G yX12_want cX12_want 5 (some .boolean) d S0 40 [(0, 2, x0), (1, 0, x1), (2, 0, x2), (3, 0, x3), (4, 0, x4)] [] S (f_X12_want_b40B r40 x0 x1 x2 x3 x4 S) := by
  intro x0 x1 x2 x3 x4 S h0 h1 h2 h3 h4
  unfold f_X12_want_b40B
  refine j_iload 4 dX12_want_40 rfl ?_
  refine j_aload_n 0 dX12_want_42 rfl rfl ?_
  refine j_getr (ci := 12) (k := 0) rfl in_X12 (Nat.le_of_ble_eq_true rfl) rfl rfl fl_X12_7 dX12_want_43 (fun (v9 : Int) (hv9 : 0 ≤ v9) => ?_)
  refine j_iconst dX12_want_46 ?_
  refine j_iaload (j_r32 4 rfl) dX12_want_47 (fun (v10 : Int) (hv10 : R32 (v10)) => ?_)
  refine j_icmp_ge (tgt := 85) h4 hv10 dX12_want_48 rfl (fun _ => ?_) (fun _ => ?_)
  · refine j_iconst dX12_want_85 ?_
    exact j_zreturn jz1 dX12_want_86
  · refine j_aload_n 0 dX12_want_51 rfl rfl ?_
    refine j_getr (ci := 12) (k := 0) rfl in_X12 (Nat.le_of_ble_eq_true rfl) rfl rfl fl_X12_7 dX12_want_52 (fun (v11 : Int) (hv11 : 0 ≤ v11) => ?_)
    refine j_sipush dX12_want_55 (by decide) ?_
    refine j_sipush dX12_want_58 (by decide) ?_
    refine j_iload 4 dX12_want_61 rfl ?_
    refine j_imul dX12_want_63 ?_
    refine j_iadd dX12_want_64 ?_
    refine j_bipush dX12_want_65 (by decide) ?_
    refine j_iadd dX12_want_67 ?_
    refine j_bipush dX12_want_68 (by decide) ?_
    refine j_iload_n 1 dX12_want_70 rfl rfl ?_
    refine j_imul dX12_want_71 ?_
    refine j_iadd dX12_want_72 ?_
    refine j_iconst dX12_want_73 ?_
    refine j_iadd dX12_want_74 ?_
    refine j_iload_n 2 dX12_want_75 rfl rfl ?_
    refine j_iadd dX12_want_76 ?_
    refine j_iload_n 3 dX12_want_77 rfl rfl ?_
    refine j_iastore (w32_R _) h3 dX12_want_78 (fun S12 => ?_)
    refine j_iincL (q := 4) dX12_want_79 rfl (Nat.le_of_ble_eq_true rfl) (fun v13 hv13 => ?_)
    refine j_lv (lv' := [(4, 0, v13), (0, 2, x0), (1, 0, x1), (2, 0, x2), (3, 0, x3)]) rfl ?_
    refine j_goto (tgt := 40) dX12_want_82 rfl ?_
    refine j_sub [1, 2, 3, 4, 0] rfl ?_
    exact k40 x0 x1 x2 x3 v13 S12 h0 h1 h2 h3 hv13
def f_X12_want_b40 : Int → Int → Int → Int → Int → jSt → Option (Int × jSt) := jrep (β := Int → Int → Int → Int → Int → jSt → Option (Int × jSt)) (fun _ _ _ _ _ _ => none) (fun r => f_X12_want_b40B r) jN
theorem p_f_X12_want_b40 {G : jG} {d : Nat} {S0 : jSt} (hd0 : 3 ≤ d) : ∀ (x0 : Int) (x1 : Int) (x2 : Int) (x3 : Int) (x4 : Int) (S : jSt), (0 ≤ (x0)) → (R32 (x1)) → (R32 (x2)) → (R32 (x3)) → (R32 (x4)) → J G yX12_want cX12_want 5 (some .boolean) d S0 40 [(0, 2, x0), (1, 0, x1), (2, 0, x2), (3, 0, x3), (4, 0, x4)] [] S (f_X12_want_b40  x0 x1 x2 x3 x4 S) :=
  jrep_ind (P := fun (r : Int → Int → Int → Int → Int → jSt → Option (Int × jSt)) => ∀ (x0 : Int) (x1 : Int) (x2 : Int) (x3 : Int) (x4 : Int) (S : jSt), (0 ≤ (x0)) → (R32 (x1)) → (R32 (x2)) → (R32 (x3)) → (R32 (x4)) → J G yX12_want cX12_want 5 (some .boolean) d S0 40 [(0, 2, x0), (1, 0, x1), (2, 0, x2), (3, 0, x3), (4, 0, x4)] [] S (r x0 x1 x2 x3 x4 S)) (by intros; exact j_none) (fun r k => p_f_X12_want_b40B hd0 k) jN
def f_X12_want (a0 : Int) (a1 : Int) (a2 : Int) (a3 : Int) (S : jSt) : Option (Int × jSt) :=
  fcallv S a0 12 (f_X12_isBidder a0 a1 S) (fun v1 S2 => if v1 = 0 then f_X12_want_b26 S2 else fcallv S2 a0 12 (f_X12_isLot a0 a2 S2) (fun v3 S4 => if v3 = 0 then f_X12_want_b26 S4 else fcall (f_X12_isIn a3 0 99 S4) (fun v5 S6 => if v5 = 0 then f_X12_want_b26 S6 else fcallv S6 a0 12 (f_X12_lay a0 a1 (w32 (1 + a2)) a3 S6) (fun v7 S8 => f_X12_want_b40 a0 a1 a2 a3 0 S8))))
theorem e_X12_want {G : jG} {d : Nat} {S0 : jSt} (hd0 : 3 ≤ d) (a0 : Int) (a1 : Int) (a2 : Int) (a3 : Int) (S : jSt) (h0 : 0 ≤ (a0)) (h1 : R32 (a1)) (h2 : R32 (a2)) (h3 : R32 (a3)) : J G yX12_want cX12_want 5 (some .boolean) d S0 0 [(0, 2, a0), (1, 0, a1), (2, 0, a2), (3, 0, a3)] [] S (f_X12_want a0 a1 a2 a3 S) := by
  unfold f_X12_want
  refine j_aload_n 0 dX12_want_0 rfl rfl ?_
  refine j_iload_n 1 dX12_want_1 rfl rfl ?_
  refine j_callV (ci := 12) (As := [(0, a1)]) (st := []) kc_X12_isBidder (c_X12_isBidder a0 a1 S h0 h1) rfl lm_X12_82 ki_X12_isBidder ke_X12_isBidder rfl (Nat.le_of_ble_eq_true rfl) (Nat.le_trans (m := 3) (Nat.le_of_ble_eq_true rfl) hd0) dX12_want_2 (fun (v1 : Int) (S2 : jSt) (hv1 : (v1) = 0 ∨ (v1) = 1) => ?_)
  refine j_if_eq (tgt := 26) (jZ_R hv1) dX12_want_5 rfl (fun _ => ?_) (fun _ => ?_)
  · refine j_sub [] rfl ?_
    exact p_f_X12_want_b26 hd0 S2
  · refine j_aload_n 0 dX12_want_8 rfl rfl ?_
    refine j_iload_n 2 dX12_want_9 rfl rfl ?_
    refine j_callV (ci := 12) (As := [(0, a2)]) (st := []) kc_X12_isLot (c_X12_isLot a0 a2 S2 h0 h2) rfl lm_X12_64 ki_X12_isLot ke_X12_isLot rfl (Nat.le_of_ble_eq_true rfl) (Nat.le_trans (m := 3) (Nat.le_of_ble_eq_true rfl) hd0) dX12_want_10 (fun (v3 : Int) (S4 : jSt) (hv3 : (v3) = 0 ∨ (v3) = 1) => ?_)
    refine j_if_eq (tgt := 26) (jZ_R hv3) dX12_want_13 rfl (fun _ => ?_) (fun _ => ?_)
    · refine j_sub [] rfl ?_
      exact p_f_X12_want_b26 hd0 S4
    · refine j_iload_n 3 dX12_want_16 rfl rfl ?_
      refine j_iconst dX12_want_17 ?_
      refine j_bipush dX12_want_18 (by decide) ?_
      refine j_callS (As := [(0, a3), (0, 0), (0, 99)]) (st := []) kc_X12_isIn (c_X12_isIn a3 0 99 S4 h3 (jZ_R jz0) (j_r32 99 rfl)) lm_X12_60 ks_X12_isIn rfl (Nat.le_of_ble_eq_true rfl) (Nat.le_trans (m := 3) (Nat.le_of_ble_eq_true rfl) hd0) dX12_want_20 (fun (v5 : Int) (S6 : jSt) (hv5 : (v5) = 0 ∨ (v5) = 1) => ?_)
      refine j_if_ne (tgt := 28) (jZ_R hv5) dX12_want_23 rfl (fun _ => ?_) (fun _ => ?_)
      · refine j_aload_n 0 dX12_want_28 rfl rfl ?_
        refine j_iload_n 1 dX12_want_29 rfl rfl ?_
        refine j_iconst dX12_want_30 ?_
        refine j_iload_n 2 dX12_want_31 rfl rfl ?_
        refine j_iadd dX12_want_32 ?_
        refine j_iload_n 3 dX12_want_33 rfl rfl ?_
        refine j_callV (ci := 12) (As := [(0, a1), (0, w32 (1 + a2)), (0, a3)]) (st := []) kc_X12_lay (c_X12_lay a0 a1 (w32 (1 + a2)) a3 S6 h0 h1 (w32_R _) h3) rfl lm_X12_79 ki_X12_lay ke_X12_lay rfl (Nat.le_of_ble_eq_true rfl) (Nat.le_trans (m := 3) (Nat.le_of_ble_eq_true rfl) hd0) dX12_want_34 (fun v7 S8 _ => ?_)
        refine j_iconst dX12_want_37 ?_
        refine j_istore (lv' := [(4, 0, 0), (0, 2, a0), (1, 0, a1), (2, 0, a2), (3, 0, a3)]) dX12_want_38 (Nat.le_of_ble_eq_true rfl) rfl ?_
        refine j_sub [1, 2, 3, 4, 0] rfl ?_
        exact p_f_X12_want_b40 hd0 a0 a1 a2 a3 0 S8 h0 h1 h2 h3 (jZ_R jz0)
      · refine j_sub [] rfl ?_
        exact p_f_X12_want_b26 hd0 S6
theorem c_X12_want {G : jG} (a0 : Int) (a1 : Int) (a2 : Int) (a3 : Int) (S : jSt) (h0 : 0 ≤ (a0)) (h1 : R32 (a1)) (h2 : R32 (a2)) (h3 : R32 (a3)) : CT G yX12_want cX12_want 5 (some .boolean) 3 ([(2, a0), (0, a1), (0, a2), (0, a3)].map jval) S (f_X12_want a0 a1 a2 a3 S) := ct_of [(2, a0), (0, a1), (0, a2), (0, a3)] (by decide) rfl (Nat.le_of_ble_eq_true rfl) (e_X12_want (Nat.le_refl _) a0 a1 a2 a3 S h0 h1 h2 h3)
-- X12_isPlayed
def f_X12_isPlayed_b94 (x0 : Int) (S : jSt) : Option (Int × jSt) :=
  some (x0, S)
theorem p_f_X12_isPlayed_b94 {G : jG} {d : Nat} {S0 : jSt} (hd0 : 11 ≤ d) : ∀ (x0 : Int) (S : jSt), ((x0) = 0 ∨ (x0) = 1) → J G yX12_isPlayed cX12_isPlayed 4 (some .boolean) d S0 94 [] [(0, x0)] S (f_X12_isPlayed_b94  x0 S) := by
  intro x0 S h0
  unfold f_X12_isPlayed_b94
  exact j_zreturn h0 dX12_isPlayed_94
def f_X12_isPlayed_b108 (x0 : Int) (S : jSt) : Option (Int × jSt) :=
  some (x0, S)
theorem p_f_X12_isPlayed_b108 {G : jG} {d : Nat} {S0 : jSt} (hd0 : 11 ≤ d) : ∀ (x0 : Int) (S : jSt), ((x0) = 0 ∨ (x0) = 1) → J G yX12_isPlayed cX12_isPlayed 4 (some .boolean) d S0 108 [] [(0, x0)] S (f_X12_isPlayed_b108  x0 S) := by
  intro x0 S h0
  unfold f_X12_isPlayed_b108
  exact j_zreturn h0 dX12_isPlayed_108
def f_X12_isPlayed_b139 (x0 : Int) (S : jSt) : Option (Int × jSt) :=
  some (x0, S)
theorem p_f_X12_isPlayed_b139 {G : jG} {d : Nat} {S0 : jSt} (hd0 : 11 ≤ d) : ∀ (x0 : Int) (S : jSt), ((x0) = 0 ∨ (x0) = 1) → J G yX12_isPlayed cX12_isPlayed 4 (some .boolean) d S0 139 [] [(0, x0)] S (f_X12_isPlayed_b139  x0 S) := by
  intro x0 S h0
  unfold f_X12_isPlayed_b139
  exact j_zreturn h0 dX12_isPlayed_139
def f_X12_isPlayed (a0 : Int) (a1 : Int) (S : jSt) : Option (Int × jSt) :=
  fgetr S a0 12 2 (fun v1 => fald S v1 (w32 (a1 + 1)) 1 (fun v2 => fgetr S a0 12 2 (fun v3 => fald S v3 (w32 (a1 + 2)) 1 (fun v4 => fgetr S a0 12 2 (fun v5 => fald S v5 a1 1 (fun v6 => if v6 = 3 then fgetr S a0 12 2 (fun v7 => fald S v7 (w32 (a1 + 3)) 1 (fun v8 => fcallv S a0 12 (f_X12_lot a0 v2 v4 v8 S) (fun v9 S10 => if v9 < 0 then f_X12_isPlayed_b94 0 S10 else f_X12_isPlayed_b94 1 S10))) else if v6 = 4 then fcallv S a0 12 (f_X12_bidder a0 v2 S) (fun v11 S12 => if v11 < 0 then f_X12_isPlayed_b108 0 S12 else f_X12_isPlayed_b108 1 S12) else if v6 = 5 then fgetr S a0 12 2 (fun v13 => fald S v13 (w32 (a1 + 3)) 1 (fun v14 => fcallv S a0 12 (f_X12_want a0 v14 v4 v2 S) (fun v15 S16 => some (v15, S16)))) else if v6 = 6 then fcallv S a0 12 (f_X12_sell a0 v2 S) (fun v17 S18 => if v17 = (-2) then f_X12_isPlayed_b139 0 S18 else f_X12_isPlayed_b139 1 S18) else if v6 = 7 then fcallv S a0 12 (f_X12_carry a0 v2 S) (fun v19 S20 => some (v19, S20)) else if v6 = 8 then fcallv S a0 12 (f_X12_burn a0 v2 S) (fun v21 S22 => some (v21, S22)) else if v6 = 9 then fcallv S a0 12 (f_X12_buy a0 v2 v4 S) (fun v23 S24 => some (v23, S24)) else if v6 = 10 then fcallv S a0 12 (f_X12_arePassed a0 v2 S) (fun v25 S26 => some (v25, S26)) else some (1, S)))))))
theorem e_X12_isPlayed {G : jG} {d : Nat} {S0 : jSt} (hd0 : 11 ≤ d) (a0 : Int) (a1 : Int) (S : jSt) (h0 : 0 ≤ (a0)) (h1 : R32 (a1)) : J G yX12_isPlayed cX12_isPlayed 4 (some .boolean) d S0 0 [(0, 2, a0), (1, 0, a1)] [] S (f_X12_isPlayed a0 a1 S) := by
  unfold f_X12_isPlayed
  refine j_aload_n 0 dX12_isPlayed_0 rfl rfl ?_
  refine j_getr (ci := 12) (k := 2) rfl in_X12 (Nat.le_of_ble_eq_true rfl) rfl rfl fl_X12_16 dX12_isPlayed_1 (fun (v1 : Int) (hv1 : 0 ≤ v1) => ?_)
  refine j_iload_n 1 dX12_isPlayed_4 rfl rfl ?_
  refine j_iconst dX12_isPlayed_5 ?_
  refine j_iadd dX12_isPlayed_6 ?_
  refine j_iaload (w32_R _) dX12_isPlayed_7 (fun (v2 : Int) (hv2 : R32 (v2)) => ?_)
  refine j_istore_n (lv' := [(2, 0, v2), (0, 2, a0), (1, 0, a1)]) dX12_isPlayed_8 rfl (Nat.le_of_ble_eq_true rfl) rfl ?_
  refine j_aload_n 1 dX12_isPlayed_9 rfl rfl ?_
  refine j_getr (ci := 12) (k := 2) rfl in_X12 (Nat.le_of_ble_eq_true rfl) rfl rfl fl_X12_16 dX12_isPlayed_10 (fun (v3 : Int) (hv3 : 0 ≤ v3) => ?_)
  refine j_iload_n 2 dX12_isPlayed_13 rfl rfl ?_
  refine j_iconst dX12_isPlayed_14 ?_
  refine j_iadd dX12_isPlayed_15 ?_
  refine j_iaload (w32_R _) dX12_isPlayed_16 (fun (v4 : Int) (hv4 : R32 (v4)) => ?_)
  refine j_istore_n (lv' := [(3, 0, v4), (2, 0, v2), (0, 2, a0), (1, 0, a1)]) dX12_isPlayed_17 rfl (Nat.le_of_ble_eq_true rfl) rfl ?_
  refine j_aload_n 2 dX12_isPlayed_18 rfl rfl ?_
  refine j_getr (ci := 12) (k := 2) rfl in_X12 (Nat.le_of_ble_eq_true rfl) rfl rfl fl_X12_16 dX12_isPlayed_19 (fun (v5 : Int) (hv5 : 0 ≤ v5) => ?_)
  refine j_iload_n 3 dX12_isPlayed_22 rfl rfl ?_
  refine j_iaload h1 dX12_isPlayed_23 (fun (v6 : Int) (hv6 : R32 (v6)) => ?_)
  refine j_ite (fun hc0 => ?_) (fun hc0 => ?_)
  · refine j_tableIn (tgt := 72) (off := 48) hv6 dX12_isPlayed_24 (by omega) (by omega) (by rw [hc0]; rfl) rfl ?_
    refine j_aload_n 2 dX12_isPlayed_72 rfl rfl ?_
    refine j_iload_n 1 dX12_isPlayed_73 rfl rfl ?_
    refine j_iload_n 0 dX12_isPlayed_74 rfl rfl ?_
    refine j_aload_n 2 dX12_isPlayed_75 rfl rfl ?_
    refine j_getr (ci := 12) (k := 2) rfl in_X12 (Nat.le_of_ble_eq_true rfl) rfl rfl fl_X12_16 dX12_isPlayed_76 (fun (v7 : Int) (hv7 : 0 ≤ v7) => ?_)
    refine j_iload_n 3 dX12_isPlayed_79 rfl rfl ?_
    refine j_iconst dX12_isPlayed_80 ?_
    refine j_iadd dX12_isPlayed_81 ?_
    refine j_iaload (w32_R _) dX12_isPlayed_82 (fun (v8 : Int) (hv8 : R32 (v8)) => ?_)
    refine j_callV (ci := 12) (As := [(0, v2), (0, v4), (0, v8)]) (st := []) kc_X12_lot (c_X12_lot a0 v2 v4 v8 S h0 hv2 hv4 hv8) rfl lm_X12_379 ki_X12_lot ke_X12_lot rfl (Nat.le_of_ble_eq_true rfl) (Nat.le_trans (m := 11) (Nat.le_of_ble_eq_true rfl) hd0) dX12_isPlayed_83 (fun (v9 : Int) (S10 : jSt) (hv9 : R32 (v9)) => ?_)
    refine j_if_lt (tgt := 93) hv9 dX12_isPlayed_86 rfl (fun _ => ?_) (fun _ => ?_)
    · refine j_iconst dX12_isPlayed_93 ?_
      refine j_sub [] rfl ?_
      exact p_f_X12_isPlayed_b94 hd0 0 S10 jz0
    · refine j_iconst dX12_isPlayed_89 ?_
      refine j_goto (tgt := 94) dX12_isPlayed_90 rfl ?_
      refine j_sub [] rfl ?_
      exact p_f_X12_isPlayed_b94 hd0 1 S10 jz1
  refine j_ite (fun hc1 => ?_) (fun hc1 => ?_)
  · refine j_tableIn (tgt := 95) (off := 71) hv6 dX12_isPlayed_24 (by omega) (by omega) (by rw [hc1]; rfl) rfl ?_
    refine j_aload_n 2 dX12_isPlayed_95 rfl rfl ?_
    refine j_iload_n 1 dX12_isPlayed_96 rfl rfl ?_
    refine j_callV (ci := 12) (As := [(0, v2)]) (st := []) kc_X12_bidder (c_X12_bidder a0 v2 S h0 hv2) rfl lm_X12_382 ki_X12_bidder ke_X12_bidder rfl (Nat.le_of_ble_eq_true rfl) (Nat.le_trans (m := 11) (Nat.le_of_ble_eq_true rfl) hd0) dX12_isPlayed_97 (fun (v11 : Int) (S12 : jSt) (hv11 : R32 (v11)) => ?_)
    refine j_if_lt (tgt := 107) hv11 dX12_isPlayed_100 rfl (fun _ => ?_) (fun _ => ?_)
    · refine j_iconst dX12_isPlayed_107 ?_
      refine j_sub [] rfl ?_
      exact p_f_X12_isPlayed_b108 hd0 0 S12 jz0
    · refine j_iconst dX12_isPlayed_103 ?_
      refine j_goto (tgt := 108) dX12_isPlayed_104 rfl ?_
      refine j_sub [] rfl ?_
      exact p_f_X12_isPlayed_b108 hd0 1 S12 jz1
  refine j_ite (fun hc2 => ?_) (fun hc2 => ?_)
  · refine j_tableIn (tgt := 109) (off := 85) hv6 dX12_isPlayed_24 (by omega) (by omega) (by rw [hc2]; rfl) rfl ?_
    refine j_aload_n 2 dX12_isPlayed_109 rfl rfl ?_
    refine j_aload_n 2 dX12_isPlayed_110 rfl rfl ?_
    refine j_getr (ci := 12) (k := 2) rfl in_X12 (Nat.le_of_ble_eq_true rfl) rfl rfl fl_X12_16 dX12_isPlayed_111 (fun (v13 : Int) (hv13 : 0 ≤ v13) => ?_)
    refine j_iload_n 3 dX12_isPlayed_114 rfl rfl ?_
    refine j_iconst dX12_isPlayed_115 ?_
    refine j_iadd dX12_isPlayed_116 ?_
    refine j_iaload (w32_R _) dX12_isPlayed_117 (fun (v14 : Int) (hv14 : R32 (v14)) => ?_)
    refine j_iload_n 0 dX12_isPlayed_118 rfl rfl ?_
    refine j_iload_n 1 dX12_isPlayed_119 rfl rfl ?_
    refine j_callV (ci := 12) (As := [(0, v14), (0, v4), (0, v2)]) (st := []) kc_X12_want (c_X12_want a0 v14 v4 v2 S h0 hv14 hv4 hv2) rfl lm_X12_385 ki_X12_want ke_X12_want rfl (Nat.le_of_ble_eq_true rfl) (Nat.le_trans (m := 11) (Nat.le_of_ble_eq_true rfl) hd0) dX12_isPlayed_120 (fun (v15 : Int) (S16 : jSt) (hv15 : (v15) = 0 ∨ (v15) = 1) => ?_)
    exact j_zreturn hv15 dX12_isPlayed_123
  refine j_ite (fun hc3 => ?_) (fun hc3 => ?_)
  · refine j_tableIn (tgt := 124) (off := 100) hv6 dX12_isPlayed_24 (by omega) (by omega) (by rw [hc3]; rfl) rfl ?_
    refine j_aload_n 2 dX12_isPlayed_124 rfl rfl ?_
    refine j_iload_n 1 dX12_isPlayed_125 rfl rfl ?_
    refine j_callV (ci := 12) (As := [(0, v2)]) (st := []) kc_X12_sell (c_X12_sell a0 v2 S h0 hv2) rfl lm_X12_388 ki_X12_sell ke_X12_sell rfl (Nat.le_of_ble_eq_true rfl) (Nat.le_trans (m := 11) (Nat.le_of_ble_eq_true rfl) hd0) dX12_isPlayed_126 (fun (v17 : Int) (S18 : jSt) (hv17 : R32 (v17)) => ?_)
    refine j_bipush dX12_isPlayed_129 (by decide) ?_
    refine j_icmp_eq (tgt := 138) hv17 (j_r32 (-2) rfl) dX12_isPlayed_131 rfl (fun _ => ?_) (fun _ => ?_)
    · refine j_iconst dX12_isPlayed_138 ?_
      refine j_sub [] rfl ?_
      exact p_f_X12_isPlayed_b139 hd0 0 S18 jz0
    · refine j_iconst dX12_isPlayed_134 ?_
      refine j_goto (tgt := 139) dX12_isPlayed_135 rfl ?_
      refine j_sub [] rfl ?_
      exact p_f_X12_isPlayed_b139 hd0 1 S18 jz1
  refine j_ite (fun hc4 => ?_) (fun hc4 => ?_)
  · refine j_tableIn (tgt := 140) (off := 116) hv6 dX12_isPlayed_24 (by omega) (by omega) (by rw [hc4]; rfl) rfl ?_
    refine j_aload_n 2 dX12_isPlayed_140 rfl rfl ?_
    refine j_iload_n 1 dX12_isPlayed_141 rfl rfl ?_
    refine j_callV (ci := 12) (As := [(0, v2)]) (st := []) kc_X12_carry (c_X12_carry a0 v2 S h0 hv2) rfl lm_X12_391 ki_X12_carry ke_X12_carry rfl (Nat.le_of_ble_eq_true rfl) (Nat.le_trans (m := 11) (Nat.le_of_ble_eq_true rfl) hd0) dX12_isPlayed_142 (fun (v19 : Int) (S20 : jSt) (hv19 : (v19) = 0 ∨ (v19) = 1) => ?_)
    exact j_zreturn hv19 dX12_isPlayed_145
  refine j_ite (fun hc5 => ?_) (fun hc5 => ?_)
  · refine j_tableIn (tgt := 146) (off := 122) hv6 dX12_isPlayed_24 (by omega) (by omega) (by rw [hc5]; rfl) rfl ?_
    refine j_aload_n 2 dX12_isPlayed_146 rfl rfl ?_
    refine j_iload_n 1 dX12_isPlayed_147 rfl rfl ?_
    refine j_callV (ci := 12) (As := [(0, v2)]) (st := []) kc_X12_burn (c_X12_burn a0 v2 S h0 hv2) rfl lm_X12_394 ki_X12_burn ke_X12_burn rfl (Nat.le_of_ble_eq_true rfl) (Nat.le_trans (m := 11) (Nat.le_of_ble_eq_true rfl) hd0) dX12_isPlayed_148 (fun (v21 : Int) (S22 : jSt) (hv21 : (v21) = 0 ∨ (v21) = 1) => ?_)
    exact j_zreturn hv21 dX12_isPlayed_151
  refine j_ite (fun hc6 => ?_) (fun hc6 => ?_)
  · refine j_tableIn (tgt := 152) (off := 128) hv6 dX12_isPlayed_24 (by omega) (by omega) (by rw [hc6]; rfl) rfl ?_
    refine j_aload_n 2 dX12_isPlayed_152 rfl rfl ?_
    refine j_iload_n 1 dX12_isPlayed_153 rfl rfl ?_
    refine j_iload_n 0 dX12_isPlayed_154 rfl rfl ?_
    refine j_callV (ci := 12) (As := [(0, v2), (0, v4)]) (st := []) kc_X12_buy (c_X12_buy a0 v2 v4 S h0 hv2 hv4) rfl lm_X12_397 ki_X12_buy ke_X12_buy rfl (Nat.le_of_ble_eq_true rfl) (Nat.le_trans (m := 11) (Nat.le_of_ble_eq_true rfl) hd0) dX12_isPlayed_155 (fun (v23 : Int) (S24 : jSt) (hv23 : (v23) = 0 ∨ (v23) = 1) => ?_)
    exact j_zreturn hv23 dX12_isPlayed_158
  refine j_ite (fun hc7 => ?_) (fun hc7 => ?_)
  · refine j_tableIn (tgt := 159) (off := 135) hv6 dX12_isPlayed_24 (by omega) (by omega) (by rw [hc7]; rfl) rfl ?_
    refine j_aload_n 2 dX12_isPlayed_159 rfl rfl ?_
    refine j_iload_n 1 dX12_isPlayed_160 rfl rfl ?_
    refine j_callV (ci := 12) (As := [(0, v2)]) (st := []) kc_X12_arePassed (c_X12_arePassed a0 v2 S h0 hv2) rfl lm_X12_376 ki_X12_arePassed ke_X12_arePassed rfl (Nat.le_of_ble_eq_true rfl) (Nat.le_trans (m := 11) (Nat.le_of_ble_eq_true rfl) hd0) dX12_isPlayed_161 (fun (v25 : Int) (S26 : jSt) (hv25 : (v25) = 0 ∨ (v25) = 1) => ?_)
    exact j_zreturn hv25 dX12_isPlayed_164
  refine j_tableOut (tgt := 165) hv6 dX12_isPlayed_24 (by omega) rfl ?_
  refine j_iconst dX12_isPlayed_165 ?_
  exact j_zreturn jz1 dX12_isPlayed_166
theorem c_X12_isPlayed {G : jG} (a0 : Int) (a1 : Int) (S : jSt) (h0 : 0 ≤ (a0)) (h1 : R32 (a1)) : CT G yX12_isPlayed cX12_isPlayed 4 (some .boolean) 11 ([(2, a0), (0, a1)].map jval) S (f_X12_isPlayed a0 a1 S) := ct_of [(2, a0), (0, a1)] (by decide) rfl (Nat.le_of_ble_eq_true rfl) (e_X12_isPlayed (Nat.le_refl _) a0 a1 S h0 h1)
-- X12_isTen
def f_X12_isTen_b40 (x0 : Int) (S : jSt) : Option (Int × jSt) :=
  some (x0, S)
theorem p_f_X12_isTen_b40 {G : jG} {d : Nat} {S0 : jSt} (hd0 : 1 ≤ d) : ∀ (x0 : Int) (S : jSt), ((x0) = 0 ∨ (x0) = 1) → J G yX12_isTen cX12_isTen 3 (some .boolean) d S0 40 [] [(0, x0)] S (f_X12_isTen_b40  x0 S) := by
  intro x0 S h0
  unfold f_X12_isTen_b40
  exact j_zreturn h0 dX12_isTen_40
def f_X12_isTen_b4B (r4 : Int → Int → Int → jSt → Option (Int × jSt)) (x0 : Int) (x1 : Int) (x2 : Int) (S : jSt) : Option (Int × jSt) :=
  if 6 ≤ x2 then if x1 = 10 then f_X12_isTen_b40 1 S else f_X12_isTen_b40 0 S else fgetr S x0 12 0 (fun v1 => fald S v1 (w32 (147 + x2)) 1 (fun v2 => flet (w32 (x1 + v2)) (fun v3 => flet (w32 (x2 + 1)) (fun v4 => r4 x0 v3 v4 S))))
theorem p_f_X12_isTen_b4B {G : jG} {d : Nat} {S0 : jSt} (hd0 : 1 ≤ d) {r4 : Int → Int → Int → jSt → Option (Int × jSt)} (k4 : ∀ (x0 : Int) (x1 : Int) (x2 : Int) (S : jSt), (0 ≤ (x0)) → (R32 (x1)) → (R32 (x2)) → J G yX12_isTen cX12_isTen 3 (some .boolean) d S0 4 [(0, 2, x0), (1, 0, x1), (2, 0, x2)] [] S (r4 x0 x1 x2 S)) : ∀ (x0 : Int) (x1 : Int) (x2 : Int) (S : jSt), (0 ≤ (x0)) → (R32 (x1)) → (R32 (x2)) → J G yX12_isTen cX12_isTen 3 (some .boolean) d S0 4 [(0, 2, x0), (1, 0, x1), (2, 0, x2)] [] S (f_X12_isTen_b4B r4 x0 x1 x2 S) := by
  intro x0 x1 x2 S h0 h1 h2
  unfold f_X12_isTen_b4B
  refine j_iload_n 2 dX12_isTen_4 rfl rfl ?_
  refine j_bipush dX12_isTen_5 (by decide) ?_
  refine j_icmp_ge (tgt := 29) h2 (j_r32 6 rfl) dX12_isTen_7 rfl (fun _ => ?_) (fun _ => ?_)
  · refine j_iload_n 1 dX12_isTen_29 rfl rfl ?_
    refine j_bipush dX12_isTen_30 (by decide) ?_
    refine j_icmp_ne (tgt := 39) h1 (j_r32 10 rfl) dX12_isTen_32 rfl (fun _ => ?_) (fun _ => ?_)
    · refine j_iconst dX12_isTen_39 ?_
      refine j_sub [] rfl ?_
      exact p_f_X12_isTen_b40 hd0 0 S jz0
    · refine j_iconst dX12_isTen_35 ?_
      refine j_goto (tgt := 40) dX12_isTen_36 rfl ?_
      refine j_sub [] rfl ?_
      exact p_f_X12_isTen_b40 hd0 1 S jz1
  · refine j_iload_n 1 dX12_isTen_10 rfl rfl ?_
    refine j_aload_n 0 dX12_isTen_11 rfl rfl ?_
    refine j_getr (ci := 12) (k := 0) rfl in_X12 (Nat.le_of_ble_eq_true rfl) rfl rfl fl_X12_7 dX12_isTen_12 (fun (v1 : Int) (hv1 : 0 ≤ v1) => ?_)
    refine j_sipush dX12_isTen_15 (by decide) ?_
    refine j_iload_n 2 dX12_isTen_18 rfl rfl ?_
    refine j_iadd dX12_isTen_19 ?_
    refine j_iaload (w32_R _) dX12_isTen_20 (fun (v2 : Int) (hv2 : R32 (v2)) => ?_)
    refine j_iadd dX12_isTen_21 ?_
    refine j_leti (w32_R _) (fun v3 hv3 => ?_)
    refine j_istore_n (lv' := [(1, 0, v3), (0, 2, x0), (2, 0, x2)]) dX12_isTen_22 rfl (Nat.le_of_ble_eq_true rfl) rfl ?_
    refine j_iincL (q := 2) dX12_isTen_23 rfl (Nat.le_of_ble_eq_true rfl) (fun v4 hv4 => ?_)
    refine j_lv (lv' := [(2, 0, v4), (1, 0, v3), (0, 2, x0)]) rfl ?_
    refine j_goto (tgt := 4) dX12_isTen_26 rfl ?_
    refine j_sub [2, 1, 0] rfl ?_
    exact k4 x0 v3 v4 S h0 hv3 hv4
def f_X12_isTen_b4 : Int → Int → Int → jSt → Option (Int × jSt) := jrep (β := Int → Int → Int → jSt → Option (Int × jSt)) (fun _ _ _ _ => none) (fun r => f_X12_isTen_b4B r) jN
theorem p_f_X12_isTen_b4 {G : jG} {d : Nat} {S0 : jSt} (hd0 : 1 ≤ d) : ∀ (x0 : Int) (x1 : Int) (x2 : Int) (S : jSt), (0 ≤ (x0)) → (R32 (x1)) → (R32 (x2)) → J G yX12_isTen cX12_isTen 3 (some .boolean) d S0 4 [(0, 2, x0), (1, 0, x1), (2, 0, x2)] [] S (f_X12_isTen_b4  x0 x1 x2 S) :=
  jrep_ind (P := fun (r : Int → Int → Int → jSt → Option (Int × jSt)) => ∀ (x0 : Int) (x1 : Int) (x2 : Int) (S : jSt), (0 ≤ (x0)) → (R32 (x1)) → (R32 (x2)) → J G yX12_isTen cX12_isTen 3 (some .boolean) d S0 4 [(0, 2, x0), (1, 0, x1), (2, 0, x2)] [] S (r x0 x1 x2 S)) (by intros; exact j_none) (fun r k => p_f_X12_isTen_b4B hd0 k) jN
def f_X12_isTen (a0 : Int) (S : jSt) : Option (Int × jSt) :=
  f_X12_isTen_b4 a0 0 0 S
theorem e_X12_isTen {G : jG} {d : Nat} {S0 : jSt} (hd0 : 1 ≤ d) (a0 : Int) (S : jSt) (h0 : 0 ≤ (a0)) : J G yX12_isTen cX12_isTen 3 (some .boolean) d S0 0 [(0, 2, a0)] [] S (f_X12_isTen a0 S) := by
  unfold f_X12_isTen
  refine j_iconst dX12_isTen_0 ?_
  refine j_istore_n (lv' := [(1, 0, 0), (0, 2, a0)]) dX12_isTen_1 rfl (Nat.le_of_ble_eq_true rfl) rfl ?_
  refine j_iconst dX12_isTen_2 ?_
  refine j_istore_n (lv' := [(2, 0, 0), (1, 0, 0), (0, 2, a0)]) dX12_isTen_3 rfl (Nat.le_of_ble_eq_true rfl) rfl ?_
  refine j_sub [2, 1, 0] rfl ?_
  exact p_f_X12_isTen_b4 hd0 a0 0 0 S h0 (jZ_R jz0) (jZ_R jz0)
theorem c_X12_isTen {G : jG} (a0 : Int) (S : jSt) (h0 : 0 ≤ (a0)) : CT G yX12_isTen cX12_isTen 3 (some .boolean) 1 ([(2, a0)].map jval) S (f_X12_isTen a0 S) := ct_of [(2, a0)] (by decide) rfl (Nat.le_of_ble_eq_true rfl) (e_X12_isTen (Nat.le_refl _) a0 S h0)
-- X12_worthOf
def f_X12_worthOf_b33 (r4 : Int → Int → Int → Int → jSt → Option (Int × jSt)) (x0 : Int) (x1 : Int) (x2 : Int) (x3 : Int) (x4 : Int) (S : jSt) : Option (Int × jSt) :=
  flet (w32 (x3 + x4)) (fun v5 => flet (w32 (x2 + 1)) (fun v6 => r4 x0 x1 v5 v6 S))
theorem p_f_X12_worthOf_b33 {G : jG} {d : Nat} {S0 : jSt} (hd0 : 2 ≤ d) {r4 : Int → Int → Int → Int → jSt → Option (Int × jSt)} (k4 : ∀ (x0 : Int) (x1 : Int) (x2 : Int) (x3 : Int) (S : jSt), (0 ≤ (x0)) → (R32 (x1)) → (R32 (x2)) → (R32 (x3)) → J G yX12_worthOf cX12_worthOf 4 (some .int) d S0 4 [(0, 2, x0), (1, 0, x1), (2, 0, x2), (3, 0, x3)] [] S (r4 x0 x1 x2 x3 S)) : ∀ (x0 : Int) (x1 : Int) (x2 : Int) (x3 : Int) (x4 : Int) (S : jSt), (0 ≤ (x0)) → (R32 (x1)) → (R32 (x2)) → (R32 (x3)) → (R32 (x4)) → J G yX12_worthOf cX12_worthOf 4 (some .int) d S0 33 [(0, 2, x0), (1, 0, x1), (3, 0, x2)] [(0, x4), (0, x3)] S (f_X12_worthOf_b33 r4 x0 x1 x2 x3 x4 S) := by
  intro x0 x1 x2 x3 x4 S h0 h1 h2 h3 h4
  unfold f_X12_worthOf_b33
  refine j_iadd dX12_worthOf_33 ?_
  refine j_leti (w32_R _) (fun v5 hv5 => ?_)
  refine j_istore_n (lv' := [(2, 0, v5), (0, 2, x0), (1, 0, x1), (3, 0, x2)]) dX12_worthOf_34 rfl (Nat.le_of_ble_eq_true rfl) rfl ?_
  refine j_iincL (q := 3) dX12_worthOf_35 rfl (Nat.le_of_ble_eq_true rfl) (fun v6 hv6 => ?_)
  refine j_lv (lv' := [(3, 0, v6), (2, 0, v5), (0, 2, x0), (1, 0, x1)]) rfl ?_
  refine j_goto (tgt := 4) dX12_worthOf_38 rfl ?_
  refine j_sub [2, 3, 1, 0] rfl ?_
  exact k4 x0 x1 v5 v6 S h0 h1 hv5 hv6
def f_X12_worthOf_b4B (r4 : Int → Int → Int → Int → jSt → Option (Int × jSt)) (x0 : Int) (x1 : Int) (x2 : Int) (x3 : Int) (S : jSt) : Option (Int × jSt) :=
  fgetr S x0 12 0 (fun v1 => fald S v1 0 1 (fun v2 => if v2 ≤ x3 then some (x2, S) else fcall (f_X12_has x1 x3 S) (fun v3 S4 => if v3 = 0 then f_X12_worthOf_b33 r4 x0 x1 x3 x2 0 S4 else fcallv S4 x0 12 (f_X12_get x0 x3 2 S4) (fun v7 S8 => f_X12_worthOf_b33 r4 x0 x1 x3 x2 v7 S8))))
theorem p_f_X12_worthOf_b4B {G : jG} {d : Nat} {S0 : jSt} (hd0 : 2 ≤ d) {r4 : Int → Int → Int → Int → jSt → Option (Int × jSt)} (k4 : ∀ (x0 : Int) (x1 : Int) (x2 : Int) (x3 : Int) (S : jSt), (0 ≤ (x0)) → (R32 (x1)) → (R32 (x2)) → (R32 (x3)) → J G yX12_worthOf cX12_worthOf 4 (some .int) d S0 4 [(0, 2, x0), (1, 0, x1), (2, 0, x2), (3, 0, x3)] [] S (r4 x0 x1 x2 x3 S)) : ∀ (x0 : Int) (x1 : Int) (x2 : Int) (x3 : Int) (S : jSt), (0 ≤ (x0)) → (R32 (x1)) → (R32 (x2)) → (R32 (x3)) → J G yX12_worthOf cX12_worthOf 4 (some .int) d S0 4 [(0, 2, x0), (1, 0, x1), (2, 0, x2), (3, 0, x3)] [] S (f_X12_worthOf_b4B r4 x0 x1 x2 x3 S) := by
  intro x0 x1 x2 x3 S h0 h1 h2 h3
  unfold f_X12_worthOf_b4B
  refine j_iload_n 3 dX12_worthOf_4 rfl rfl ?_
  refine j_aload_n 0 dX12_worthOf_5 rfl rfl ?_
  refine j_getr (ci := 12) (k := 0) rfl in_X12 (Nat.le_of_ble_eq_true rfl) rfl rfl fl_X12_7 dX12_worthOf_6 (fun (v1 : Int) (hv1 : 0 ≤ v1) => ?_)
  refine j_iconst dX12_worthOf_9 ?_
  refine j_iaload (jZ_R jz0) dX12_worthOf_10 (fun (v2 : Int) (hv2 : R32 (v2)) => ?_)
  refine j_icmp_ge (tgt := 41) h3 hv2 dX12_worthOf_11 rfl (fun _ => ?_) (fun _ => ?_)
  · refine j_iload_n 2 dX12_worthOf_41 rfl rfl ?_
    exact j_ireturn h2 dX12_worthOf_42
  · refine j_iload_n 2 dX12_worthOf_14 rfl rfl ?_
    refine j_iload_n 1 dX12_worthOf_15 rfl rfl ?_
    refine j_iload_n 3 dX12_worthOf_16 rfl rfl ?_
    refine j_callS (As := [(0, x1), (0, x3)]) (st := [(0, x2)]) kc_X12_has (c_X12_has x1 x3 S h1 h3) lm_X12_249 ks_X12_has rfl (Nat.le_of_ble_eq_true rfl) (Nat.le_trans (m := 2) (Nat.le_of_ble_eq_true rfl) hd0) dX12_worthOf_17 (fun (v3 : Int) (S4 : jSt) (hv3 : (v3) = 0 ∨ (v3) = 1) => ?_)
    refine j_if_eq (tgt := 32) (jZ_R hv3) dX12_worthOf_20 rfl (fun _ => ?_) (fun _ => ?_)
    · refine j_iconst dX12_worthOf_32 ?_
      refine j_sub [0, 1, 3] rfl ?_
      exact p_f_X12_worthOf_b33 hd0 k4 x0 x1 x3 x2 0 S4 h0 h1 h3 h2 (jZ_R jz0)
    · refine j_aload_n 0 dX12_worthOf_23 rfl rfl ?_
      refine j_iload_n 3 dX12_worthOf_24 rfl rfl ?_
      refine j_iconst dX12_worthOf_25 ?_
      refine j_callV (ci := 12) (As := [(0, x3), (0, 2)]) (st := [(0, x2)]) kc_X12_get (c_X12_get x0 x3 2 S4 h0 h3 (j_r32 2 rfl)) rfl lm_X12_68 ki_X12_get ke_X12_get rfl (Nat.le_of_ble_eq_true rfl) (Nat.le_trans (m := 2) (Nat.le_of_ble_eq_true rfl) hd0) dX12_worthOf_26 (fun (v7 : Int) (S8 : jSt) (hv7 : R32 (v7)) => ?_)
      refine j_goto (tgt := 33) dX12_worthOf_29 rfl ?_
      refine j_sub [0, 1, 3] rfl ?_
      exact p_f_X12_worthOf_b33 hd0 k4 x0 x1 x3 x2 v7 S8 h0 h1 h3 h2 hv7
def f_X12_worthOf_b4 : Int → Int → Int → Int → jSt → Option (Int × jSt) := jrep (β := Int → Int → Int → Int → jSt → Option (Int × jSt)) (fun _ _ _ _ _ => none) (fun r => f_X12_worthOf_b4B r) jN
theorem p_f_X12_worthOf_b4 {G : jG} {d : Nat} {S0 : jSt} (hd0 : 2 ≤ d) : ∀ (x0 : Int) (x1 : Int) (x2 : Int) (x3 : Int) (S : jSt), (0 ≤ (x0)) → (R32 (x1)) → (R32 (x2)) → (R32 (x3)) → J G yX12_worthOf cX12_worthOf 4 (some .int) d S0 4 [(0, 2, x0), (1, 0, x1), (2, 0, x2), (3, 0, x3)] [] S (f_X12_worthOf_b4  x0 x1 x2 x3 S) :=
  jrep_ind (P := fun (r : Int → Int → Int → Int → jSt → Option (Int × jSt)) => ∀ (x0 : Int) (x1 : Int) (x2 : Int) (x3 : Int) (S : jSt), (0 ≤ (x0)) → (R32 (x1)) → (R32 (x2)) → (R32 (x3)) → J G yX12_worthOf cX12_worthOf 4 (some .int) d S0 4 [(0, 2, x0), (1, 0, x1), (2, 0, x2), (3, 0, x3)] [] S (r x0 x1 x2 x3 S)) (by intros; exact j_none) (fun r k => p_f_X12_worthOf_b4B hd0 k) jN
def f_X12_worthOf (a0 : Int) (a1 : Int) (S : jSt) : Option (Int × jSt) :=
  f_X12_worthOf_b4 a0 a1 0 0 S
theorem e_X12_worthOf {G : jG} {d : Nat} {S0 : jSt} (hd0 : 2 ≤ d) (a0 : Int) (a1 : Int) (S : jSt) (h0 : 0 ≤ (a0)) (h1 : R32 (a1)) : J G yX12_worthOf cX12_worthOf 4 (some .int) d S0 0 [(0, 2, a0), (1, 0, a1)] [] S (f_X12_worthOf a0 a1 S) := by
  unfold f_X12_worthOf
  refine j_iconst dX12_worthOf_0 ?_
  refine j_istore_n (lv' := [(2, 0, 0), (0, 2, a0), (1, 0, a1)]) dX12_worthOf_1 rfl (Nat.le_of_ble_eq_true rfl) rfl ?_
  refine j_iconst dX12_worthOf_2 ?_
  refine j_istore_n (lv' := [(3, 0, 0), (2, 0, 0), (0, 2, a0), (1, 0, a1)]) dX12_worthOf_3 rfl (Nat.le_of_ble_eq_true rfl) rfl ?_
  refine j_sub [2, 3, 1, 0] rfl ?_
  exact p_f_X12_worthOf_b4 hd0 a0 a1 0 0 S h0 h1 (jZ_R jz0) (jZ_R jz0)
theorem c_X12_worthOf {G : jG} (a0 : Int) (a1 : Int) (S : jSt) (h0 : 0 ≤ (a0)) (h1 : R32 (a1)) : CT G yX12_worthOf cX12_worthOf 4 (some .int) 2 ([(2, a0), (0, a1)].map jval) S (f_X12_worthOf a0 a1 S) := ct_of [(2, a0), (0, a1)] (by decide) rfl (Nat.le_of_ble_eq_true rfl) (e_X12_worthOf (Nat.le_refl _) a0 a1 S h0 h1)
-- X12_kept
def f_X12_kept_b138 (x0 : Int) (S : jSt) : Option (Int × jSt) :=
  some (x0, S)
theorem p_f_X12_kept_b138 {G : jG} {d : Nat} {S0 : jSt} (hd0 : 5 ≤ d) : ∀ (x0 : Int) (S : jSt), (R32 (x0)) → J G yX12_kept cX12_kept 7 (some .int) d S0 138 [] [(0, x0)] S (f_X12_kept_b138  x0 S) := by
  intro x0 S h0
  unfold f_X12_kept_b138
  exact j_ireturn h0 dX12_kept_138
def f_X12_kept_b117 (r47 : Int → Int → Int → Int → Int → Int → jSt → Option (Int × jSt)) (x0 : Int) (x1 : Int) (x2 : Int) (x3 : Int) (x4 : Int) (x5 : Int) (S : jSt) : Option (Int × jSt) :=
  flet (w32 (x5 + 1)) (fun v14 => r47 x0 x1 x2 x3 x4 v14 S)
theorem p_f_X12_kept_b117 {G : jG} {d : Nat} {S0 : jSt} (hd0 : 5 ≤ d) {r47 : Int → Int → Int → Int → Int → Int → jSt → Option (Int × jSt)} (k47 : ∀ (x0 : Int) (x1 : Int) (x2 : Int) (x3 : Int) (x4 : Int) (x5 : Int) (S : jSt), (0 ≤ (x0)) → (R32 (x1)) → ((x2) = 0 ∨ (x2) = 1) → (R32 (x3)) → (R32 (x4)) → (R32 (x5)) → J G yX12_kept cX12_kept 7 (some .int) d S0 47 [(0, 2, x0), (1, 0, x1), (2, 0, x2), (3, 0, x3), (4, 0, x4), (5, 0, x5)] [] S (r47 x0 x1 x2 x3 x4 x5 S)) : ∀ (x0 : Int) (x1 : Int) (x2 : Int) (x3 : Int) (x4 : Int) (x5 : Int) (S : jSt), (0 ≤ (x0)) → (R32 (x1)) → ((x2) = 0 ∨ (x2) = 1) → (R32 (x3)) → (R32 (x4)) → (R32 (x5)) → J G yX12_kept cX12_kept 7 (some .int) d S0 117 [(0, 2, x0), (1, 0, x1), (2, 0, x2), (3, 0, x3), (4, 0, x4), (5, 0, x5)] [] S (f_X12_kept_b117 r47 x0 x1 x2 x3 x4 x5 S) := by
  intro x0 x1 x2 x3 x4 x5 S h0 h1 h2 h3 h4 h5
  unfold f_X12_kept_b117
  refine j_iincL (q := 5) dX12_kept_117 rfl (Nat.le_of_ble_eq_true rfl) (fun v14 hv14 => ?_)
  refine j_lv (lv' := [(5, 0, v14), (0, 2, x0), (1, 0, x1), (2, 0, x2), (3, 0, x3), (4, 0, x4)]) rfl ?_
  refine j_goto (tgt := 47) dX12_kept_120 rfl ?_
  refine j_sub [1, 2, 3, 4, 5, 0] rfl ?_
  exact k47 x0 x1 x2 x3 x4 v14 S h0 h1 h2 h3 h4 hv14
def f_X12_kept_b103 (r47 : Int → Int → Int → Int → Int → Int → jSt → Option (Int × jSt)) (x0 : Int) (x1 : Int) (x2 : Int) (x3 : Int) (x4 : Int) (x5 : Int) (S : jSt) : Option (Int × jSt) :=
  fcallv S x0 12 (f_X12_canKeep x0 x5 x1 S) (fun v12 S13 => if v12 = 0 then f_X12_kept_b117 r47 x0 x1 x2 x3 x4 x5 S13 else f_X12_kept_b117 r47 x0 x1 x2 x3 x5 x5 S13)
theorem p_f_X12_kept_b103 {G : jG} {d : Nat} {S0 : jSt} (hd0 : 5 ≤ d) {r47 : Int → Int → Int → Int → Int → Int → jSt → Option (Int × jSt)} (k47 : ∀ (x0 : Int) (x1 : Int) (x2 : Int) (x3 : Int) (x4 : Int) (x5 : Int) (S : jSt), (0 ≤ (x0)) → (R32 (x1)) → ((x2) = 0 ∨ (x2) = 1) → (R32 (x3)) → (R32 (x4)) → (R32 (x5)) → J G yX12_kept cX12_kept 7 (some .int) d S0 47 [(0, 2, x0), (1, 0, x1), (2, 0, x2), (3, 0, x3), (4, 0, x4), (5, 0, x5)] [] S (r47 x0 x1 x2 x3 x4 x5 S)) : ∀ (x0 : Int) (x1 : Int) (x2 : Int) (x3 : Int) (x4 : Int) (x5 : Int) (S : jSt), (0 ≤ (x0)) → (R32 (x1)) → ((x2) = 0 ∨ (x2) = 1) → (R32 (x3)) → (R32 (x4)) → (R32 (x5)) → J G yX12_kept cX12_kept 7 (some .int) d S0 103 [(0, 2, x0), (1, 0, x1), (2, 0, x2), (3, 0, x3), (4, 0, x4), (5, 0, x5)] [] S (f_X12_kept_b103 r47 x0 x1 x2 x3 x4 x5 S) := by
  intro x0 x1 x2 x3 x4 x5 S h0 h1 h2 h3 h4 h5
  unfold f_X12_kept_b103
  refine j_aload_n 0 dX12_kept_103 rfl rfl ?_
  refine j_iload 5 dX12_kept_104 rfl ?_
  refine j_iload_n 1 dX12_kept_106 rfl rfl ?_
  refine j_callV (ci := 12) (As := [(0, x5), (0, x1)]) (st := []) kc_X12_canKeep (c_X12_canKeep x0 x5 x1 S h0 h5 h1) rfl lm_X12_442 ki_X12_canKeep ke_X12_canKeep rfl (Nat.le_of_ble_eq_true rfl) (Nat.le_trans (m := 5) (Nat.le_of_ble_eq_true rfl) hd0) dX12_kept_107 (fun (v12 : Int) (S13 : jSt) (hv12 : (v12) = 0 ∨ (v12) = 1) => ?_)
  refine j_if_eq (tgt := 117) (jZ_R hv12) dX12_kept_110 rfl (fun _ => ?_) (fun _ => ?_)
  · exact p_f_X12_kept_b117 hd0 k47 x0 x1 x2 x3 x4 x5 S13 h0 h1 h2 h3 h4 h5
  · refine j_iload 5 dX12_kept_113 rfl ?_
    refine j_istore (lv' := [(4, 0, x5), (0, 2, x0), (1, 0, x1), (2, 0, x2), (3, 0, x3), (5, 0, x5)]) dX12_kept_115 (Nat.le_of_ble_eq_true rfl) rfl ?_
    refine j_sub [1, 2, 3, 4, 0, 5] rfl ?_
    exact p_f_X12_kept_b117 hd0 k47 x0 x1 x2 x3 x5 x5 S13 h0 h1 h2 h3 h5 h5
def f_X12_kept_b47B (r47 : Int → Int → Int → Int → Int → Int → jSt → Option (Int × jSt)) (x0 : Int) (x1 : Int) (x2 : Int) (x3 : Int) (x4 : Int) (x5 : Int) (S : jSt) : Option (Int × jSt) :=
  if x3 < x5 then if x2 = 0 then f_X12_kept_b138 x4 S else fcallv S x0 12 (f_X12_worthOf x0 x4 S) (fun v5 S6 => f_X12_kept_b138 v5 S6) else if (iand32 x5 (ixor32 x3 (-1))) = 0 then fcallv S x0 12 (f_X12_worthOf x0 x5 S) (fun v7 S8 => fcallv S8 x0 12 (f_X12_worthOf x0 x4 S8) (fun v9 S10 => flet (w32 (v7 - v9)) (fun v11 => if 0 < v11 then f_X12_kept_b103 r47 x0 x1 x2 x3 x4 x5 S10 else if v11 = 0 then fcall (f_X12_bits x5 S10) (fun v15 S16 => fcall (f_X12_bits x4 S16) (fun v17 S18 => if v17 ≤ v15 then f_X12_kept_b117 r47 x0 x1 x2 x3 x4 x5 S18 else f_X12_kept_b103 r47 x0 x1 x2 x3 x4 x5 S18)) else f_X12_kept_b117 r47 x0 x1 x2 x3 x4 x5 S10))) else f_X12_kept_b117 r47 x0 x1 x2 x3 x4 x5 S
theorem p_f_X12_kept_b47B {G : jG} {d : Nat} {S0 : jSt} (hd0 : 5 ≤ d) {r47 : Int → Int → Int → Int → Int → Int → jSt → Option (Int × jSt)} (k47 : ∀ (x0 : Int) (x1 : Int) (x2 : Int) (x3 : Int) (x4 : Int) (x5 : Int) (S : jSt), (0 ≤ (x0)) → (R32 (x1)) → ((x2) = 0 ∨ (x2) = 1) → (R32 (x3)) → (R32 (x4)) → (R32 (x5)) → J G yX12_kept cX12_kept 7 (some .int) d S0 47 [(0, 2, x0), (1, 0, x1), (2, 0, x2), (3, 0, x3), (4, 0, x4), (5, 0, x5)] [] S (r47 x0 x1 x2 x3 x4 x5 S)) : ∀ (x0 : Int) (x1 : Int) (x2 : Int) (x3 : Int) (x4 : Int) (x5 : Int) (S : jSt), (0 ≤ (x0)) → (R32 (x1)) → ((x2) = 0 ∨ (x2) = 1) → (R32 (x3)) → (R32 (x4)) → (R32 (x5)) → J G yX12_kept cX12_kept 7 (some .int) d S0 47 [(0, 2, x0), (1, 0, x1), (2, 0, x2), (3, 0, x3), (4, 0, x4), (5, 0, x5)] [] S (f_X12_kept_b47B r47 x0 x1 x2 x3 x4 x5 S) := by
  intro x0 x1 x2 x3 x4 x5 S h0 h1 h2 h3 h4 h5
  unfold f_X12_kept_b47B
  refine j_iload 5 dX12_kept_47 rfl ?_
  refine j_iload_n 3 dX12_kept_49 rfl rfl ?_
  refine j_icmp_gt (tgt := 123) h5 h3 dX12_kept_50 rfl (fun _ => ?_) (fun _ => ?_)
  · refine j_iload_n 2 dX12_kept_123 rfl rfl ?_
    refine j_if_eq (tgt := 136) (jZ_R h2) dX12_kept_124 rfl (fun _ => ?_) (fun _ => ?_)
    · refine j_iload 4 dX12_kept_136 rfl ?_
      refine j_sub [] rfl ?_
      exact p_f_X12_kept_b138 hd0 x4 S h4
    · refine j_aload_n 0 dX12_kept_127 rfl rfl ?_
      refine j_iload 4 dX12_kept_128 rfl ?_
      refine j_callV (ci := 12) (As := [(0, x4)]) (st := []) kc_X12_worthOf (c_X12_worthOf x0 x4 S h0 h4) rfl lm_X12_439 ki_X12_worthOf ke_X12_worthOf rfl (Nat.le_of_ble_eq_true rfl) (Nat.le_trans (m := 5) (Nat.le_of_ble_eq_true rfl) hd0) dX12_kept_130 (fun (v5 : Int) (S6 : jSt) (hv5 : R32 (v5)) => ?_)
      refine j_goto (tgt := 138) dX12_kept_133 rfl ?_
      refine j_sub [] rfl ?_
      exact p_f_X12_kept_b138 hd0 v5 S6 hv5
  · refine j_iload 5 dX12_kept_53 rfl ?_
    refine j_iload_n 3 dX12_kept_55 rfl rfl ?_
    refine j_iconst dX12_kept_56 ?_
    refine j_ixor dX12_kept_57 ?_
    refine j_iand dX12_kept_58 ?_
    refine j_if_eq (tgt := 65) (iand32_R _ _) dX12_kept_59 rfl (fun _ => ?_) (fun _ => ?_)
    · refine j_aload_n 0 dX12_kept_65 rfl rfl ?_
      refine j_iload 5 dX12_kept_66 rfl ?_
      refine j_callV (ci := 12) (As := [(0, x5)]) (st := []) kc_X12_worthOf (c_X12_worthOf x0 x5 S h0 h5) rfl lm_X12_439 ki_X12_worthOf ke_X12_worthOf rfl (Nat.le_of_ble_eq_true rfl) (Nat.le_trans (m := 5) (Nat.le_of_ble_eq_true rfl) hd0) dX12_kept_68 (fun (v7 : Int) (S8 : jSt) (hv7 : R32 (v7)) => ?_)
      refine j_aload_n 0 dX12_kept_71 rfl rfl ?_
      refine j_iload 4 dX12_kept_72 rfl ?_
      refine j_callV (ci := 12) (As := [(0, x4)]) (st := [(0, v7)]) kc_X12_worthOf (c_X12_worthOf x0 x4 S8 h0 h4) rfl lm_X12_439 ki_X12_worthOf ke_X12_worthOf rfl (Nat.le_of_ble_eq_true rfl) (Nat.le_trans (m := 5) (Nat.le_of_ble_eq_true rfl) hd0) dX12_kept_74 (fun (v9 : Int) (S10 : jSt) (hv9 : R32 (v9)) => ?_)
      refine j_isub dX12_kept_77 ?_
      refine j_leti (w32_R _) (fun v11 hv11 => ?_)
      refine j_istore (lv' := [(6, 0, v11), (0, 2, x0), (1, 0, x1), (2, 0, x2), (3, 0, x3), (4, 0, x4), (5, 0, x5)]) dX12_kept_78 (Nat.le_of_ble_eq_true rfl) rfl ?_
      refine j_iload 0 dX12_kept_80 rfl ?_
      refine j_if_gt (tgt := 103) hv11 dX12_kept_82 rfl (fun _ => ?_) (fun _ => ?_)
      · refine j_sub [1, 2, 3, 4, 5, 6] rfl ?_
        exact p_f_X12_kept_b103 hd0 k47 x0 x1 x2 x3 x4 x5 S10 h0 h1 h2 h3 h4 h5
      · refine j_iload 0 dX12_kept_85 rfl ?_
        refine j_if_ne (tgt := 117) hv11 dX12_kept_87 rfl (fun _ => ?_) (fun _ => ?_)
        · refine j_sub [1, 2, 3, 4, 5, 6] rfl ?_
          exact p_f_X12_kept_b117 hd0 k47 x0 x1 x2 x3 x4 x5 S10 h0 h1 h2 h3 h4 h5
        · refine j_iload 6 dX12_kept_90 rfl ?_
          refine j_callS (As := [(0, x5)]) (st := []) kc_X12_bits (c_X12_bits x5 S10 h5) lm_X12_305 ks_X12_bits rfl (Nat.le_of_ble_eq_true rfl) (Nat.le_trans (m := 5) (Nat.le_of_ble_eq_true rfl) hd0) dX12_kept_92 (fun (v15 : Int) (S16 : jSt) (hv15 : R32 (v15)) => ?_)
          refine j_iload 5 dX12_kept_95 rfl ?_
          refine j_callS (As := [(0, x4)]) (st := [(0, v15)]) kc_X12_bits (c_X12_bits x4 S16 h4) lm_X12_305 ks_X12_bits rfl (Nat.le_of_ble_eq_true rfl) (Nat.le_trans (m := 5) (Nat.le_of_ble_eq_true rfl) hd0) dX12_kept_97 (fun (v17 : Int) (S18 : jSt) (hv17 : R32 (v17)) => ?_)
          refine j_icmp_ge (tgt := 117) hv15 hv17 dX12_kept_100 rfl (fun _ => ?_) (fun _ => ?_)
          · refine j_sub [1, 2, 3, 4, 5, 6] rfl ?_
            exact p_f_X12_kept_b117 hd0 k47 x0 x1 x2 x3 x4 x5 S18 h0 h1 h2 h3 h4 h5
          · refine j_sub [1, 2, 3, 4, 5, 6] rfl ?_
            exact p_f_X12_kept_b103 hd0 k47 x0 x1 x2 x3 x4 x5 S18 h0 h1 h2 h3 h4 h5
    · refine j_goto (tgt := 117) dX12_kept_62 rfl ?_
      exact p_f_X12_kept_b117 hd0 k47 x0 x1 x2 x3 x4 x5 S h0 h1 h2 h3 h4 h5
def f_X12_kept_b47 : Int → Int → Int → Int → Int → Int → jSt → Option (Int × jSt) := jrep (β := Int → Int → Int → Int → Int → Int → jSt → Option (Int × jSt)) (fun _ _ _ _ _ _ _ => none) (fun r => f_X12_kept_b47B r) jN
theorem p_f_X12_kept_b47 {G : jG} {d : Nat} {S0 : jSt} (hd0 : 5 ≤ d) : ∀ (x0 : Int) (x1 : Int) (x2 : Int) (x3 : Int) (x4 : Int) (x5 : Int) (S : jSt), (0 ≤ (x0)) → (R32 (x1)) → ((x2) = 0 ∨ (x2) = 1) → (R32 (x3)) → (R32 (x4)) → (R32 (x5)) → J G yX12_kept cX12_kept 7 (some .int) d S0 47 [(0, 2, x0), (1, 0, x1), (2, 0, x2), (3, 0, x3), (4, 0, x4), (5, 0, x5)] [] S (f_X12_kept_b47  x0 x1 x2 x3 x4 x5 S) :=
  jrep_ind (P := fun (r : Int → Int → Int → Int → Int → Int → jSt → Option (Int × jSt)) => ∀ (x0 : Int) (x1 : Int) (x2 : Int) (x3 : Int) (x4 : Int) (x5 : Int) (S : jSt), (0 ≤ (x0)) → (R32 (x1)) → ((x2) = 0 ∨ (x2) = 1) → (R32 (x3)) → (R32 (x4)) → (R32 (x5)) → J G yX12_kept cX12_kept 7 (some .int) d S0 47 [(0, 2, x0), (1, 0, x1), (2, 0, x2), (3, 0, x3), (4, 0, x4), (5, 0, x5)] [] S (r x0 x1 x2 x3 x4 x5 S)) (by intros; exact j_none) (fun r k => p_f_X12_kept_b47B hd0 k) jN
def f_X12_kept_b20B (r20 : Int → Int → Int → Int → Int → jSt → Option (Int × jSt)) (x0 : Int) (x1 : Int) (x2 : Int) (x3 : Int) (x4 : Int) (S : jSt) : Option (Int × jSt) :=
  if 5 < x4 then f_X12_kept_b47 x0 x1 x2 x3 0 1 S else fcallv S x0 12 (f_X12_lotsAt x0 x4 S) (fun v19 S20 => flet (ior32 x3 v19) (fun v21 => flet (w32 (x4 + 1)) (fun v22 => r20 x0 x1 x2 v21 v22 S20)))
theorem p_f_X12_kept_b20B {G : jG} {d : Nat} {S0 : jSt} (hd0 : 5 ≤ d) {r20 : Int → Int → Int → Int → Int → jSt → Option (Int × jSt)} (k20 : ∀ (x0 : Int) (x1 : Int) (x2 : Int) (x3 : Int) (x4 : Int) (S : jSt), (0 ≤ (x0)) → (R32 (x1)) → ((x2) = 0 ∨ (x2) = 1) → (R32 (x3)) → (R32 (x4)) → J G yX12_kept cX12_kept 7 (some .int) d S0 20 [(0, 2, x0), (1, 0, x1), (2, 0, x2), (3, 0, x3), (4, 0, x4)] [] S (r20 x0 x1 x2 x3 x4 S)) : ∀ (x0 : Int) (x1 : Int) (x2 : Int) (x3 : Int) (x4 : Int) (S : jSt), (0 ≤ (x0)) → (R32 (x1)) → ((x2) = 0 ∨ (x2) = 1) → (R32 (x3)) → (R32 (x4)) → J G yX12_kept cX12_kept 7 (some .int) d S0 20 [(0, 2, x0), (1, 0, x1), (2, 0, x2), (3, 0, x3), (4, 0, x4)] [] S (f_X12_kept_b20B r20 x0 x1 x2 x3 x4 S) := by
  intro x0 x1 x2 x3 x4 S h0 h1 h2 h3 h4
  unfold f_X12_kept_b20B
  refine j_iload 4 dX12_kept_20 rfl ?_
  refine j_iconst dX12_kept_22 ?_
  refine j_icmp_gt (tgt := 41) h4 (j_r32 5 rfl) dX12_kept_23 rfl (fun _ => ?_) (fun _ => ?_)
  · refine j_iconst dX12_kept_41 ?_
    refine j_istore (lv' := [(4, 0, 0), (0, 2, x0), (1, 0, x1), (2, 0, x2), (3, 0, x3)]) dX12_kept_42 (Nat.le_of_ble_eq_true rfl) rfl ?_
    refine j_iconst dX12_kept_44 ?_
    refine j_istore (lv' := [(5, 0, 1), (4, 0, 0), (0, 2, x0), (1, 0, x1), (2, 0, x2), (3, 0, x3)]) dX12_kept_45 (Nat.le_of_ble_eq_true rfl) rfl ?_
    refine j_sub [2, 3, 4, 5, 1, 0] rfl ?_
    exact p_f_X12_kept_b47 hd0 x0 x1 x2 x3 0 1 S h0 h1 h2 h3 (jZ_R jz0) (jZ_R jz1)
  · refine j_iload_n 3 dX12_kept_26 rfl rfl ?_
    refine j_aload_n 0 dX12_kept_27 rfl rfl ?_
    refine j_iload 4 dX12_kept_28 rfl ?_
    refine j_callV (ci := 12) (As := [(0, x4)]) (st := [(0, x3)]) kc_X12_lotsAt (c_X12_lotsAt x0 x4 S h0 h4) rfl lm_X12_406 ki_X12_lotsAt ke_X12_lotsAt rfl (Nat.le_of_ble_eq_true rfl) (Nat.le_trans (m := 5) (Nat.le_of_ble_eq_true rfl) hd0) dX12_kept_30 (fun (v19 : Int) (S20 : jSt) (hv19 : R32 (v19)) => ?_)
    refine j_ior dX12_kept_33 ?_
    refine j_leti (ior32_R _ _) (fun v21 hv21 => ?_)
    refine j_istore_n (lv' := [(3, 0, v21), (0, 2, x0), (1, 0, x1), (2, 0, x2), (4, 0, x4)]) dX12_kept_34 rfl (Nat.le_of_ble_eq_true rfl) rfl ?_
    refine j_iincL (q := 4) dX12_kept_35 rfl (Nat.le_of_ble_eq_true rfl) (fun v22 hv22 => ?_)
    refine j_lv (lv' := [(4, 0, v22), (3, 0, v21), (0, 2, x0), (1, 0, x1), (2, 0, x2)]) rfl ?_
    refine j_goto (tgt := 20) dX12_kept_38 rfl ?_
    refine j_sub [2, 3, 4, 1, 0] rfl ?_
    exact k20 x0 x1 x2 v21 v22 S20 h0 h1 h2 hv21 hv22
def f_X12_kept_b20 : Int → Int → Int → Int → Int → jSt → Option (Int × jSt) := jrep (β := Int → Int → Int → Int → Int → jSt → Option (Int × jSt)) (fun _ _ _ _ _ _ => none) (fun r => f_X12_kept_b20B r) jN
theorem p_f_X12_kept_b20 {G : jG} {d : Nat} {S0 : jSt} (hd0 : 5 ≤ d) : ∀ (x0 : Int) (x1 : Int) (x2 : Int) (x3 : Int) (x4 : Int) (S : jSt), (0 ≤ (x0)) → (R32 (x1)) → ((x2) = 0 ∨ (x2) = 1) → (R32 (x3)) → (R32 (x4)) → J G yX12_kept cX12_kept 7 (some .int) d S0 20 [(0, 2, x0), (1, 0, x1), (2, 0, x2), (3, 0, x3), (4, 0, x4)] [] S (f_X12_kept_b20  x0 x1 x2 x3 x4 S) :=
  jrep_ind (P := fun (r : Int → Int → Int → Int → Int → jSt → Option (Int × jSt)) => ∀ (x0 : Int) (x1 : Int) (x2 : Int) (x3 : Int) (x4 : Int) (S : jSt), (0 ≤ (x0)) → (R32 (x1)) → ((x2) = 0 ∨ (x2) = 1) → (R32 (x3)) → (R32 (x4)) → J G yX12_kept cX12_kept 7 (some .int) d S0 20 [(0, 2, x0), (1, 0, x1), (2, 0, x2), (3, 0, x3), (4, 0, x4)] [] S (r x0 x1 x2 x3 x4 S)) (by intros; exact j_none) (fun r k => p_f_X12_kept_b20B hd0 k) jN
def f_X12_kept (a0 : Int) (a1 : Int) (a2 : Int) (S : jSt) : Option (Int × jSt) :=
  fcall (f_X12_isIn a1 1 12 S) (fun v1 S2 => if v1 = 0 then some ((-1), S2) else fcallv S2 a0 12 (f_X12_saleFloor a0 S2) (fun v3 S4 => f_X12_kept_b20 a0 a1 a2 0 v3 S4))
theorem e_X12_kept {G : jG} {d : Nat} {S0 : jSt} (hd0 : 5 ≤ d) (a0 : Int) (a1 : Int) (a2 : Int) (S : jSt) (h0 : 0 ≤ (a0)) (h1 : R32 (a1)) (h2 : (a2) = 0 ∨ (a2) = 1) : J G yX12_kept cX12_kept 7 (some .int) d S0 0 [(0, 2, a0), (1, 0, a1), (2, 0, a2)] [] S (f_X12_kept a0 a1 a2 S) := by
  unfold f_X12_kept
  refine j_iload_n 1 dX12_kept_0 rfl rfl ?_
  refine j_iconst dX12_kept_1 ?_
  refine j_bipush dX12_kept_2 (by decide) ?_
  refine j_callS (As := [(0, a1), (0, 1), (0, 12)]) (st := []) kc_X12_isIn (c_X12_isIn a1 1 12 S h1 (jZ_R jz1) (j_r32 12 rfl)) lm_X12_60 ks_X12_isIn rfl (Nat.le_of_ble_eq_true rfl) (Nat.le_trans (m := 5) (Nat.le_of_ble_eq_true rfl) hd0) dX12_kept_4 (fun (v1 : Int) (S2 : jSt) (hv1 : (v1) = 0 ∨ (v1) = 1) => ?_)
  refine j_if_ne (tgt := 12) (jZ_R hv1) dX12_kept_7 rfl (fun _ => ?_) (fun _ => ?_)
  · refine j_iconst dX12_kept_12 ?_
    refine j_istore_n (lv' := [(3, 0, 0), (0, 2, a0), (1, 0, a1), (2, 0, a2)]) dX12_kept_13 rfl (Nat.le_of_ble_eq_true rfl) rfl ?_
    refine j_aload_n 1 dX12_kept_14 rfl rfl ?_
    refine j_callV (ci := 12) (As := []) (st := []) kc_X12_saleFloor (c_X12_saleFloor a0 S2 h0) rfl lm_X12_349 ki_X12_saleFloor ke_X12_saleFloor rfl (Nat.le_of_ble_eq_true rfl) (Nat.le_trans (m := 5) (Nat.le_of_ble_eq_true rfl) hd0) dX12_kept_15 (fun (v3 : Int) (S4 : jSt) (hv3 : R32 (v3)) => ?_)
    refine j_istore (lv' := [(4, 0, v3), (3, 0, 0), (0, 2, a0), (1, 0, a1), (2, 0, a2)]) dX12_kept_18 (Nat.le_of_ble_eq_true rfl) rfl ?_
    refine j_sub [2, 3, 4, 1, 0] rfl ?_
    exact p_f_X12_kept_b20 hd0 a0 a1 a2 0 v3 S4 h0 h1 h2 (jZ_R jz0) hv3
  · refine j_iconst dX12_kept_10 ?_
    exact j_ireturn (j_r32 (-1) rfl) dX12_kept_11
theorem c_X12_kept {G : jG} (a0 : Int) (a1 : Int) (a2 : Int) (S : jSt) (h0 : 0 ≤ (a0)) (h1 : R32 (a1)) (h2 : (a2) = 0 ∨ (a2) = 1) : CT G yX12_kept cX12_kept 7 (some .int) 5 ([(2, a0), (0, a1), (0, a2)].map jval) S (f_X12_kept a0 a1 a2 S) := ct_of [(2, a0), (0, a1), (0, a2)] (by decide) rfl (Nat.le_of_ble_eq_true rfl) (e_X12_kept (Nat.le_refl _) a0 a1 a2 S h0 h1 h2)
-- X12_layTurn
def f_X12_layTurn_b35 (r4 : Int → Int → Int → Int → jSt → Option (Int × jSt)) (x0 : Int) (x1 : Int) (x2 : Int) (x3 : Int) (S : jSt) : Option (Int × jSt) :=
  flet (w32 (x3 + 1)) (fun v8 => r4 x0 x1 x2 v8 S)
theorem p_f_X12_layTurn_b35 {G : jG} {d : Nat} {S0 : jSt} (hd0 : 2 ≤ d) {r4 : Int → Int → Int → Int → jSt → Option (Int × jSt)} (k4 : ∀ (x0 : Int) (x1 : Int) (x2 : Int) (x3 : Int) (S : jSt), (0 ≤ (x0)) → (R32 (x1)) → (R32 (x2)) → (R32 (x3)) → J G yX12_layTurn cX12_layTurn 4 (some .int) d S0 4 [(0, 2, x0), (1, 0, x1), (2, 0, x2), (3, 0, x3)] [] S (r4 x0 x1 x2 x3 S)) : ∀ (x0 : Int) (x1 : Int) (x2 : Int) (x3 : Int) (S : jSt), (0 ≤ (x0)) → (R32 (x1)) → (R32 (x2)) → (R32 (x3)) → J G yX12_layTurn cX12_layTurn 4 (some .int) d S0 35 [(0, 2, x0), (1, 0, x1), (2, 0, x2), (3, 0, x3)] [] S (f_X12_layTurn_b35 r4 x0 x1 x2 x3 S) := by
  intro x0 x1 x2 x3 S h0 h1 h2 h3
  unfold f_X12_layTurn_b35
  refine j_iincL (q := 3) dX12_layTurn_35 rfl (Nat.le_of_ble_eq_true rfl) (fun v8 hv8 => ?_)
  refine j_lv (lv' := [(3, 0, v8), (0, 2, x0), (1, 0, x1), (2, 0, x2)]) rfl ?_
  refine j_goto (tgt := 4) dX12_layTurn_38 rfl ?_
  refine j_sub [1, 2, 3, 0] rfl ?_
  exact k4 x0 x1 x2 v8 S h0 h1 h2 hv8
def f_X12_layTurn_b4B (r4 : Int → Int → Int → Int → jSt → Option (Int × jSt)) (x0 : Int) (x1 : Int) (x2 : Int) (x3 : Int) (S : jSt) : Option (Int × jSt) :=
  fgetr S x0 12 0 (fun v1 => fald S v1 0 1 (fun v2 => if v2 ≤ x3 then some (x2, S) else fcall (f_X12_has x1 x3 S) (fun v3 S4 => if v3 = 0 then f_X12_layTurn_b35 r4 x0 x1 x2 x3 S4 else fgetr S4 x0 12 26 (fun v5 => fast S4 v5 x2 1 x3 (fun S6 => flet (w32 (x2 + 1)) (fun v7 => f_X12_layTurn_b35 r4 x0 x1 v7 x3 S6))))))
theorem p_f_X12_layTurn_b4B {G : jG} {d : Nat} {S0 : jSt} (hd0 : 2 ≤ d) {r4 : Int → Int → Int → Int → jSt → Option (Int × jSt)} (k4 : ∀ (x0 : Int) (x1 : Int) (x2 : Int) (x3 : Int) (S : jSt), (0 ≤ (x0)) → (R32 (x1)) → (R32 (x2)) → (R32 (x3)) → J G yX12_layTurn cX12_layTurn 4 (some .int) d S0 4 [(0, 2, x0), (1, 0, x1), (2, 0, x2), (3, 0, x3)] [] S (r4 x0 x1 x2 x3 S)) : ∀ (x0 : Int) (x1 : Int) (x2 : Int) (x3 : Int) (S : jSt), (0 ≤ (x0)) → (R32 (x1)) → (R32 (x2)) → (R32 (x3)) → J G yX12_layTurn cX12_layTurn 4 (some .int) d S0 4 [(0, 2, x0), (1, 0, x1), (2, 0, x2), (3, 0, x3)] [] S (f_X12_layTurn_b4B r4 x0 x1 x2 x3 S) := by
  intro x0 x1 x2 x3 S h0 h1 h2 h3
  unfold f_X12_layTurn_b4B
  refine j_iload_n 3 dX12_layTurn_4 rfl rfl ?_
  refine j_aload_n 0 dX12_layTurn_5 rfl rfl ?_
  refine j_getr (ci := 12) (k := 0) rfl in_X12 (Nat.le_of_ble_eq_true rfl) rfl rfl fl_X12_7 dX12_layTurn_6 (fun (v1 : Int) (hv1 : 0 ≤ v1) => ?_)
  refine j_iconst dX12_layTurn_9 ?_
  refine j_iaload (jZ_R jz0) dX12_layTurn_10 (fun (v2 : Int) (hv2 : R32 (v2)) => ?_)
  refine j_icmp_ge (tgt := 41) h3 hv2 dX12_layTurn_11 rfl (fun _ => ?_) (fun _ => ?_)
  · refine j_iload_n 2 dX12_layTurn_41 rfl rfl ?_
    exact j_ireturn h2 dX12_layTurn_42
  · refine j_iload_n 1 dX12_layTurn_14 rfl rfl ?_
    refine j_iload_n 3 dX12_layTurn_15 rfl rfl ?_
    refine j_callS (As := [(0, x1), (0, x3)]) (st := []) kc_X12_has (c_X12_has x1 x3 S h1 h3) lm_X12_249 ks_X12_has rfl (Nat.le_of_ble_eq_true rfl) (Nat.le_trans (m := 2) (Nat.le_of_ble_eq_true rfl) hd0) dX12_layTurn_16 (fun (v3 : Int) (S4 : jSt) (hv3 : (v3) = 0 ∨ (v3) = 1) => ?_)
    refine j_if_ne (tgt := 25) (jZ_R hv3) dX12_layTurn_19 rfl (fun _ => ?_) (fun _ => ?_)
    · refine j_aload_n 0 dX12_layTurn_25 rfl rfl ?_
      refine j_getr (ci := 12) (k := 26) rfl in_X12 (Nat.le_of_ble_eq_true rfl) rfl rfl fl_X12_50 dX12_layTurn_26 (fun (v5 : Int) (hv5 : 0 ≤ v5) => ?_)
      refine j_iload_n 2 dX12_layTurn_29 rfl rfl ?_
      refine j_iload_n 3 dX12_layTurn_30 rfl rfl ?_
      refine j_iastore h2 h3 dX12_layTurn_31 (fun S6 => ?_)
      refine j_iincL (q := 2) dX12_layTurn_32 rfl (Nat.le_of_ble_eq_true rfl) (fun v7 hv7 => ?_)
      refine j_lv (lv' := [(2, 0, v7), (0, 2, x0), (1, 0, x1), (3, 0, x3)]) rfl ?_
      refine j_sub [1, 2, 0, 3] rfl ?_
      exact p_f_X12_layTurn_b35 hd0 k4 x0 x1 v7 x3 S6 h0 h1 hv7 h3
    · refine j_goto (tgt := 35) dX12_layTurn_22 rfl ?_
      exact p_f_X12_layTurn_b35 hd0 k4 x0 x1 x2 x3 S4 h0 h1 h2 h3
def f_X12_layTurn_b4 : Int → Int → Int → Int → jSt → Option (Int × jSt) := jrep (β := Int → Int → Int → Int → jSt → Option (Int × jSt)) (fun _ _ _ _ _ => none) (fun r => f_X12_layTurn_b4B r) jN
theorem p_f_X12_layTurn_b4 {G : jG} {d : Nat} {S0 : jSt} (hd0 : 2 ≤ d) : ∀ (x0 : Int) (x1 : Int) (x2 : Int) (x3 : Int) (S : jSt), (0 ≤ (x0)) → (R32 (x1)) → (R32 (x2)) → (R32 (x3)) → J G yX12_layTurn cX12_layTurn 4 (some .int) d S0 4 [(0, 2, x0), (1, 0, x1), (2, 0, x2), (3, 0, x3)] [] S (f_X12_layTurn_b4  x0 x1 x2 x3 S) :=
  jrep_ind (P := fun (r : Int → Int → Int → Int → jSt → Option (Int × jSt)) => ∀ (x0 : Int) (x1 : Int) (x2 : Int) (x3 : Int) (S : jSt), (0 ≤ (x0)) → (R32 (x1)) → (R32 (x2)) → (R32 (x3)) → J G yX12_layTurn cX12_layTurn 4 (some .int) d S0 4 [(0, 2, x0), (1, 0, x1), (2, 0, x2), (3, 0, x3)] [] S (r x0 x1 x2 x3 S)) (by intros; exact j_none) (fun r k => p_f_X12_layTurn_b4B hd0 k) jN
def f_X12_layTurn (a0 : Int) (a1 : Int) (S : jSt) : Option (Int × jSt) :=
  f_X12_layTurn_b4 a0 a1 0 0 S
theorem e_X12_layTurn {G : jG} {d : Nat} {S0 : jSt} (hd0 : 2 ≤ d) (a0 : Int) (a1 : Int) (S : jSt) (h0 : 0 ≤ (a0)) (h1 : R32 (a1)) : J G yX12_layTurn cX12_layTurn 4 (some .int) d S0 0 [(0, 2, a0), (1, 0, a1)] [] S (f_X12_layTurn a0 a1 S) := by
  unfold f_X12_layTurn
  refine j_iconst dX12_layTurn_0 ?_
  refine j_istore_n (lv' := [(2, 0, 0), (0, 2, a0), (1, 0, a1)]) dX12_layTurn_1 rfl (Nat.le_of_ble_eq_true rfl) rfl ?_
  refine j_iconst dX12_layTurn_2 ?_
  refine j_istore_n (lv' := [(3, 0, 0), (2, 0, 0), (0, 2, a0), (1, 0, a1)]) dX12_layTurn_3 rfl (Nat.le_of_ble_eq_true rfl) rfl ?_
  refine j_sub [2, 3, 1, 0] rfl ?_
  exact p_f_X12_layTurn_b4 hd0 a0 a1 0 0 S h0 h1 (jZ_R jz0) (jZ_R jz0)
theorem c_X12_layTurn {G : jG} (a0 : Int) (a1 : Int) (S : jSt) (h0 : 0 ≤ (a0)) (h1 : R32 (a1)) : CT G yX12_layTurn cX12_layTurn 4 (some .int) 2 ([(2, a0), (0, a1)].map jval) S (f_X12_layTurn a0 a1 S) := ct_of [(2, a0), (0, a1)] (by decide) rfl (Nat.le_of_ble_eq_true rfl) (e_X12_layTurn (Nat.le_refl _) a0 a1 S h0 h1)
-- X12_tens
def f_X12_tens_b4B (r4 : Int → Int → Int → jSt → Option (Int × jSt)) (x0 : Int) (x1 : Int) (x2 : Int) (S : jSt) : Option (Int × jSt) :=
  if x0 ≤ x2 then some (x1, S) else flet (w64 (x1 * 10)) (fun v1 => flet (w32 (x2 + 1)) (fun v2 => r4 x0 v1 v2 S))
theorem p_f_X12_tens_b4B {G : jG} {d : Nat} {S0 : jSt} (hd0 : 1 ≤ d) {r4 : Int → Int → Int → jSt → Option (Int × jSt)} (k4 : ∀ (x0 : Int) (x1 : Int) (x2 : Int) (S : jSt), (R32 (x0)) → (R64 (x1)) → (R32 (x2)) → J G yX12_tens cX12_tens 4 (some .long) d S0 4 [(0, 0, x0), (1, 1, x1), (3, 0, x2)] [] S (r4 x0 x1 x2 S)) : ∀ (x0 : Int) (x1 : Int) (x2 : Int) (S : jSt), (R32 (x0)) → (R64 (x1)) → (R32 (x2)) → J G yX12_tens cX12_tens 4 (some .long) d S0 4 [(0, 0, x0), (1, 1, x1), (3, 0, x2)] [] S (f_X12_tens_b4B r4 x0 x1 x2 S) := by
  intro x0 x1 x2 S h0 h1 h2
  unfold f_X12_tens_b4B
  refine j_iload_n 2 dX12_tens_4 rfl rfl ?_
  refine j_iload_n 0 dX12_tens_5 rfl rfl ?_
  refine j_icmp_ge (tgt := 21) h2 h0 dX12_tens_6 rfl (fun _ => ?_) (fun _ => ?_)
  · refine j_lload_n 1 dX12_tens_21 rfl rfl ?_
    exact j_lreturn h1 dX12_tens_22
  · refine j_lload_n 1 dX12_tens_9 rfl rfl ?_
    refine j_ldc2 cn_X12_454 dX12_tens_10 ?_
    refine j_lmul dX12_tens_13 ?_
    refine j_letl (w64_R _) (fun v1 hv1 => ?_)
    refine j_lstore_n (lv' := [(1, 1, v1), (0, 0, x0), (3, 0, x2)]) dX12_tens_14 rfl (Nat.le_of_ble_eq_true rfl) rfl ?_
    refine j_iincL (q := 2) dX12_tens_15 rfl (Nat.le_of_ble_eq_true rfl) (fun v2 hv2 => ?_)
    refine j_lv (lv' := [(3, 0, v2), (1, 1, v1), (0, 0, x0)]) rfl ?_
    refine j_goto (tgt := 4) dX12_tens_18 rfl ?_
    refine j_sub [2, 1, 0] rfl ?_
    exact k4 x0 v1 v2 S h0 hv1 hv2
def f_X12_tens_b4 : Int → Int → Int → jSt → Option (Int × jSt) := jrep (β := Int → Int → Int → jSt → Option (Int × jSt)) (fun _ _ _ _ => none) (fun r => f_X12_tens_b4B r) jN
theorem p_f_X12_tens_b4 {G : jG} {d : Nat} {S0 : jSt} (hd0 : 1 ≤ d) : ∀ (x0 : Int) (x1 : Int) (x2 : Int) (S : jSt), (R32 (x0)) → (R64 (x1)) → (R32 (x2)) → J G yX12_tens cX12_tens 4 (some .long) d S0 4 [(0, 0, x0), (1, 1, x1), (3, 0, x2)] [] S (f_X12_tens_b4  x0 x1 x2 S) :=
  jrep_ind (P := fun (r : Int → Int → Int → jSt → Option (Int × jSt)) => ∀ (x0 : Int) (x1 : Int) (x2 : Int) (S : jSt), (R32 (x0)) → (R64 (x1)) → (R32 (x2)) → J G yX12_tens cX12_tens 4 (some .long) d S0 4 [(0, 0, x0), (1, 1, x1), (3, 0, x2)] [] S (r x0 x1 x2 S)) (by intros; exact j_none) (fun r k => p_f_X12_tens_b4B hd0 k) jN
def f_X12_tens (a0 : Int) (S : jSt) : Option (Int × jSt) :=
  f_X12_tens_b4 a0 1 0 S
theorem e_X12_tens {G : jG} {d : Nat} {S0 : jSt} (hd0 : 1 ≤ d) (a0 : Int) (S : jSt) (h0 : R32 (a0)) : J G yX12_tens cX12_tens 4 (some .long) d S0 0 [(0, 0, a0)] [] S (f_X12_tens a0 S) := by
  unfold f_X12_tens
  refine j_lconst (z := 1) dX12_tens_0 rfl ?_
  refine j_lstore_n (lv' := [(1, 1, 1), (0, 0, a0)]) dX12_tens_1 rfl (Nat.le_of_ble_eq_true rfl) rfl ?_
  refine j_iconst dX12_tens_2 ?_
  refine j_istore_n (lv' := [(3, 0, 0), (1, 1, 1), (0, 0, a0)]) dX12_tens_3 rfl (Nat.le_of_ble_eq_true rfl) rfl ?_
  refine j_sub [2, 1, 0] rfl ?_
  exact p_f_X12_tens_b4 hd0 a0 1 0 S h0 (j_r64 1 rfl) (jZ_R jz0)
theorem c_X12_tens {G : jG} (a0 : Int) (S : jSt) (h0 : R32 (a0)) : CT G yX12_tens cX12_tens 4 (some .long) 1 ([(0, a0)].map jval) S (f_X12_tens a0 S) := ct_of [(0, a0)] (by decide) rfl (Nat.le_of_ble_eq_true rfl) (e_X12_tens (Nat.le_refl _) a0 S h0)
-- X12_meanOf
def f_X12_meanOf_b66 (r5 : Int → Int → Int → Int → jSt → Option (Int × jSt)) (r17 : Int → Int → Int → Int → Int → Int → jSt → Option (Int × jSt)) (x0 : Int) (x1 : Int) (x2 : Int) (x3 : Int) (x4 : Int) (x5 : Int) (x6 : Int) (x7 : Int) (S : jSt) : Option (Int × jSt) :=
  flet (w64 (x5 + (w64 (x6 * x7)))) (fun v7 => flet (w32 (x4 + 1)) (fun v8 => r17 x0 x1 x2 x3 v7 v8 S))
theorem p_f_X12_meanOf_b66 {G : jG} {d : Nat} {S0 : jSt} (hd0 : 2 ≤ d) {r5 : Int → Int → Int → Int → jSt → Option (Int × jSt)} (k5 : ∀ (x0 : Int) (x1 : Int) (x2 : Int) (x3 : Int) (S : jSt), (0 ≤ (x0)) → (R32 (x1)) → (R64 (x2)) → (R32 (x3)) → J G yX12_meanOf cX12_meanOf 10 (some .long) d S0 5 [(0, 2, x0), (1, 0, x1), (2, 1, x2), (4, 0, x3)] [] S (r5 x0 x1 x2 x3 S)) {r17 : Int → Int → Int → Int → Int → Int → jSt → Option (Int × jSt)} (k17 : ∀ (x0 : Int) (x1 : Int) (x2 : Int) (x3 : Int) (x4 : Int) (x5 : Int) (S : jSt), (0 ≤ (x0)) → (R32 (x1)) → (R64 (x2)) → (R32 (x3)) → (R64 (x4)) → (R32 (x5)) → J G yX12_meanOf cX12_meanOf 10 (some .long) d S0 17 [(0, 2, x0), (1, 0, x1), (2, 1, x2), (4, 0, x3), (5, 1, x4), (7, 0, x5)] [] S (r17 x0 x1 x2 x3 x4 x5 S)) : ∀ (x0 : Int) (x1 : Int) (x2 : Int) (x3 : Int) (x4 : Int) (x5 : Int) (x6 : Int) (x7 : Int) (S : jSt), (0 ≤ (x0)) → (R32 (x1)) → (R64 (x2)) → (R32 (x3)) → (R32 (x4)) → (R64 (x5)) → (R64 (x6)) → (R64 (x7)) → J G yX12_meanOf cX12_meanOf 10 (some .long) d S0 66 [(0, 2, x0), (1, 0, x1), (2, 1, x2), (4, 0, x3), (7, 0, x4)] [(1, x7), (1, x6), (1, x5)] S (f_X12_meanOf_b66 r5 r17 x0 x1 x2 x3 x4 x5 x6 x7 S) := by
  intro x0 x1 x2 x3 x4 x5 x6 x7 S h0 h1 h2 h3 h4 h5 h6 h7
  unfold f_X12_meanOf_b66
  refine j_lmul dX12_meanOf_66 ?_
  refine j_ladd dX12_meanOf_67 ?_
  refine j_letl (w64_R _) (fun v7 hv7 => ?_)
  refine j_lstore (lv' := [(5, 1, v7), (0, 2, x0), (1, 0, x1), (2, 1, x2), (4, 0, x3), (7, 0, x4)]) dX12_meanOf_68 (Nat.le_of_ble_eq_true rfl) rfl ?_
  refine j_iincL (q := 5) dX12_meanOf_70 rfl (Nat.le_of_ble_eq_true rfl) (fun v8 hv8 => ?_)
  refine j_lv (lv' := [(7, 0, v8), (5, 1, v7), (0, 2, x0), (1, 0, x1), (2, 1, x2), (4, 0, x3)]) rfl ?_
  refine j_goto (tgt := 17) dX12_meanOf_73 rfl ?_
  refine j_sub [2, 3, 4, 5, 1, 0] rfl ?_
  exact k17 x0 x1 x2 x3 v7 v8 S h0 h1 h2 h3 hv7 hv8
def f_X12_meanOf_b17B (r5 : Int → Int → Int → Int → jSt → Option (Int × jSt)) (r17 : Int → Int → Int → Int → Int → Int → jSt → Option (Int × jSt)) (x0 : Int) (x1 : Int) (x2 : Int) (x3 : Int) (x4 : Int) (x5 : Int) (S : jSt) : Option (Int × jSt) :=
  if 6 ≤ x5 then flet (w32 (x3 + 1)) (fun v1 => r5 x0 x1 x4 v1 S) else fcall (f_X12_tens x3 S) (fun v2 S3 => flet (w64 ((w64 (10 * x5)) * v2)) (fun v4 => fgetr S3 x0 12 0 (fun v5 => fald S3 v5 (w32 (147 + x5)) 1 (fun v6 => if v4 ≤ x2 then f_X12_meanOf_b66 r5 r17 x0 x1 x2 x3 x5 x4 v6 x2 S3 else f_X12_meanOf_b66 r5 r17 x0 x1 x2 x3 x5 x4 v6 v4 S3))))
theorem p_f_X12_meanOf_b17B {G : jG} {d : Nat} {S0 : jSt} (hd0 : 2 ≤ d) {r5 : Int → Int → Int → Int → jSt → Option (Int × jSt)} (k5 : ∀ (x0 : Int) (x1 : Int) (x2 : Int) (x3 : Int) (S : jSt), (0 ≤ (x0)) → (R32 (x1)) → (R64 (x2)) → (R32 (x3)) → J G yX12_meanOf cX12_meanOf 10 (some .long) d S0 5 [(0, 2, x0), (1, 0, x1), (2, 1, x2), (4, 0, x3)] [] S (r5 x0 x1 x2 x3 S)) {r17 : Int → Int → Int → Int → Int → Int → jSt → Option (Int × jSt)} (k17 : ∀ (x0 : Int) (x1 : Int) (x2 : Int) (x3 : Int) (x4 : Int) (x5 : Int) (S : jSt), (0 ≤ (x0)) → (R32 (x1)) → (R64 (x2)) → (R32 (x3)) → (R64 (x4)) → (R32 (x5)) → J G yX12_meanOf cX12_meanOf 10 (some .long) d S0 17 [(0, 2, x0), (1, 0, x1), (2, 1, x2), (4, 0, x3), (5, 1, x4), (7, 0, x5)] [] S (r17 x0 x1 x2 x3 x4 x5 S)) : ∀ (x0 : Int) (x1 : Int) (x2 : Int) (x3 : Int) (x4 : Int) (x5 : Int) (S : jSt), (0 ≤ (x0)) → (R32 (x1)) → (R64 (x2)) → (R32 (x3)) → (R64 (x4)) → (R32 (x5)) → J G yX12_meanOf cX12_meanOf 10 (some .long) d S0 17 [(0, 2, x0), (1, 0, x1), (2, 1, x2), (4, 0, x3), (5, 1, x4), (7, 0, x5)] [] S (f_X12_meanOf_b17B r5 r17 x0 x1 x2 x3 x4 x5 S) := by
  intro x0 x1 x2 x3 x4 x5 S h0 h1 h2 h3 h4 h5
  unfold f_X12_meanOf_b17B
  refine j_iload 5 dX12_meanOf_17 rfl ?_
  refine j_bipush dX12_meanOf_19 (by decide) ?_
  refine j_icmp_ge (tgt := 76) h5 (j_r32 6 rfl) dX12_meanOf_21 rfl (fun _ => ?_) (fun _ => ?_)
  · refine j_lload 4 dX12_meanOf_76 rfl ?_
    refine j_lstore_n (lv' := [(2, 1, x4), (0, 2, x0), (1, 0, x1), (4, 0, x3), (5, 1, x4), (7, 0, x5)]) dX12_meanOf_78 rfl (Nat.le_of_ble_eq_true rfl) rfl ?_
    refine j_iincL (q := 3) dX12_meanOf_79 rfl (Nat.le_of_ble_eq_true rfl) (fun v1 hv1 => ?_)
    refine j_lv (lv' := [(4, 0, v1), (2, 1, x4), (0, 2, x0), (1, 0, x1), (5, 1, x4), (7, 0, x5)]) rfl ?_
    refine j_goto (tgt := 5) dX12_meanOf_82 rfl ?_
    refine j_sub [2, 3, 1, 0] rfl ?_
    exact k5 x0 x1 x4 v1 S h0 h1 h4 hv1
  · refine j_ldc2 cn_X12_454 dX12_meanOf_24 ?_
    refine j_iload 5 dX12_meanOf_27 rfl ?_
    refine j_i2l h5 dX12_meanOf_29 ?_
    refine j_lmul dX12_meanOf_30 ?_
    refine j_iload 3 dX12_meanOf_31 rfl ?_
    refine j_callS (As := [(0, x3)]) (st := [(1, w64 (10 * x5))]) kc_X12_tens (c_X12_tens x3 S h3) lm_X12_456 ks_X12_tens rfl (Nat.le_of_ble_eq_true rfl) (Nat.le_trans (m := 2) (Nat.le_of_ble_eq_true rfl) hd0) dX12_meanOf_33 (fun (v2 : Int) (S3 : jSt) (hv2 : R64 (v2)) => ?_)
    refine j_lmul dX12_meanOf_36 ?_
    refine j_letl (w64_R _) (fun v4 hv4 => ?_)
    refine j_lstore (lv' := [(8, 1, v4), (0, 2, x0), (1, 0, x1), (2, 1, x2), (4, 0, x3), (5, 1, x4), (7, 0, x5)]) dX12_meanOf_37 (Nat.le_of_ble_eq_true rfl) rfl ?_
    refine j_lload 5 dX12_meanOf_39 rfl ?_
    refine j_aload_n 1 dX12_meanOf_41 rfl rfl ?_
    refine j_getr (ci := 12) (k := 0) rfl in_X12 (Nat.le_of_ble_eq_true rfl) rfl rfl fl_X12_7 dX12_meanOf_42 (fun (v5 : Int) (hv5 : 0 ≤ v5) => ?_)
    refine j_sipush dX12_meanOf_45 (by decide) ?_
    refine j_iload 6 dX12_meanOf_48 rfl ?_
    refine j_iadd dX12_meanOf_50 ?_
    refine j_iaload (w32_R _) dX12_meanOf_51 (fun (v6 : Int) (hv6 : R32 (v6)) => ?_)
    refine j_i2l hv6 dX12_meanOf_52 ?_
    refine j_lload 0 dX12_meanOf_53 rfl ?_
    refine j_lload_n 3 dX12_meanOf_55 rfl rfl ?_
    refine j_lcmp_le (tgt := 65) hv4 h2 dX12_meanOf_56 dX12_meanOf_57 rfl (fun _ => ?_) (fun _ => ?_)
    · refine j_lload_n 3 dX12_meanOf_65 rfl rfl ?_
      refine j_sub [1, 2, 3, 4, 6] rfl ?_
      exact p_f_X12_meanOf_b66 hd0 k5 k17 x0 x1 x2 x3 x5 x4 v6 x2 S3 h0 h1 h2 h3 h5 h4 (R32_R64 hv6) h2
    · refine j_lload 0 dX12_meanOf_60 rfl ?_
      refine j_goto (tgt := 66) dX12_meanOf_62 rfl ?_
      refine j_sub [1, 2, 3, 4, 6] rfl ?_
      exact p_f_X12_meanOf_b66 hd0 k5 k17 x0 x1 x2 x3 x5 x4 v6 v4 S3 h0 h1 h2 h3 h5 h4 (R32_R64 hv6) hv4
def f_X12_meanOf_b17 (r5 : Int → Int → Int → Int → jSt → Option (Int × jSt)) : Int → Int → Int → Int → Int → Int → jSt → Option (Int × jSt) := jrep (β := Int → Int → Int → Int → Int → Int → jSt → Option (Int × jSt)) (fun _ _ _ _ _ _ _ => none) (fun r => f_X12_meanOf_b17B r5 r) jN
theorem p_f_X12_meanOf_b17 {G : jG} {d : Nat} {S0 : jSt} (hd0 : 2 ≤ d) {r5 : Int → Int → Int → Int → jSt → Option (Int × jSt)} (k5 : ∀ (x0 : Int) (x1 : Int) (x2 : Int) (x3 : Int) (S : jSt), (0 ≤ (x0)) → (R32 (x1)) → (R64 (x2)) → (R32 (x3)) → J G yX12_meanOf cX12_meanOf 10 (some .long) d S0 5 [(0, 2, x0), (1, 0, x1), (2, 1, x2), (4, 0, x3)] [] S (r5 x0 x1 x2 x3 S)) : ∀ (x0 : Int) (x1 : Int) (x2 : Int) (x3 : Int) (x4 : Int) (x5 : Int) (S : jSt), (0 ≤ (x0)) → (R32 (x1)) → (R64 (x2)) → (R32 (x3)) → (R64 (x4)) → (R32 (x5)) → J G yX12_meanOf cX12_meanOf 10 (some .long) d S0 17 [(0, 2, x0), (1, 0, x1), (2, 1, x2), (4, 0, x3), (5, 1, x4), (7, 0, x5)] [] S (f_X12_meanOf_b17 r5 x0 x1 x2 x3 x4 x5 S) :=
  jrep_ind (P := fun (r : Int → Int → Int → Int → Int → Int → jSt → Option (Int × jSt)) => ∀ (x0 : Int) (x1 : Int) (x2 : Int) (x3 : Int) (x4 : Int) (x5 : Int) (S : jSt), (0 ≤ (x0)) → (R32 (x1)) → (R64 (x2)) → (R32 (x3)) → (R64 (x4)) → (R32 (x5)) → J G yX12_meanOf cX12_meanOf 10 (some .long) d S0 17 [(0, 2, x0), (1, 0, x1), (2, 1, x2), (4, 0, x3), (5, 1, x4), (7, 0, x5)] [] S (r x0 x1 x2 x3 x4 x5 S)) (by intros; exact j_none) (fun r k => p_f_X12_meanOf_b17B hd0 k5 k) jN
def f_X12_meanOf_b5B (r5 : Int → Int → Int → Int → jSt → Option (Int × jSt)) (x0 : Int) (x1 : Int) (x2 : Int) (x3 : Int) (S : jSt) : Option (Int × jSt) :=
  if x1 ≤ x3 then some (x2, S) else f_X12_meanOf_b17 r5 x0 x1 x2 x3 0 0 S
theorem p_f_X12_meanOf_b5B {G : jG} {d : Nat} {S0 : jSt} (hd0 : 2 ≤ d) {r5 : Int → Int → Int → Int → jSt → Option (Int × jSt)} (k5 : ∀ (x0 : Int) (x1 : Int) (x2 : Int) (x3 : Int) (S : jSt), (0 ≤ (x0)) → (R32 (x1)) → (R64 (x2)) → (R32 (x3)) → J G yX12_meanOf cX12_meanOf 10 (some .long) d S0 5 [(0, 2, x0), (1, 0, x1), (2, 1, x2), (4, 0, x3)] [] S (r5 x0 x1 x2 x3 S)) : ∀ (x0 : Int) (x1 : Int) (x2 : Int) (x3 : Int) (S : jSt), (0 ≤ (x0)) → (R32 (x1)) → (R64 (x2)) → (R32 (x3)) → J G yX12_meanOf cX12_meanOf 10 (some .long) d S0 5 [(0, 2, x0), (1, 0, x1), (2, 1, x2), (4, 0, x3)] [] S (f_X12_meanOf_b5B r5 x0 x1 x2 x3 S) := by
  intro x0 x1 x2 x3 S h0 h1 h2 h3
  unfold f_X12_meanOf_b5B
  refine j_iload 3 dX12_meanOf_5 rfl ?_
  refine j_iload_n 1 dX12_meanOf_7 rfl rfl ?_
  refine j_icmp_ge (tgt := 85) h3 h1 dX12_meanOf_8 rfl (fun _ => ?_) (fun _ => ?_)
  · refine j_lload_n 2 dX12_meanOf_85 rfl rfl ?_
    exact j_lreturn h2 dX12_meanOf_86
  · refine j_lconst (z := 0) dX12_meanOf_11 rfl ?_
    refine j_lstore (lv' := [(5, 1, 0), (0, 2, x0), (1, 0, x1), (2, 1, x2), (4, 0, x3)]) dX12_meanOf_12 (Nat.le_of_ble_eq_true rfl) rfl ?_
    refine j_iconst dX12_meanOf_14 ?_
    refine j_istore (lv' := [(7, 0, 0), (5, 1, 0), (0, 2, x0), (1, 0, x1), (2, 1, x2), (4, 0, x3)]) dX12_meanOf_15 (Nat.le_of_ble_eq_true rfl) rfl ?_
    refine j_sub [2, 3, 4, 5, 1, 0] rfl ?_
    exact p_f_X12_meanOf_b17 hd0 k5 x0 x1 x2 x3 0 0 S h0 h1 h2 h3 (j_r64 0 rfl) (jZ_R jz0)
def f_X12_meanOf_b5 : Int → Int → Int → Int → jSt → Option (Int × jSt) := jrep (β := Int → Int → Int → Int → jSt → Option (Int × jSt)) (fun _ _ _ _ _ => none) (fun r => f_X12_meanOf_b5B r) jN
theorem p_f_X12_meanOf_b5 {G : jG} {d : Nat} {S0 : jSt} (hd0 : 2 ≤ d) : ∀ (x0 : Int) (x1 : Int) (x2 : Int) (x3 : Int) (S : jSt), (0 ≤ (x0)) → (R32 (x1)) → (R64 (x2)) → (R32 (x3)) → J G yX12_meanOf cX12_meanOf 10 (some .long) d S0 5 [(0, 2, x0), (1, 0, x1), (2, 1, x2), (4, 0, x3)] [] S (f_X12_meanOf_b5  x0 x1 x2 x3 S) :=
  jrep_ind (P := fun (r : Int → Int → Int → Int → jSt → Option (Int × jSt)) => ∀ (x0 : Int) (x1 : Int) (x2 : Int) (x3 : Int) (S : jSt), (0 ≤ (x0)) → (R32 (x1)) → (R64 (x2)) → (R32 (x3)) → J G yX12_meanOf cX12_meanOf 10 (some .long) d S0 5 [(0, 2, x0), (1, 0, x1), (2, 1, x2), (4, 0, x3)] [] S (r x0 x1 x2 x3 S)) (by intros; exact j_none) (fun r k => p_f_X12_meanOf_b5B hd0 k) jN
def f_X12_meanOf (a0 : Int) (a1 : Int) (S : jSt) : Option (Int × jSt) :=
  f_X12_meanOf_b5 a0 a1 0 0 S
theorem e_X12_meanOf {G : jG} {d : Nat} {S0 : jSt} (hd0 : 2 ≤ d) (a0 : Int) (a1 : Int) (S : jSt) (h0 : 0 ≤ (a0)) (h1 : R32 (a1)) : J G yX12_meanOf cX12_meanOf 10 (some .long) d S0 0 [(0, 2, a0), (1, 0, a1)] [] S (f_X12_meanOf a0 a1 S) := by
  unfold f_X12_meanOf
  refine j_lconst (z := 0) dX12_meanOf_0 rfl ?_
  refine j_lstore_n (lv' := [(2, 1, 0), (0, 2, a0), (1, 0, a1)]) dX12_meanOf_1 rfl (Nat.le_of_ble_eq_true rfl) rfl ?_
  refine j_iconst dX12_meanOf_2 ?_
  refine j_istore (lv' := [(4, 0, 0), (2, 1, 0), (0, 2, a0), (1, 0, a1)]) dX12_meanOf_3 (Nat.le_of_ble_eq_true rfl) rfl ?_
  refine j_sub [2, 3, 1, 0] rfl ?_
  exact p_f_X12_meanOf_b5 hd0 a0 a1 0 0 S h0 h1 (j_r64 0 rfl) (jZ_R jz0)
theorem c_X12_meanOf {G : jG} (a0 : Int) (a1 : Int) (S : jSt) (h0 : 0 ≤ (a0)) (h1 : R32 (a1)) : CT G yX12_meanOf cX12_meanOf 10 (some .long) 2 ([(2, a0), (0, a1)].map jval) S (f_X12_meanOf a0 a1 S) := ct_of [(2, a0), (0, a1)] (by decide) rfl (Nat.le_of_ble_eq_true rfl) (e_X12_meanOf (Nat.le_refl _) a0 a1 S h0 h1)
