-- X12_turnStair
def f_X12_turnStair (a0 : Int) (a1 : Int) (a2 : Int) (S : jSt) : Option (Int × jSt) :=
  fgetr S a0 12 0 (fun v1 => fald S v1 (w32 (141 + a1)) 1 (fun v2 => fast S v1 (w32 (141 + a1)) 1 (ixor32 v2 (ishl32 1 a2)) (fun S3 => fgetr S3 a0 12 0 (fun v4 => fald S3 v4 (w32 (141 + a2)) 1 (fun v5 => fast S3 v4 (w32 (141 + a2)) 1 (ixor32 v5 (ishl32 1 a1)) (fun S6 => some (0, S6)))))))
theorem e_X12_turnStair {G : jG} {d : Nat} {S0 : jSt} (hd0 : 1 ≤ d) (a0 : Int) (a1 : Int) (a2 : Int) (S : jSt) (h0 : 0 ≤ (a0)) (h1 : R32 (a1)) (h2 : R32 (a2)) : J G yX12_turnStair cX12_turnStair 3 none d S0 0 [(0, 2, a0), (1, 0, a1), (2, 0, a2)] [] S (f_X12_turnStair a0 a1 a2 S) := by
  unfold f_X12_turnStair
  refine j_aload_n 0 dX12_turnStair_0 rfl rfl ?_
  refine j_getr (ci := 12) (k := 0) rfl in_X12 (Nat.le_of_ble_eq_true rfl) rfl rfl fl_X12_7 dX12_turnStair_1 (fun (v1 : Int) (hv1 : 0 ≤ v1) => ?_)
  refine j_sipush dX12_turnStair_4 (by decide) ?_
  refine j_iload_n 1 dX12_turnStair_7 rfl rfl ?_
  refine j_iadd dX12_turnStair_8 ?_
  refine j_dup2 dX12_turnStair_9 (fun h => nomatch h) (fun h => nomatch h) ?_
  refine j_iaload (w32_R _) dX12_turnStair_10 (fun (v2 : Int) (hv2 : R32 (v2)) => ?_)
  refine j_iconst dX12_turnStair_11 ?_
  refine j_iload_n 2 dX12_turnStair_12 rfl rfl ?_
  refine j_ishl dX12_turnStair_13 ?_
  refine j_ixor dX12_turnStair_14 ?_
  refine j_iastore (w32_R _) (ixor32_R _ _) dX12_turnStair_15 (fun S3 => ?_)
  refine j_aload_n 0 dX12_turnStair_16 rfl rfl ?_
  refine j_getr (ci := 12) (k := 0) rfl in_X12 (Nat.le_of_ble_eq_true rfl) rfl rfl fl_X12_7 dX12_turnStair_17 (fun (v4 : Int) (hv4 : 0 ≤ v4) => ?_)
  refine j_sipush dX12_turnStair_20 (by decide) ?_
  refine j_iload_n 2 dX12_turnStair_23 rfl rfl ?_
  refine j_iadd dX12_turnStair_24 ?_
  refine j_dup2 dX12_turnStair_25 (fun h => nomatch h) (fun h => nomatch h) ?_
  refine j_iaload (w32_R _) dX12_turnStair_26 (fun (v5 : Int) (hv5 : R32 (v5)) => ?_)
  refine j_iconst dX12_turnStair_27 ?_
  refine j_iload_n 1 dX12_turnStair_28 rfl rfl ?_
  refine j_ishl dX12_turnStair_29 ?_
  refine j_ixor dX12_turnStair_30 ?_
  refine j_iastore (w32_R _) (ixor32_R _ _) dX12_turnStair_31 (fun S6 => ?_)
  exact j_return dX12_turnStair_32
theorem c_X12_turnStair {G : jG} (a0 : Int) (a1 : Int) (a2 : Int) (S : jSt) (h0 : 0 ≤ (a0)) (h1 : R32 (a1)) (h2 : R32 (a2)) : CT G yX12_turnStair cX12_turnStair 3 none 1 ([(2, a0), (0, a1), (0, a2)].map jval) S (f_X12_turnStair a0 a1 a2 S) := ct_of [(2, a0), (0, a1), (0, a2)] (by decide) rfl (Nat.le_of_ble_eq_true rfl) (e_X12_turnStair (Nat.le_refl _) a0 a1 a2 S h0 h1 h2)
-- X12_bridges
def f_X12_bridges_b76 (r9 : Int → Int → Int → Int → jSt → Option (Int × jSt)) (r19 : Int → Int → Int → Int → Int → jSt → Option (Int × jSt)) (x0 : Int) (x1 : Int) (x2 : Int) (x3 : Int) (x4 : Int) (S : jSt) : Option (Int × jSt) :=
  flet (w32 (x4 + 1)) (fun v16 => r19 x0 x1 x2 x3 v16 S)
theorem p_f_X12_bridges_b76 {G : jG} {d : Nat} {S0 : jSt} (hd0 : 4 ≤ d) {r9 : Int → Int → Int → Int → jSt → Option (Int × jSt)} (k9 : ∀ (x0 : Int) (x1 : Int) (x2 : Int) (x3 : Int) (S : jSt), (0 ≤ (x0)) → (R32 (x1)) → (R32 (x2)) → (R32 (x3)) → J G yX12_bridges cX12_bridges 5 (some .int) d S0 9 [(0, 2, x0), (1, 0, x1), (2, 0, x2), (3, 0, x3)] [] S (r9 x0 x1 x2 x3 S)) {r19 : Int → Int → Int → Int → Int → jSt → Option (Int × jSt)} (k19 : ∀ (x0 : Int) (x1 : Int) (x2 : Int) (x3 : Int) (x4 : Int) (S : jSt), (0 ≤ (x0)) → (R32 (x1)) → (R32 (x2)) → (R32 (x3)) → (R32 (x4)) → J G yX12_bridges cX12_bridges 5 (some .int) d S0 19 [(0, 2, x0), (1, 0, x1), (2, 0, x2), (3, 0, x3), (4, 0, x4)] [] S (r19 x0 x1 x2 x3 x4 S)) : ∀ (x0 : Int) (x1 : Int) (x2 : Int) (x3 : Int) (x4 : Int) (S : jSt), (0 ≤ (x0)) → (R32 (x1)) → (R32 (x2)) → (R32 (x3)) → (R32 (x4)) → J G yX12_bridges cX12_bridges 5 (some .int) d S0 76 [(0, 2, x0), (1, 0, x1), (2, 0, x2), (3, 0, x3), (4, 0, x4)] [] S (f_X12_bridges_b76 r9 r19 x0 x1 x2 x3 x4 S) := by
  intro x0 x1 x2 x3 x4 S h0 h1 h2 h3 h4
  unfold f_X12_bridges_b76
  refine j_iincL (q := 4) dX12_bridges_76 rfl (Nat.le_of_ble_eq_true rfl) (fun v16 hv16 => ?_)
  refine j_lv (lv' := [(4, 0, v16), (0, 2, x0), (1, 0, x1), (2, 0, x2), (3, 0, x3)]) rfl ?_
  refine j_goto (tgt := 19) dX12_bridges_79 rfl ?_
  refine j_sub [1, 2, 3, 4, 0] rfl ?_
  exact k19 x0 x1 x2 x3 v16 S h0 h1 h2 h3 hv16
def f_X12_bridges_b67 (r9 : Int → Int → Int → Int → jSt → Option (Int × jSt)) (r19 : Int → Int → Int → Int → Int → jSt → Option (Int × jSt)) (x0 : Int) (x1 : Int) (x2 : Int) (x3 : Int) (x4 : Int) (x5 : Int) (S : jSt) : Option (Int × jSt) :=
  flet (w32 (x4 + x5)) (fun v13 => fcallv S x0 12 (f_X12_turnStair x0 x2 x3 S) (fun v14 S15 => f_X12_bridges_b76 r9 r19 x0 x1 v13 x2 x3 S15))
theorem p_f_X12_bridges_b67 {G : jG} {d : Nat} {S0 : jSt} (hd0 : 4 ≤ d) {r9 : Int → Int → Int → Int → jSt → Option (Int × jSt)} (k9 : ∀ (x0 : Int) (x1 : Int) (x2 : Int) (x3 : Int) (S : jSt), (0 ≤ (x0)) → (R32 (x1)) → (R32 (x2)) → (R32 (x3)) → J G yX12_bridges cX12_bridges 5 (some .int) d S0 9 [(0, 2, x0), (1, 0, x1), (2, 0, x2), (3, 0, x3)] [] S (r9 x0 x1 x2 x3 S)) {r19 : Int → Int → Int → Int → Int → jSt → Option (Int × jSt)} (k19 : ∀ (x0 : Int) (x1 : Int) (x2 : Int) (x3 : Int) (x4 : Int) (S : jSt), (0 ≤ (x0)) → (R32 (x1)) → (R32 (x2)) → (R32 (x3)) → (R32 (x4)) → J G yX12_bridges cX12_bridges 5 (some .int) d S0 19 [(0, 2, x0), (1, 0, x1), (2, 0, x2), (3, 0, x3), (4, 0, x4)] [] S (r19 x0 x1 x2 x3 x4 S)) : ∀ (x0 : Int) (x1 : Int) (x2 : Int) (x3 : Int) (x4 : Int) (x5 : Int) (S : jSt), (0 ≤ (x0)) → (R32 (x1)) → (R32 (x2)) → (R32 (x3)) → (R32 (x4)) → ((x5) = 0 ∨ (x5) = 1) → J G yX12_bridges cX12_bridges 5 (some .int) d S0 67 [(0, 2, x0), (1, 0, x1), (3, 0, x2), (4, 0, x3)] [(0, x5), (0, x4)] S (f_X12_bridges_b67 r9 r19 x0 x1 x2 x3 x4 x5 S) := by
  intro x0 x1 x2 x3 x4 x5 S h0 h1 h2 h3 h4 h5
  unfold f_X12_bridges_b67
  refine j_iadd dX12_bridges_67 ?_
  refine j_leti (w32_R _) (fun v13 hv13 => ?_)
  refine j_istore_n (lv' := [(2, 0, v13), (0, 2, x0), (1, 0, x1), (3, 0, x2), (4, 0, x3)]) dX12_bridges_68 rfl (Nat.le_of_ble_eq_true rfl) rfl ?_
  refine j_aload_n 1 dX12_bridges_69 rfl rfl ?_
  refine j_iload_n 3 dX12_bridges_70 rfl rfl ?_
  refine j_iload 4 dX12_bridges_71 rfl ?_
  refine j_callV (ci := 12) (As := [(0, x2), (0, x3)]) (st := []) kc_X12_turnStair (c_X12_turnStair x0 x2 x3 S h0 h2 h3) rfl lm_X12_445 ki_X12_turnStair ke_X12_turnStair rfl (Nat.le_of_ble_eq_true rfl) (Nat.le_trans (m := 4) (Nat.le_of_ble_eq_true rfl) hd0) dX12_bridges_73 (fun v14 S15 _ => ?_)
  refine j_sub [1, 2, 0, 3, 4] rfl ?_
  exact p_f_X12_bridges_b76 hd0 k9 k19 x0 x1 v13 x2 x3 S15 h0 h1 hv13 h2 h3
def f_X12_bridges_b19B (r9 : Int → Int → Int → Int → jSt → Option (Int × jSt)) (r19 : Int → Int → Int → Int → Int → jSt → Option (Int × jSt)) (x0 : Int) (x1 : Int) (x2 : Int) (x3 : Int) (x4 : Int) (S : jSt) : Option (Int × jSt) :=
  if 5 < x4 then flet (w32 (x3 + 1)) (fun v4 => r9 x0 x1 x2 v4 S) else fgetr S x0 12 0 (fun v5 => fald S v5 (w32 (141 + x3)) 1 (fun v6 => fcall (f_X12_has v6 x4 S) (fun v7 S8 => if v7 = 0 then f_X12_bridges_b76 r9 r19 x0 x1 x2 x3 x4 S8 else fcallv S8 x0 12 (f_X12_turnStair x0 x3 x4 S8) (fun v9 S10 => fcallv S10 x0 12 (f_X12_partsNow x0 S10) (fun v11 S12 => if v11 ≤ x1 then f_X12_bridges_b67 r9 r19 x0 x1 x3 x4 x2 0 S12 else f_X12_bridges_b67 r9 r19 x0 x1 x3 x4 x2 1 S12)))))
theorem p_f_X12_bridges_b19B {G : jG} {d : Nat} {S0 : jSt} (hd0 : 4 ≤ d) {r9 : Int → Int → Int → Int → jSt → Option (Int × jSt)} (k9 : ∀ (x0 : Int) (x1 : Int) (x2 : Int) (x3 : Int) (S : jSt), (0 ≤ (x0)) → (R32 (x1)) → (R32 (x2)) → (R32 (x3)) → J G yX12_bridges cX12_bridges 5 (some .int) d S0 9 [(0, 2, x0), (1, 0, x1), (2, 0, x2), (3, 0, x3)] [] S (r9 x0 x1 x2 x3 S)) {r19 : Int → Int → Int → Int → Int → jSt → Option (Int × jSt)} (k19 : ∀ (x0 : Int) (x1 : Int) (x2 : Int) (x3 : Int) (x4 : Int) (S : jSt), (0 ≤ (x0)) → (R32 (x1)) → (R32 (x2)) → (R32 (x3)) → (R32 (x4)) → J G yX12_bridges cX12_bridges 5 (some .int) d S0 19 [(0, 2, x0), (1, 0, x1), (2, 0, x2), (3, 0, x3), (4, 0, x4)] [] S (r19 x0 x1 x2 x3 x4 S)) : ∀ (x0 : Int) (x1 : Int) (x2 : Int) (x3 : Int) (x4 : Int) (S : jSt), (0 ≤ (x0)) → (R32 (x1)) → (R32 (x2)) → (R32 (x3)) → (R32 (x4)) → J G yX12_bridges cX12_bridges 5 (some .int) d S0 19 [(0, 2, x0), (1, 0, x1), (2, 0, x2), (3, 0, x3), (4, 0, x4)] [] S (f_X12_bridges_b19B r9 r19 x0 x1 x2 x3 x4 S) := by
  intro x0 x1 x2 x3 x4 S h0 h1 h2 h3 h4
  unfold f_X12_bridges_b19B
  refine j_iload 4 dX12_bridges_19 rfl ?_
  refine j_iconst dX12_bridges_21 ?_
  refine j_icmp_gt (tgt := 82) h4 (j_r32 5 rfl) dX12_bridges_22 rfl (fun _ => ?_) (fun _ => ?_)
  · refine j_iincL (q := 3) dX12_bridges_82 rfl (Nat.le_of_ble_eq_true rfl) (fun v4 hv4 => ?_)
    refine j_lv (lv' := [(3, 0, v4), (0, 2, x0), (1, 0, x1), (2, 0, x2), (4, 0, x4)]) rfl ?_
    refine j_goto (tgt := 9) dX12_bridges_85 rfl ?_
    refine j_sub [1, 2, 3, 0] rfl ?_
    exact k9 x0 x1 x2 v4 S h0 h1 h2 hv4
  · refine j_aload_n 0 dX12_bridges_25 rfl rfl ?_
    refine j_getr (ci := 12) (k := 0) rfl in_X12 (Nat.le_of_ble_eq_true rfl) rfl rfl fl_X12_7 dX12_bridges_26 (fun (v5 : Int) (hv5 : 0 ≤ v5) => ?_)
    refine j_sipush dX12_bridges_29 (by decide) ?_
    refine j_iload_n 3 dX12_bridges_32 rfl rfl ?_
    refine j_iadd dX12_bridges_33 ?_
    refine j_iaload (w32_R _) dX12_bridges_34 (fun (v6 : Int) (hv6 : R32 (v6)) => ?_)
    refine j_iload 4 dX12_bridges_35 rfl ?_
    refine j_callS (As := [(0, v6), (0, x4)]) (st := []) kc_X12_has (c_X12_has v6 x4 S hv6 h4) lm_X12_249 ks_X12_has rfl (Nat.le_of_ble_eq_true rfl) (Nat.le_trans (m := 4) (Nat.le_of_ble_eq_true rfl) hd0) dX12_bridges_37 (fun (v7 : Int) (S8 : jSt) (hv7 : (v7) = 0 ∨ (v7) = 1) => ?_)
    refine j_if_ne (tgt := 46) (jZ_R hv7) dX12_bridges_40 rfl (fun _ => ?_) (fun _ => ?_)
    · refine j_aload_n 0 dX12_bridges_46 rfl rfl ?_
      refine j_iload_n 3 dX12_bridges_47 rfl rfl ?_
      refine j_iload 4 dX12_bridges_48 rfl ?_
      refine j_callV (ci := 12) (As := [(0, x3), (0, x4)]) (st := []) kc_X12_turnStair (c_X12_turnStair x0 x3 x4 S8 h0 h3 h4) rfl lm_X12_445 ki_X12_turnStair ke_X12_turnStair rfl (Nat.le_of_ble_eq_true rfl) (Nat.le_trans (m := 4) (Nat.le_of_ble_eq_true rfl) hd0) dX12_bridges_50 (fun v9 S10 _ => ?_)
      refine j_iload_n 2 dX12_bridges_53 rfl rfl ?_
      refine j_aload_n 0 dX12_bridges_54 rfl rfl ?_
      refine j_callV (ci := 12) (As := []) (st := [(0, x2)]) kc_X12_partsNow (c_X12_partsNow x0 S10 h0) rfl lm_X12_451 ki_X12_partsNow ke_X12_partsNow rfl (Nat.le_of_ble_eq_true rfl) (Nat.le_trans (m := 4) (Nat.le_of_ble_eq_true rfl) hd0) dX12_bridges_55 (fun (v11 : Int) (S12 : jSt) (hv11 : R32 (v11)) => ?_)
      refine j_iload_n 1 dX12_bridges_58 rfl rfl ?_
      refine j_icmp_le (tgt := 66) hv11 h1 dX12_bridges_59 rfl (fun _ => ?_) (fun _ => ?_)
      · refine j_iconst dX12_bridges_66 ?_
        refine j_sub [0, 1, 3, 4] rfl ?_
        exact p_f_X12_bridges_b67 hd0 k9 k19 x0 x1 x3 x4 x2 0 S12 h0 h1 h3 h4 h2 jz0
      · refine j_iconst dX12_bridges_62 ?_
        refine j_goto (tgt := 67) dX12_bridges_63 rfl ?_
        refine j_sub [0, 1, 3, 4] rfl ?_
        exact p_f_X12_bridges_b67 hd0 k9 k19 x0 x1 x3 x4 x2 1 S12 h0 h1 h3 h4 h2 jz1
    · refine j_goto (tgt := 76) dX12_bridges_43 rfl ?_
      exact p_f_X12_bridges_b76 hd0 k9 k19 x0 x1 x2 x3 x4 S8 h0 h1 h2 h3 h4
def f_X12_bridges_b19 (r9 : Int → Int → Int → Int → jSt → Option (Int × jSt)) : Int → Int → Int → Int → Int → jSt → Option (Int × jSt) := jrep (β := Int → Int → Int → Int → Int → jSt → Option (Int × jSt)) (fun _ _ _ _ _ _ => none) (fun r => f_X12_bridges_b19B r9 r) jN
theorem p_f_X12_bridges_b19 {G : jG} {d : Nat} {S0 : jSt} (hd0 : 4 ≤ d) {r9 : Int → Int → Int → Int → jSt → Option (Int × jSt)} (k9 : ∀ (x0 : Int) (x1 : Int) (x2 : Int) (x3 : Int) (S : jSt), (0 ≤ (x0)) → (R32 (x1)) → (R32 (x2)) → (R32 (x3)) → J G yX12_bridges cX12_bridges 5 (some .int) d S0 9 [(0, 2, x0), (1, 0, x1), (2, 0, x2), (3, 0, x3)] [] S (r9 x0 x1 x2 x3 S)) : ∀ (x0 : Int) (x1 : Int) (x2 : Int) (x3 : Int) (x4 : Int) (S : jSt), (0 ≤ (x0)) → (R32 (x1)) → (R32 (x2)) → (R32 (x3)) → (R32 (x4)) → J G yX12_bridges cX12_bridges 5 (some .int) d S0 19 [(0, 2, x0), (1, 0, x1), (2, 0, x2), (3, 0, x3), (4, 0, x4)] [] S (f_X12_bridges_b19 r9 x0 x1 x2 x3 x4 S) :=
  jrep_ind (P := fun (r : Int → Int → Int → Int → Int → jSt → Option (Int × jSt)) => ∀ (x0 : Int) (x1 : Int) (x2 : Int) (x3 : Int) (x4 : Int) (S : jSt), (0 ≤ (x0)) → (R32 (x1)) → (R32 (x2)) → (R32 (x3)) → (R32 (x4)) → J G yX12_bridges cX12_bridges 5 (some .int) d S0 19 [(0, 2, x0), (1, 0, x1), (2, 0, x2), (3, 0, x3), (4, 0, x4)] [] S (r x0 x1 x2 x3 x4 S)) (by intros; exact j_none) (fun r k => p_f_X12_bridges_b19B hd0 k9 k) jN
def f_X12_bridges_b9B (r9 : Int → Int → Int → Int → jSt → Option (Int × jSt)) (x0 : Int) (x1 : Int) (x2 : Int) (x3 : Int) (S : jSt) : Option (Int × jSt) :=
  if 5 < x3 then some (x2, S) else flet (w32 (x3 + 1)) (fun v3 => f_X12_bridges_b19 r9 x0 x1 x2 x3 v3 S)
theorem p_f_X12_bridges_b9B {G : jG} {d : Nat} {S0 : jSt} (hd0 : 4 ≤ d) {r9 : Int → Int → Int → Int → jSt → Option (Int × jSt)} (k9 : ∀ (x0 : Int) (x1 : Int) (x2 : Int) (x3 : Int) (S : jSt), (0 ≤ (x0)) → (R32 (x1)) → (R32 (x2)) → (R32 (x3)) → J G yX12_bridges cX12_bridges 5 (some .int) d S0 9 [(0, 2, x0), (1, 0, x1), (2, 0, x2), (3, 0, x3)] [] S (r9 x0 x1 x2 x3 S)) : ∀ (x0 : Int) (x1 : Int) (x2 : Int) (x3 : Int) (S : jSt), (0 ≤ (x0)) → (R32 (x1)) → (R32 (x2)) → (R32 (x3)) → J G yX12_bridges cX12_bridges 5 (some .int) d S0 9 [(0, 2, x0), (1, 0, x1), (2, 0, x2), (3, 0, x3)] [] S (f_X12_bridges_b9B r9 x0 x1 x2 x3 S) := by
  intro x0 x1 x2 x3 S h0 h1 h2 h3
  unfold f_X12_bridges_b9B
  refine j_iload_n 3 dX12_bridges_9 rfl rfl ?_
  refine j_iconst dX12_bridges_10 ?_
  refine j_icmp_gt (tgt := 88) h3 (j_r32 5 rfl) dX12_bridges_11 rfl (fun _ => ?_) (fun _ => ?_)
  · refine j_iload_n 2 dX12_bridges_88 rfl rfl ?_
    exact j_ireturn h2 dX12_bridges_89
  · refine j_iload_n 3 dX12_bridges_14 rfl rfl ?_
    refine j_iconst dX12_bridges_15 ?_
    refine j_iadd dX12_bridges_16 ?_
    refine j_leti (w32_R _) (fun v3 hv3 => ?_)
    refine j_istore (lv' := [(4, 0, v3), (0, 2, x0), (1, 0, x1), (2, 0, x2), (3, 0, x3)]) dX12_bridges_17 (Nat.le_of_ble_eq_true rfl) rfl ?_
    refine j_sub [1, 2, 3, 4, 0] rfl ?_
    exact p_f_X12_bridges_b19 hd0 k9 x0 x1 x2 x3 v3 S h0 h1 h2 h3 hv3
def f_X12_bridges_b9 : Int → Int → Int → Int → jSt → Option (Int × jSt) := jrep (β := Int → Int → Int → Int → jSt → Option (Int × jSt)) (fun _ _ _ _ _ => none) (fun r => f_X12_bridges_b9B r) jN
theorem p_f_X12_bridges_b9 {G : jG} {d : Nat} {S0 : jSt} (hd0 : 4 ≤ d) : ∀ (x0 : Int) (x1 : Int) (x2 : Int) (x3 : Int) (S : jSt), (0 ≤ (x0)) → (R32 (x1)) → (R32 (x2)) → (R32 (x3)) → J G yX12_bridges cX12_bridges 5 (some .int) d S0 9 [(0, 2, x0), (1, 0, x1), (2, 0, x2), (3, 0, x3)] [] S (f_X12_bridges_b9  x0 x1 x2 x3 S) :=
  jrep_ind (P := fun (r : Int → Int → Int → Int → jSt → Option (Int × jSt)) => ∀ (x0 : Int) (x1 : Int) (x2 : Int) (x3 : Int) (S : jSt), (0 ≤ (x0)) → (R32 (x1)) → (R32 (x2)) → (R32 (x3)) → J G yX12_bridges cX12_bridges 5 (some .int) d S0 9 [(0, 2, x0), (1, 0, x1), (2, 0, x2), (3, 0, x3)] [] S (r x0 x1 x2 x3 S)) (by intros; exact j_none) (fun r k => p_f_X12_bridges_b9B hd0 k) jN
def f_X12_bridges (a0 : Int) (S : jSt) : Option (Int × jSt) :=
  fcallv S a0 12 (f_X12_partsNow a0 S) (fun v1 S2 => f_X12_bridges_b9 a0 v1 0 0 S2)
theorem e_X12_bridges {G : jG} {d : Nat} {S0 : jSt} (hd0 : 4 ≤ d) (a0 : Int) (S : jSt) (h0 : 0 ≤ (a0)) : J G yX12_bridges cX12_bridges 5 (some .int) d S0 0 [(0, 2, a0)] [] S (f_X12_bridges a0 S) := by
  unfold f_X12_bridges
  refine j_aload_n 0 dX12_bridges_0 rfl rfl ?_
  refine j_callV (ci := 12) (As := []) (st := []) kc_X12_partsNow (c_X12_partsNow a0 S h0) rfl lm_X12_451 ki_X12_partsNow ke_X12_partsNow rfl (Nat.le_of_ble_eq_true rfl) (Nat.le_trans (m := 4) (Nat.le_of_ble_eq_true rfl) hd0) dX12_bridges_1 (fun (v1 : Int) (S2 : jSt) (hv1 : R32 (v1)) => ?_)
  refine j_istore_n (lv' := [(1, 0, v1), (0, 2, a0)]) dX12_bridges_4 rfl (Nat.le_of_ble_eq_true rfl) rfl ?_
  refine j_iconst dX12_bridges_5 ?_
  refine j_istore_n (lv' := [(2, 0, 0), (1, 0, v1), (0, 2, a0)]) dX12_bridges_6 rfl (Nat.le_of_ble_eq_true rfl) rfl ?_
  refine j_iconst dX12_bridges_7 ?_
  refine j_istore_n (lv' := [(3, 0, 0), (2, 0, 0), (1, 0, v1), (0, 2, a0)]) dX12_bridges_8 rfl (Nat.le_of_ble_eq_true rfl) rfl ?_
  refine j_sub [3, 2, 1, 0] rfl ?_
  exact p_f_X12_bridges_b9 hd0 a0 v1 0 0 S2 h0 hv1 (jZ_R jz0) (jZ_R jz0)
theorem c_X12_bridges {G : jG} (a0 : Int) (S : jSt) (h0 : 0 ≤ (a0)) : CT G yX12_bridges cX12_bridges 5 (some .int) 4 ([(2, a0)].map jval) S (f_X12_bridges a0 S) := ct_of [(2, a0)] (by decide) rfl (Nat.le_of_ble_eq_true rfl) (e_X12_bridges (Nat.le_refl _) a0 S h0)
-- X12_bundle
def f_X12_bundle_b62 (S : jSt) : Option (Int × jSt) :=
  some ((-2), S)
theorem p_f_X12_bundle_b62 {G : jG} {d : Nat} {S0 : jSt} (hd0 : 3 ≤ d) : ∀ (S : jSt), J G yX12_bundle cX12_bundle 5 (some .int) d S0 62 [] [] S (f_X12_bundle_b62   S) := by
  intro S
  unfold f_X12_bundle_b62
  refine j_bipush dX12_bundle_62 (by decide) ?_
  exact j_ireturn (j_r32 (-2) rfl) dX12_bundle_64
def f_X12_bundle (a0 : Int) (a1 : Int) (a2 : Int) (a3 : Int) (S : jSt) : Option (Int × jSt) :=
  if a1 = (-1) then fgetr S a0 12 0 (fun v25 => fast S v25 5 1 0 (fun S26 => some (0, S26))) else fcallv S a0 12 (f_X12_isBidder a0 a1 S) (fun v1 S2 => if v1 = 0 then f_X12_bundle_b62 S2 else fgetr S2 a0 12 0 (fun v3 => fald S2 v3 0 1 (fun v4 => fcall (f_X12_isIn a2 1 (w32 ((ishl32 1 v4) - 1)) S2) (fun v5 S6 => if v5 = 0 then f_X12_bundle_b62 S6 else fcall (f_X12_isIn a3 0 9999 S6) (fun v7 S8 => if v7 = 0 then f_X12_bundle_b62 S8 else fgetr S8 a0 12 0 (fun v9 => fald S8 v9 5 1 (fun v10 => if v10 = 8 then f_X12_bundle_b62 S8 else fgetr S8 a0 12 0 (fun v11 => fald S8 v11 5 1 (fun v12 => flet (w32 (153 + (w32 (3 * v12)))) (fun v13 => fgetr S8 a0 12 0 (fun v14 => fast S8 v14 v13 1 a1 (fun S15 => fgetr S15 a0 12 0 (fun v16 => fast S15 v16 (w32 (v13 + 1)) 1 a2 (fun S17 => fgetr S17 a0 12 0 (fun v18 => fast S17 v18 (w32 (v13 + 2)) 1 a3 (fun S19 => fgetr S19 a0 12 0 (fun v20 => fald S19 v20 5 1 (fun v21 => fast S19 v20 5 1 (w32 (v21 + 1)) (fun S22 => fgetr S22 a0 12 0 (fun v23 => fald S22 v23 5 1 (fun v24 => some (v24, S22))))))))))))))))))))))
theorem e_X12_bundle {G : jG} {d : Nat} {S0 : jSt} (hd0 : 3 ≤ d) (a0 : Int) (a1 : Int) (a2 : Int) (a3 : Int) (S : jSt) (h0 : 0 ≤ (a0)) (h1 : R32 (a1)) (h2 : R32 (a2)) (h3 : R32 (a3)) : J G yX12_bundle cX12_bundle 5 (some .int) d S0 0 [(0, 2, a0), (1, 0, a1), (2, 0, a2), (3, 0, a3)] [] S (f_X12_bundle a0 a1 a2 a3 S) := by
  unfold f_X12_bundle
  refine j_iload_n 1 dX12_bundle_0 rfl rfl ?_
  refine j_iconst dX12_bundle_1 ?_
  refine j_icmp_ne (tgt := 14) h1 (j_r32 (-1) rfl) dX12_bundle_2 rfl (fun _ => ?_) (fun _ => ?_)
  · refine j_aload_n 0 dX12_bundle_14 rfl rfl ?_
    refine j_iload_n 1 dX12_bundle_15 rfl rfl ?_
    refine j_callV (ci := 12) (As := [(0, a1)]) (st := []) kc_X12_isBidder (c_X12_isBidder a0 a1 S h0 h1) rfl lm_X12_82 ki_X12_isBidder ke_X12_isBidder rfl (Nat.le_of_ble_eq_true rfl) (Nat.le_trans (m := 3) (Nat.le_of_ble_eq_true rfl) hd0) dX12_bundle_16 (fun (v1 : Int) (S2 : jSt) (hv1 : (v1) = 0 ∨ (v1) = 1) => ?_)
    refine j_if_eq (tgt := 62) (jZ_R hv1) dX12_bundle_19 rfl (fun _ => ?_) (fun _ => ?_)
    · refine j_sub [] rfl ?_
      exact p_f_X12_bundle_b62 hd0 S2
    · refine j_iload_n 2 dX12_bundle_22 rfl rfl ?_
      refine j_iconst dX12_bundle_23 ?_
      refine j_iconst dX12_bundle_24 ?_
      refine j_aload_n 0 dX12_bundle_25 rfl rfl ?_
      refine j_getr (ci := 12) (k := 0) rfl in_X12 (Nat.le_of_ble_eq_true rfl) rfl rfl fl_X12_7 dX12_bundle_26 (fun (v3 : Int) (hv3 : 0 ≤ v3) => ?_)
      refine j_iconst dX12_bundle_29 ?_
      refine j_iaload (jZ_R jz0) dX12_bundle_30 (fun (v4 : Int) (hv4 : R32 (v4)) => ?_)
      refine j_ishl dX12_bundle_31 ?_
      refine j_iconst dX12_bundle_32 ?_
      refine j_isub dX12_bundle_33 ?_
      refine j_callS (As := [(0, a2), (0, 1), (0, w32 ((ishl32 1 v4) - 1))]) (st := []) kc_X12_isIn (c_X12_isIn a2 1 (w32 ((ishl32 1 v4) - 1)) S2 h2 (jZ_R jz1) (w32_R _)) lm_X12_60 ks_X12_isIn rfl (Nat.le_of_ble_eq_true rfl) (Nat.le_trans (m := 3) (Nat.le_of_ble_eq_true rfl) hd0) dX12_bundle_34 (fun (v5 : Int) (S6 : jSt) (hv5 : (v5) = 0 ∨ (v5) = 1) => ?_)
      refine j_if_eq (tgt := 62) (jZ_R hv5) dX12_bundle_37 rfl (fun _ => ?_) (fun _ => ?_)
      · refine j_sub [] rfl ?_
        exact p_f_X12_bundle_b62 hd0 S6
      · refine j_iload_n 3 dX12_bundle_40 rfl rfl ?_
        refine j_iconst dX12_bundle_41 ?_
        refine j_sipush dX12_bundle_42 (by decide) ?_
        refine j_callS (As := [(0, a3), (0, 0), (0, 9999)]) (st := []) kc_X12_isIn (c_X12_isIn a3 0 9999 S6 h3 (jZ_R jz0) (j_r32 9999 rfl)) lm_X12_60 ks_X12_isIn rfl (Nat.le_of_ble_eq_true rfl) (Nat.le_trans (m := 3) (Nat.le_of_ble_eq_true rfl) hd0) dX12_bundle_45 (fun (v7 : Int) (S8 : jSt) (hv7 : (v7) = 0 ∨ (v7) = 1) => ?_)
        refine j_if_eq (tgt := 62) (jZ_R hv7) dX12_bundle_48 rfl (fun _ => ?_) (fun _ => ?_)
        · refine j_sub [] rfl ?_
          exact p_f_X12_bundle_b62 hd0 S8
        · refine j_aload_n 0 dX12_bundle_51 rfl rfl ?_
          refine j_getr (ci := 12) (k := 0) rfl in_X12 (Nat.le_of_ble_eq_true rfl) rfl rfl fl_X12_7 dX12_bundle_52 (fun (v9 : Int) (hv9 : 0 ≤ v9) => ?_)
          refine j_iconst dX12_bundle_55 ?_
          refine j_iaload (j_r32 5 rfl) dX12_bundle_56 (fun (v10 : Int) (hv10 : R32 (v10)) => ?_)
          refine j_bipush dX12_bundle_57 (by decide) ?_
          refine j_icmp_ne (tgt := 65) hv10 (j_r32 8 rfl) dX12_bundle_59 rfl (fun _ => ?_) (fun _ => ?_)
          · refine j_sipush dX12_bundle_65 (by decide) ?_
            refine j_iconst dX12_bundle_68 ?_
            refine j_aload_n 0 dX12_bundle_69 rfl rfl ?_
            refine j_getr (ci := 12) (k := 0) rfl in_X12 (Nat.le_of_ble_eq_true rfl) rfl rfl fl_X12_7 dX12_bundle_70 (fun (v11 : Int) (hv11 : 0 ≤ v11) => ?_)
            refine j_iconst dX12_bundle_73 ?_
            refine j_iaload (j_r32 5 rfl) dX12_bundle_74 (fun (v12 : Int) (hv12 : R32 (v12)) => ?_)
            refine j_imul dX12_bundle_75 ?_
            refine j_iadd dX12_bundle_76 ?_
            refine j_leti (w32_R _) (fun v13 hv13 => ?_)
            refine j_istore (lv' := [(4, 0, v13), (0, 2, a0), (1, 0, a1), (2, 0, a2), (3, 0, a3)]) dX12_bundle_77 (Nat.le_of_ble_eq_true rfl) rfl ?_
            refine j_aload_n 1 dX12_bundle_79 rfl rfl ?_
            refine j_getr (ci := 12) (k := 0) rfl in_X12 (Nat.le_of_ble_eq_true rfl) rfl rfl fl_X12_7 dX12_bundle_80 (fun (v14 : Int) (hv14 : 0 ≤ v14) => ?_)
            refine j_iload 0 dX12_bundle_83 rfl ?_
            refine j_iload_n 2 dX12_bundle_85 rfl rfl ?_
            refine j_iastore hv13 h1 dX12_bundle_86 (fun S15 => ?_)
            refine j_aload_n 1 dX12_bundle_87 rfl rfl ?_
            refine j_getr (ci := 12) (k := 0) rfl in_X12 (Nat.le_of_ble_eq_true rfl) rfl rfl fl_X12_7 dX12_bundle_88 (fun (v16 : Int) (hv16 : 0 ≤ v16) => ?_)
            refine j_iload 0 dX12_bundle_91 rfl ?_
            refine j_iconst dX12_bundle_93 ?_
            refine j_iadd dX12_bundle_94 ?_
            refine j_iload_n 3 dX12_bundle_95 rfl rfl ?_
            refine j_iastore (w32_R _) h2 dX12_bundle_96 (fun S17 => ?_)
            refine j_aload_n 1 dX12_bundle_97 rfl rfl ?_
            refine j_getr (ci := 12) (k := 0) rfl in_X12 (Nat.le_of_ble_eq_true rfl) rfl rfl fl_X12_7 dX12_bundle_98 (fun (v18 : Int) (hv18 : 0 ≤ v18) => ?_)
            refine j_iload 0 dX12_bundle_101 rfl ?_
            refine j_iconst dX12_bundle_103 ?_
            refine j_iadd dX12_bundle_104 ?_
            refine j_iload_n 4 dX12_bundle_105 rfl rfl ?_
            refine j_iastore (w32_R _) h3 dX12_bundle_106 (fun S19 => ?_)
            refine j_aload_n 1 dX12_bundle_107 rfl rfl ?_
            refine j_getr (ci := 12) (k := 0) rfl in_X12 (Nat.le_of_ble_eq_true rfl) rfl rfl fl_X12_7 dX12_bundle_108 (fun (v20 : Int) (hv20 : 0 ≤ v20) => ?_)
            refine j_iconst dX12_bundle_111 ?_
            refine j_dup2 dX12_bundle_112 (fun h => nomatch h) (fun h => nomatch h) ?_
            refine j_iaload (j_r32 5 rfl) dX12_bundle_113 (fun (v21 : Int) (hv21 : R32 (v21)) => ?_)
            refine j_iconst dX12_bundle_114 ?_
            refine j_iadd dX12_bundle_115 ?_
            refine j_iastore (j_r32 5 rfl) (w32_R _) dX12_bundle_116 (fun S22 => ?_)
            refine j_aload_n 1 dX12_bundle_117 rfl rfl ?_
            refine j_getr (ci := 12) (k := 0) rfl in_X12 (Nat.le_of_ble_eq_true rfl) rfl rfl fl_X12_7 dX12_bundle_118 (fun (v23 : Int) (hv23 : 0 ≤ v23) => ?_)
            refine j_iconst dX12_bundle_121 ?_
            refine j_iaload (j_r32 5 rfl) dX12_bundle_122 (fun (v24 : Int) (hv24 : R32 (v24)) => ?_)
            exact j_ireturn hv24 dX12_bundle_123
          · refine j_sub [] rfl ?_
            exact p_f_X12_bundle_b62 hd0 S8
  · refine j_aload_n 0 dX12_bundle_5 rfl rfl ?_
    refine j_getr (ci := 12) (k := 0) rfl in_X12 (Nat.le_of_ble_eq_true rfl) rfl rfl fl_X12_7 dX12_bundle_6 (fun (v25 : Int) (hv25 : 0 ≤ v25) => ?_)
    refine j_iconst dX12_bundle_9 ?_
    refine j_iconst dX12_bundle_10 ?_
    refine j_iastore (j_r32 5 rfl) (jZ_R jz0) dX12_bundle_11 (fun S26 => ?_)
    refine j_iconst dX12_bundle_12 ?_
    exact j_ireturn (jZ_R jz0) dX12_bundle_13
theorem c_X12_bundle {G : jG} (a0 : Int) (a1 : Int) (a2 : Int) (a3 : Int) (S : jSt) (h0 : 0 ≤ (a0)) (h1 : R32 (a1)) (h2 : R32 (a2)) (h3 : R32 (a3)) : CT G yX12_bundle cX12_bundle 5 (some .int) 3 ([(2, a0), (0, a1), (0, a2), (0, a3)].map jval) S (f_X12_bundle a0 a1 a2 a3 S) := ct_of [(2, a0), (0, a1), (0, a2), (0, a3)] (by decide) rfl (Nat.le_of_ble_eq_true rfl) (e_X12_bundle (Nat.le_refl _) a0 a1 a2 a3 S h0 h1 h2 h3)
-- X12_canBurn
def f_X12_canBurn_b23 (x0 : Int) (S : jSt) : Option (Int × jSt) :=
  some (x0, S)
theorem p_f_X12_canBurn_b23 {G : jG} {d : Nat} {S0 : jSt} (hd0 : 3 ≤ d) : ∀ (x0 : Int) (S : jSt), ((x0) = 0 ∨ (x0) = 1) → J G yX12_canBurn cX12_canBurn 2 (some .boolean) d S0 23 [] [(0, x0)] S (f_X12_canBurn_b23  x0 S) := by
  intro x0 S h0
  unfold f_X12_canBurn_b23
  exact j_zreturn h0 dX12_canBurn_23
def f_X12_canBurn_b22 (S : jSt) : Option (Int × jSt) :=
  f_X12_canBurn_b23 0 S
theorem p_f_X12_canBurn_b22 {G : jG} {d : Nat} {S0 : jSt} (hd0 : 3 ≤ d) : ∀ (S : jSt), J G yX12_canBurn cX12_canBurn 2 (some .boolean) d S0 22 [] [] S (f_X12_canBurn_b22   S) := by
  intro S
  unfold f_X12_canBurn_b22
  refine j_iconst dX12_canBurn_22 ?_
  exact p_f_X12_canBurn_b23 hd0 0 S jz0
def f_X12_canBurn (a0 : Int) (a1 : Int) (S : jSt) : Option (Int × jSt) :=
  fcallv S a0 12 (f_X12_isLot a0 a1 S) (fun v1 S2 => if v1 = 0 then f_X12_canBurn_b22 S2 else fcallv S2 a0 12 (f_X12_get a0 a1 1 S2) (fun v3 S4 => if 1 < v3 then f_X12_canBurn_b22 S4 else f_X12_canBurn_b23 1 S4))
theorem e_X12_canBurn {G : jG} {d : Nat} {S0 : jSt} (hd0 : 3 ≤ d) (a0 : Int) (a1 : Int) (S : jSt) (h0 : 0 ≤ (a0)) (h1 : R32 (a1)) : J G yX12_canBurn cX12_canBurn 2 (some .boolean) d S0 0 [(0, 2, a0), (1, 0, a1)] [] S (f_X12_canBurn a0 a1 S) := by
  unfold f_X12_canBurn
  refine j_aload_n 0 dX12_canBurn_0 rfl rfl ?_
  refine j_iload_n 1 dX12_canBurn_1 rfl rfl ?_
  refine j_callV (ci := 12) (As := [(0, a1)]) (st := []) kc_X12_isLot (c_X12_isLot a0 a1 S h0 h1) rfl lm_X12_64 ki_X12_isLot ke_X12_isLot rfl (Nat.le_of_ble_eq_true rfl) (Nat.le_trans (m := 3) (Nat.le_of_ble_eq_true rfl) hd0) dX12_canBurn_2 (fun (v1 : Int) (S2 : jSt) (hv1 : (v1) = 0 ∨ (v1) = 1) => ?_)
  refine j_if_eq (tgt := 22) (jZ_R hv1) dX12_canBurn_5 rfl (fun _ => ?_) (fun _ => ?_)
  · refine j_sub [] rfl ?_
    exact p_f_X12_canBurn_b22 hd0 S2
  · refine j_aload_n 0 dX12_canBurn_8 rfl rfl ?_
    refine j_iload_n 1 dX12_canBurn_9 rfl rfl ?_
    refine j_iconst dX12_canBurn_10 ?_
    refine j_callV (ci := 12) (As := [(0, a1), (0, 1)]) (st := []) kc_X12_get (c_X12_get a0 a1 1 S2 h0 h1 (jZ_R jz1)) rfl lm_X12_68 ki_X12_get ke_X12_get rfl (Nat.le_of_ble_eq_true rfl) (Nat.le_trans (m := 3) (Nat.le_of_ble_eq_true rfl) hd0) dX12_canBurn_11 (fun (v3 : Int) (S4 : jSt) (hv3 : R32 (v3)) => ?_)
    refine j_iconst dX12_canBurn_14 ?_
    refine j_icmp_gt (tgt := 22) hv3 (jZ_R jz1) dX12_canBurn_15 rfl (fun _ => ?_) (fun _ => ?_)
    · refine j_sub [] rfl ?_
      exact p_f_X12_canBurn_b22 hd0 S4
    · refine j_iconst dX12_canBurn_18 ?_
      refine j_goto (tgt := 23) dX12_canBurn_19 rfl ?_
      refine j_sub [] rfl ?_
      exact p_f_X12_canBurn_b23 hd0 1 S4 jz1
theorem c_X12_canBurn {G : jG} (a0 : Int) (a1 : Int) (S : jSt) (h0 : 0 ≤ (a0)) (h1 : R32 (a1)) : CT G yX12_canBurn cX12_canBurn 2 (some .boolean) 3 ([(2, a0), (0, a1)].map jval) S (f_X12_canBurn a0 a1 S) := ct_of [(2, a0), (0, a1)] (by decide) rfl (Nat.le_of_ble_eq_true rfl) (e_X12_canBurn (Nat.le_refl _) a0 a1 S h0 h1)
-- X12_burn
def f_X12_burn (a0 : Int) (a1 : Int) (S : jSt) : Option (Int × jSt) :=
  fcallv S a0 12 (f_X12_canBurn a0 a1 S) (fun v1 S2 => if v1 = 0 then some (0, S2) else fcallv S2 a0 12 (f_X12_keep a0 S2) (fun v3 S4 => fcallv S4 a0 12 (f_X12_put a0 a1 1 2 S4) (fun v5 S6 => some (1, S6))))
theorem e_X12_burn {G : jG} {d : Nat} {S0 : jSt} (hd0 : 4 ≤ d) (a0 : Int) (a1 : Int) (S : jSt) (h0 : 0 ≤ (a0)) (h1 : R32 (a1)) : J G yX12_burn cX12_burn 2 (some .boolean) d S0 0 [(0, 2, a0), (1, 0, a1)] [] S (f_X12_burn a0 a1 S) := by
  unfold f_X12_burn
  refine j_aload_n 0 dX12_burn_0 rfl rfl ?_
  refine j_iload_n 1 dX12_burn_1 rfl rfl ?_
  refine j_callV (ci := 12) (As := [(0, a1)]) (st := []) kc_X12_canBurn (c_X12_canBurn a0 a1 S h0 h1) rfl lm_X12_364 ki_X12_canBurn ke_X12_canBurn rfl (Nat.le_of_ble_eq_true rfl) (Nat.le_trans (m := 4) (Nat.le_of_ble_eq_true rfl) hd0) dX12_burn_2 (fun (v1 : Int) (S2 : jSt) (hv1 : (v1) = 0 ∨ (v1) = 1) => ?_)
  refine j_if_ne (tgt := 10) (jZ_R hv1) dX12_burn_5 rfl (fun _ => ?_) (fun _ => ?_)
  · refine j_aload_n 0 dX12_burn_10 rfl rfl ?_
    refine j_callV (ci := 12) (As := []) (st := []) kc_X12_keep (c_X12_keep a0 S2 h0) rfl lm_X12_358 ki_X12_keep ke_X12_keep rfl (Nat.le_of_ble_eq_true rfl) (Nat.le_trans (m := 4) (Nat.le_of_ble_eq_true rfl) hd0) dX12_burn_11 (fun v3 S4 _ => ?_)
    refine j_aload_n 0 dX12_burn_14 rfl rfl ?_
    refine j_iload_n 1 dX12_burn_15 rfl rfl ?_
    refine j_iconst dX12_burn_16 ?_
    refine j_iconst dX12_burn_17 ?_
    refine j_callV (ci := 12) (As := [(0, a1), (0, 1), (0, 2)]) (st := []) kc_X12_put (c_X12_put a0 a1 1 2 S4 h0 h1 (jZ_R jz1) (j_r32 2 rfl)) rfl lm_X12_75 ki_X12_put ke_X12_put rfl (Nat.le_of_ble_eq_true rfl) (Nat.le_trans (m := 4) (Nat.le_of_ble_eq_true rfl) hd0) dX12_burn_18 (fun v5 S6 _ => ?_)
    refine j_iconst dX12_burn_21 ?_
    exact j_zreturn jz1 dX12_burn_22
  · refine j_iconst dX12_burn_8 ?_
    exact j_zreturn jz0 dX12_burn_9
theorem c_X12_burn {G : jG} (a0 : Int) (a1 : Int) (S : jSt) (h0 : 0 ≤ (a0)) (h1 : R32 (a1)) : CT G yX12_burn cX12_burn 2 (some .boolean) 4 ([(2, a0), (0, a1)].map jval) S (f_X12_burn a0 a1 S) := ct_of [(2, a0), (0, a1)] (by decide) rfl (Nat.le_of_ble_eq_true rfl) (e_X12_burn (Nat.le_refl _) a0 a1 S h0 h1)
-- X12_burnt
def f_X12_burnt_b20 (S : jSt) : Option (Int × jSt) :=
  some ((-1), S)
theorem p_f_X12_burnt_b20 {G : jG} {d : Nat} {S0 : jSt} (hd0 : 4 ≤ d) : ∀ (S : jSt), J G yX12_burnt cX12_burnt 4 (some .int) d S0 20 [] [] S (f_X12_burnt_b20   S) := by
  intro S
  unfold f_X12_burnt_b20
  refine j_iconst dX12_burnt_20 ?_
  exact j_ireturn (j_r32 (-1) rfl) dX12_burnt_21
def f_X12_burnt_b54 (x0 : Int) (S : jSt) : Option (Int × jSt) :=
  some (x0, S)
theorem p_f_X12_burnt_b54 {G : jG} {d : Nat} {S0 : jSt} (hd0 : 4 ≤ d) : ∀ (x0 : Int) (S : jSt), (R32 (x0)) → J G yX12_burnt cX12_burnt 4 (some .int) d S0 54 [] [(0, x0)] S (f_X12_burnt_b54  x0 S) := by
  intro x0 S h0
  unfold f_X12_burnt_b54
  exact j_ireturn h0 dX12_burnt_54
def f_X12_burnt (a0 : Int) (a1 : Int) (a2 : Int) (a3 : Int) (S : jSt) : Option (Int × jSt) :=
  fcall (f_X12_isIn a1 0 108 S) (fun v1 S2 => if v1 = 0 then f_X12_burnt_b20 S2 else fcall (f_X12_isIn a2 0 12 S2) (fun v3 S4 => if v3 = 0 then f_X12_burnt_b20 S4 else fcallv S4 a0 12 (f_X12_layAsh a0 a1 a2 S4) (fun v5 S6 => fget S6 a0 12 28 (fun v7 => if v7 = 0 then f_X12_burnt_b54 0 S6 else if a3 = 0 then fget S6 a0 12 30 (fun v8 => f_X12_burnt_b54 v8 S6) else fget S6 a0 12 29 (fun v9 => f_X12_burnt_b54 v9 S6)))))
theorem e_X12_burnt {G : jG} {d : Nat} {S0 : jSt} (hd0 : 4 ≤ d) (a0 : Int) (a1 : Int) (a2 : Int) (a3 : Int) (S : jSt) (h0 : 0 ≤ (a0)) (h1 : R32 (a1)) (h2 : R32 (a2)) (h3 : (a3) = 0 ∨ (a3) = 1) : J G yX12_burnt cX12_burnt 4 (some .int) d S0 0 [(0, 2, a0), (1, 0, a1), (2, 0, a2), (3, 0, a3)] [] S (f_X12_burnt a0 a1 a2 a3 S) := by
  unfold f_X12_burnt
  refine j_iload_n 1 dX12_burnt_0 rfl rfl ?_
  refine j_iconst dX12_burnt_1 ?_
  refine j_bipush dX12_burnt_2 (by decide) ?_
  refine j_callS (As := [(0, a1), (0, 0), (0, 108)]) (st := []) kc_X12_isIn (c_X12_isIn a1 0 108 S h1 (jZ_R jz0) (j_r32 108 rfl)) lm_X12_60 ks_X12_isIn rfl (Nat.le_of_ble_eq_true rfl) (Nat.le_trans (m := 4) (Nat.le_of_ble_eq_true rfl) hd0) dX12_burnt_4 (fun (v1 : Int) (S2 : jSt) (hv1 : (v1) = 0 ∨ (v1) = 1) => ?_)
  refine j_if_eq (tgt := 20) (jZ_R hv1) dX12_burnt_7 rfl (fun _ => ?_) (fun _ => ?_)
  · refine j_sub [] rfl ?_
    exact p_f_X12_burnt_b20 hd0 S2
  · refine j_iload_n 2 dX12_burnt_10 rfl rfl ?_
    refine j_iconst dX12_burnt_11 ?_
    refine j_bipush dX12_burnt_12 (by decide) ?_
    refine j_callS (As := [(0, a2), (0, 0), (0, 12)]) (st := []) kc_X12_isIn (c_X12_isIn a2 0 12 S2 h2 (jZ_R jz0) (j_r32 12 rfl)) lm_X12_60 ks_X12_isIn rfl (Nat.le_of_ble_eq_true rfl) (Nat.le_trans (m := 4) (Nat.le_of_ble_eq_true rfl) hd0) dX12_burnt_14 (fun (v3 : Int) (S4 : jSt) (hv3 : (v3) = 0 ∨ (v3) = 1) => ?_)
    refine j_if_ne (tgt := 22) (jZ_R hv3) dX12_burnt_17 rfl (fun _ => ?_) (fun _ => ?_)
    · refine j_aload_n 0 dX12_burnt_22 rfl rfl ?_
      refine j_iload_n 1 dX12_burnt_23 rfl rfl ?_
      refine j_iload_n 2 dX12_burnt_24 rfl rfl ?_
      refine j_callV (ci := 12) (As := [(0, a1), (0, a2)]) (st := []) kc_X12_layAsh (c_X12_layAsh a0 a1 a2 S4 h0 h1 h2) rfl lm_X12_486 ki_X12_layAsh ke_X12_layAsh rfl (Nat.le_of_ble_eq_true rfl) (Nat.le_trans (m := 4) (Nat.le_of_ble_eq_true rfl) hd0) dX12_burnt_25 (fun v5 S6 _ => ?_)
      refine j_aload_n 0 dX12_burnt_28 rfl rfl ?_
      refine j_get (ci := 12) (k := 28) (t := 0) rfl in_X12 (Nat.le_of_ble_eq_true rfl) rfl rfl fl_X12_474 dX12_burnt_29 (fun (v7 : Int) (hv7 : R32 (v7)) => ?_)
      refine j_if_ne (tgt := 39) hv7 dX12_burnt_32 rfl (fun _ => ?_) (fun _ => ?_)
      · refine j_iload_n 3 dX12_burnt_39 rfl rfl ?_
        refine j_if_eq (tgt := 50) (jZ_R h3) dX12_burnt_40 rfl (fun _ => ?_) (fun _ => ?_)
        · refine j_aload_n 0 dX12_burnt_50 rfl rfl ?_
          refine j_get (ci := 12) (k := 30) (t := 0) rfl in_X12 (Nat.le_of_ble_eq_true rfl) rfl rfl fl_X12_480 dX12_burnt_51 (fun (v8 : Int) (hv8 : R32 (v8)) => ?_)
          refine j_sub [] rfl ?_
          exact p_f_X12_burnt_b54 hd0 v8 S6 hv8
        · refine j_aload_n 0 dX12_burnt_43 rfl rfl ?_
          refine j_get (ci := 12) (k := 29) (t := 0) rfl in_X12 (Nat.le_of_ble_eq_true rfl) rfl rfl fl_X12_477 dX12_burnt_44 (fun (v9 : Int) (hv9 : R32 (v9)) => ?_)
          refine j_goto (tgt := 54) dX12_burnt_47 rfl ?_
          refine j_sub [] rfl ?_
          exact p_f_X12_burnt_b54 hd0 v9 S6 hv9
      · refine j_iconst dX12_burnt_35 ?_
        refine j_goto (tgt := 54) dX12_burnt_36 rfl ?_
        refine j_sub [] rfl ?_
        exact p_f_X12_burnt_b54 hd0 0 S6 (jZ_R jz0)
    · refine j_sub [] rfl ?_
      exact p_f_X12_burnt_b20 hd0 S4
theorem c_X12_burnt {G : jG} (a0 : Int) (a1 : Int) (a2 : Int) (a3 : Int) (S : jSt) (h0 : 0 ≤ (a0)) (h1 : R32 (a1)) (h2 : R32 (a2)) (h3 : (a3) = 0 ∨ (a3) = 1) : CT G yX12_burnt cX12_burnt 4 (some .int) 4 ([(2, a0), (0, a1), (0, a2), (0, a3)].map jval) S (f_X12_burnt a0 a1 a2 a3 S) := ct_of [(2, a0), (0, a1), (0, a2), (0, a3)] (by decide) rfl (Nat.le_of_ble_eq_true rfl) (e_X12_burnt (Nat.le_refl _) a0 a1 a2 a3 S h0 h1 h2 h3)
-- X12_buyNow
def f_X12_buyNow (a0 : Int) (a1 : Int) (a2 : Int) (S : jSt) : Option (Int × jSt) :=
  fcallv S a0 12 (f_X12_get a0 a1 1 S) (fun v1 S2 => flet (w32 (v1 - 3)) (fun v3 => fgetr S2 a0 12 0 (fun v4 => fald S2 v4 8 1 (fun v5 => fast S2 v4 8 1 (w32 (v5 - a2)) (fun S6 => fcallv S6 a0 12 (f_X12_own a0 v3 0 S6) (fun v7 S8 => fcall (f_X12_held (w32 (v7 + a2)) 0 9999 S8) (fun v9 S10 => fcallv S10 a0 12 (f_X12_lay a0 v3 0 v9 S10) (fun v11 S12 => fcallv S12 a0 12 (f_X12_put a0 a1 1 1 S12) (fun v13 S14 => some (0, S14))))))))))
theorem e_X12_buyNow {G : jG} {d : Nat} {S0 : jSt} (hd0 : 2 ≤ d) (a0 : Int) (a1 : Int) (a2 : Int) (S : jSt) (h0 : 0 ≤ (a0)) (h1 : R32 (a1)) (h2 : R32 (a2)) : J G yX12_buyNow cX12_buyNow 4 none d S0 0 [(0, 2, a0), (1, 0, a1), (2, 0, a2)] [] S (f_X12_buyNow a0 a1 a2 S) := by
  unfold f_X12_buyNow
  refine j_aload_n 0 dX12_buyNow_0 rfl rfl ?_
  refine j_iload_n 1 dX12_buyNow_1 rfl rfl ?_
  refine j_iconst dX12_buyNow_2 ?_
  refine j_callV (ci := 12) (As := [(0, a1), (0, 1)]) (st := []) kc_X12_get (c_X12_get a0 a1 1 S h0 h1 (jZ_R jz1)) rfl lm_X12_68 ki_X12_get ke_X12_get rfl (Nat.le_of_ble_eq_true rfl) (Nat.le_trans (m := 2) (Nat.le_of_ble_eq_true rfl) hd0) dX12_buyNow_3 (fun (v1 : Int) (S2 : jSt) (hv1 : R32 (v1)) => ?_)
  refine j_iconst dX12_buyNow_6 ?_
  refine j_isub dX12_buyNow_7 ?_
  refine j_leti (w32_R _) (fun v3 hv3 => ?_)
  refine j_istore_n (lv' := [(3, 0, v3), (0, 2, a0), (1, 0, a1), (2, 0, a2)]) dX12_buyNow_8 rfl (Nat.le_of_ble_eq_true rfl) rfl ?_
  refine j_aload_n 1 dX12_buyNow_9 rfl rfl ?_
  refine j_getr (ci := 12) (k := 0) rfl in_X12 (Nat.le_of_ble_eq_true rfl) rfl rfl fl_X12_7 dX12_buyNow_10 (fun (v4 : Int) (hv4 : 0 ≤ v4) => ?_)
  refine j_bipush dX12_buyNow_13 (by decide) ?_
  refine j_dup2 dX12_buyNow_15 (fun h => nomatch h) (fun h => nomatch h) ?_
  refine j_iaload (j_r32 8 rfl) dX12_buyNow_16 (fun (v5 : Int) (hv5 : R32 (v5)) => ?_)
  refine j_iload_n 3 dX12_buyNow_17 rfl rfl ?_
  refine j_isub dX12_buyNow_18 ?_
  refine j_iastore (j_r32 8 rfl) (w32_R _) dX12_buyNow_19 (fun S6 => ?_)
  refine j_aload_n 1 dX12_buyNow_20 rfl rfl ?_
  refine j_iload_n 0 dX12_buyNow_21 rfl rfl ?_
  refine j_iconst dX12_buyNow_22 ?_
  refine j_aload_n 1 dX12_buyNow_23 rfl rfl ?_
  refine j_iload_n 0 dX12_buyNow_24 rfl rfl ?_
  refine j_iconst dX12_buyNow_25 ?_
  refine j_callV (ci := 12) (As := [(0, v3), (0, 0)]) (st := [(0, 0), (0, v3), (2, a0)]) kc_X12_own (c_X12_own a0 v3 0 S6 h0 hv3 (jZ_R jz0)) rfl lm_X12_299 ki_X12_own ke_X12_own rfl (Nat.le_of_ble_eq_true rfl) (Nat.le_trans (m := 2) (Nat.le_of_ble_eq_true rfl) hd0) dX12_buyNow_26 (fun (v7 : Int) (S8 : jSt) (hv7 : R32 (v7)) => ?_)
  refine j_iload_n 3 dX12_buyNow_29 rfl rfl ?_
  refine j_iadd dX12_buyNow_30 ?_
  refine j_i2l (w32_R _) dX12_buyNow_31 ?_
  refine j_iconst dX12_buyNow_32 ?_
  refine j_sipush dX12_buyNow_33 (by decide) ?_
  refine j_callS (As := [(1, w32 (v7 + a2)), (0, 0), (0, 9999)]) (st := [(0, 0), (0, v3), (2, a0)]) kc_X12_held (c_X12_held (w32 (v7 + a2)) 0 9999 S8 (R32_R64 (w32_R _)) (jZ_R jz0) (j_r32 9999 rfl)) lm_X12_292 ks_X12_held rfl (Nat.le_of_ble_eq_true rfl) (Nat.le_trans (m := 2) (Nat.le_of_ble_eq_true rfl) hd0) dX12_buyNow_36 (fun (v9 : Int) (S10 : jSt) (hv9 : R32 (v9)) => ?_)
  refine j_callV (ci := 12) (As := [(0, v3), (0, 0), (0, v9)]) (st := []) kc_X12_lay (c_X12_lay a0 v3 0 v9 S10 h0 hv3 (jZ_R jz0) hv9) rfl lm_X12_79 ki_X12_lay ke_X12_lay rfl (Nat.le_of_ble_eq_true rfl) (Nat.le_trans (m := 2) (Nat.le_of_ble_eq_true rfl) hd0) dX12_buyNow_39 (fun v11 S12 _ => ?_)
  refine j_aload_n 1 dX12_buyNow_42 rfl rfl ?_
  refine j_iload_n 2 dX12_buyNow_43 rfl rfl ?_
  refine j_iconst dX12_buyNow_44 ?_
  refine j_iconst dX12_buyNow_45 ?_
  refine j_callV (ci := 12) (As := [(0, a1), (0, 1), (0, 1)]) (st := []) kc_X12_put (c_X12_put a0 a1 1 1 S12 h0 h1 (jZ_R jz1) (jZ_R jz1)) rfl lm_X12_75 ki_X12_put ke_X12_put rfl (Nat.le_of_ble_eq_true rfl) (Nat.le_trans (m := 2) (Nat.le_of_ble_eq_true rfl) hd0) dX12_buyNow_46 (fun v13 S14 _ => ?_)
  exact j_return dX12_buyNow_49
theorem c_X12_buyNow {G : jG} (a0 : Int) (a1 : Int) (a2 : Int) (S : jSt) (h0 : 0 ≤ (a0)) (h1 : R32 (a1)) (h2 : R32 (a2)) : CT G yX12_buyNow cX12_buyNow 4 none 2 ([(2, a0), (0, a1), (0, a2)].map jval) S (f_X12_buyNow a0 a1 a2 S) := ct_of [(2, a0), (0, a1), (0, a2)] (by decide) rfl (Nat.le_of_ble_eq_true rfl) (e_X12_buyNow (Nat.le_refl _) a0 a1 a2 S h0 h1 h2)
-- X12_canBuy
def f_X12_canBuy_b40 (S : jSt) : Option (Int × jSt) :=
  some (0, S)
theorem p_f_X12_canBuy_b40 {G : jG} {d : Nat} {S0 : jSt} (hd0 : 3 ≤ d) : ∀ (S : jSt), J G yX12_canBuy cX12_canBuy 3 (some .boolean) d S0 40 [] [] S (f_X12_canBuy_b40   S) := by
  intro S
  unfold f_X12_canBuy_b40
  refine j_iconst dX12_canBuy_40 ?_
  exact j_zreturn jz0 dX12_canBuy_41
def f_X12_canBuy_b66 (x0 : Int) (S : jSt) : Option (Int × jSt) :=
  some (x0, S)
theorem p_f_X12_canBuy_b66 {G : jG} {d : Nat} {S0 : jSt} (hd0 : 3 ≤ d) : ∀ (x0 : Int) (S : jSt), ((x0) = 0 ∨ (x0) = 1) → J G yX12_canBuy cX12_canBuy 3 (some .boolean) d S0 66 [] [(0, x0)] S (f_X12_canBuy_b66  x0 S) := by
  intro x0 S h0
  unfold f_X12_canBuy_b66
  exact j_zreturn h0 dX12_canBuy_66
def f_X12_canBuy (a0 : Int) (a1 : Int) (a2 : Int) (S : jSt) : Option (Int × jSt) :=
  fcallv S a0 12 (f_X12_isLot a0 a1 S) (fun v1 S2 => if v1 = 0 then f_X12_canBuy_b40 S2 else fcallv S2 a0 12 (f_X12_get a0 a1 1 S2) (fun v3 S4 => if v3 < 3 then f_X12_canBuy_b40 S4 else fcall (f_X12_isIn a2 0 999 S4) (fun v5 S6 => if v5 = 0 then f_X12_canBuy_b40 S6 else fgetr S6 a0 12 0 (fun v7 => fald S6 v7 8 1 (fun v8 => if a2 ≤ v8 then fcallv S6 a0 12 (f_X12_get a0 a1 1 S6) (fun v9 S10 => fcallv S10 a0 12 (f_X12_own a0 (w32 (v9 - 3)) (w32 (1 + a1)) S10) (fun v11 S12 => if a2 < v11 then f_X12_canBuy_b66 0 S12 else f_X12_canBuy_b66 1 S12)) else f_X12_canBuy_b40 S6)))))
theorem e_X12_canBuy {G : jG} {d : Nat} {S0 : jSt} (hd0 : 3 ≤ d) (a0 : Int) (a1 : Int) (a2 : Int) (S : jSt) (h0 : 0 ≤ (a0)) (h1 : R32 (a1)) (h2 : R32 (a2)) : J G yX12_canBuy cX12_canBuy 3 (some .boolean) d S0 0 [(0, 2, a0), (1, 0, a1), (2, 0, a2)] [] S (f_X12_canBuy a0 a1 a2 S) := by
  unfold f_X12_canBuy
  refine j_aload_n 0 dX12_canBuy_0 rfl rfl ?_
  refine j_iload_n 1 dX12_canBuy_1 rfl rfl ?_
  refine j_callV (ci := 12) (As := [(0, a1)]) (st := []) kc_X12_isLot (c_X12_isLot a0 a1 S h0 h1) rfl lm_X12_64 ki_X12_isLot ke_X12_isLot rfl (Nat.le_of_ble_eq_true rfl) (Nat.le_trans (m := 3) (Nat.le_of_ble_eq_true rfl) hd0) dX12_canBuy_2 (fun (v1 : Int) (S2 : jSt) (hv1 : (v1) = 0 ∨ (v1) = 1) => ?_)
  refine j_if_eq (tgt := 40) (jZ_R hv1) dX12_canBuy_5 rfl (fun _ => ?_) (fun _ => ?_)
  · refine j_sub [] rfl ?_
    exact p_f_X12_canBuy_b40 hd0 S2
  · refine j_aload_n 0 dX12_canBuy_8 rfl rfl ?_
    refine j_iload_n 1 dX12_canBuy_9 rfl rfl ?_
    refine j_iconst dX12_canBuy_10 ?_
    refine j_callV (ci := 12) (As := [(0, a1), (0, 1)]) (st := []) kc_X12_get (c_X12_get a0 a1 1 S2 h0 h1 (jZ_R jz1)) rfl lm_X12_68 ki_X12_get ke_X12_get rfl (Nat.le_of_ble_eq_true rfl) (Nat.le_trans (m := 3) (Nat.le_of_ble_eq_true rfl) hd0) dX12_canBuy_11 (fun (v3 : Int) (S4 : jSt) (hv3 : R32 (v3)) => ?_)
    refine j_iconst dX12_canBuy_14 ?_
    refine j_icmp_lt (tgt := 40) hv3 (j_r32 3 rfl) dX12_canBuy_15 rfl (fun _ => ?_) (fun _ => ?_)
    · refine j_sub [] rfl ?_
      exact p_f_X12_canBuy_b40 hd0 S4
    · refine j_iload_n 2 dX12_canBuy_18 rfl rfl ?_
      refine j_iconst dX12_canBuy_19 ?_
      refine j_sipush dX12_canBuy_20 (by decide) ?_
      refine j_callS (As := [(0, a2), (0, 0), (0, 999)]) (st := []) kc_X12_isIn (c_X12_isIn a2 0 999 S4 h2 (jZ_R jz0) (j_r32 999 rfl)) lm_X12_60 ks_X12_isIn rfl (Nat.le_of_ble_eq_true rfl) (Nat.le_trans (m := 3) (Nat.le_of_ble_eq_true rfl) hd0) dX12_canBuy_23 (fun (v5 : Int) (S6 : jSt) (hv5 : (v5) = 0 ∨ (v5) = 1) => ?_)
      refine j_if_eq (tgt := 40) (jZ_R hv5) dX12_canBuy_26 rfl (fun _ => ?_) (fun _ => ?_)
      · refine j_sub [] rfl ?_
        exact p_f_X12_canBuy_b40 hd0 S6
      · refine j_iload_n 2 dX12_canBuy_29 rfl rfl ?_
        refine j_aload_n 0 dX12_canBuy_30 rfl rfl ?_
        refine j_getr (ci := 12) (k := 0) rfl in_X12 (Nat.le_of_ble_eq_true rfl) rfl rfl fl_X12_7 dX12_canBuy_31 (fun (v7 : Int) (hv7 : 0 ≤ v7) => ?_)
        refine j_bipush dX12_canBuy_34 (by decide) ?_
        refine j_iaload (j_r32 8 rfl) dX12_canBuy_36 (fun (v8 : Int) (hv8 : R32 (v8)) => ?_)
        refine j_icmp_le (tgt := 42) h2 hv8 dX12_canBuy_37 rfl (fun _ => ?_) (fun _ => ?_)
        · refine j_iload_n 2 dX12_canBuy_42 rfl rfl ?_
          refine j_aload_n 0 dX12_canBuy_43 rfl rfl ?_
          refine j_aload_n 0 dX12_canBuy_44 rfl rfl ?_
          refine j_iload_n 1 dX12_canBuy_45 rfl rfl ?_
          refine j_iconst dX12_canBuy_46 ?_
          refine j_callV (ci := 12) (As := [(0, a1), (0, 1)]) (st := [(2, a0), (0, a2)]) kc_X12_get (c_X12_get a0 a1 1 S6 h0 h1 (jZ_R jz1)) rfl lm_X12_68 ki_X12_get ke_X12_get rfl (Nat.le_of_ble_eq_true rfl) (Nat.le_trans (m := 3) (Nat.le_of_ble_eq_true rfl) hd0) dX12_canBuy_47 (fun (v9 : Int) (S10 : jSt) (hv9 : R32 (v9)) => ?_)
          refine j_iconst dX12_canBuy_50 ?_
          refine j_isub dX12_canBuy_51 ?_
          refine j_iconst dX12_canBuy_52 ?_
          refine j_iload_n 1 dX12_canBuy_53 rfl rfl ?_
          refine j_iadd dX12_canBuy_54 ?_
          refine j_callV (ci := 12) (As := [(0, w32 (v9 - 3)), (0, w32 (1 + a1))]) (st := [(0, a2)]) kc_X12_own (c_X12_own a0 (w32 (v9 - 3)) (w32 (1 + a1)) S10 h0 (w32_R _) (w32_R _)) rfl lm_X12_299 ki_X12_own ke_X12_own rfl (Nat.le_of_ble_eq_true rfl) (Nat.le_trans (m := 3) (Nat.le_of_ble_eq_true rfl) hd0) dX12_canBuy_55 (fun (v11 : Int) (S12 : jSt) (hv11 : R32 (v11)) => ?_)
          refine j_icmp_lt (tgt := 65) h2 hv11 dX12_canBuy_58 rfl (fun _ => ?_) (fun _ => ?_)
          · refine j_iconst dX12_canBuy_65 ?_
            refine j_sub [] rfl ?_
            exact p_f_X12_canBuy_b66 hd0 0 S12 jz0
          · refine j_iconst dX12_canBuy_61 ?_
            refine j_goto (tgt := 66) dX12_canBuy_62 rfl ?_
            refine j_sub [] rfl ?_
            exact p_f_X12_canBuy_b66 hd0 1 S12 jz1
        · refine j_sub [] rfl ?_
          exact p_f_X12_canBuy_b40 hd0 S6
theorem c_X12_canBuy {G : jG} (a0 : Int) (a1 : Int) (a2 : Int) (S : jSt) (h0 : 0 ≤ (a0)) (h1 : R32 (a1)) (h2 : R32 (a2)) : CT G yX12_canBuy cX12_canBuy 3 (some .boolean) 3 ([(2, a0), (0, a1), (0, a2)].map jval) S (f_X12_canBuy a0 a1 a2 S) := ct_of [(2, a0), (0, a1), (0, a2)] (by decide) rfl (Nat.le_of_ble_eq_true rfl) (e_X12_canBuy (Nat.le_refl _) a0 a1 a2 S h0 h1 h2)
-- X12_buy
def f_X12_buy (a0 : Int) (a1 : Int) (a2 : Int) (S : jSt) : Option (Int × jSt) :=
  fcallv S a0 12 (f_X12_canBuy a0 a1 a2 S) (fun v1 S2 => if v1 = 0 then some (0, S2) else fcallv S2 a0 12 (f_X12_keep a0 S2) (fun v3 S4 => fcallv S4 a0 12 (f_X12_buyNow a0 a1 a2 S4) (fun v5 S6 => some (1, S6))))
theorem e_X12_buy {G : jG} {d : Nat} {S0 : jSt} (hd0 : 4 ≤ d) (a0 : Int) (a1 : Int) (a2 : Int) (S : jSt) (h0 : 0 ≤ (a0)) (h1 : R32 (a1)) (h2 : R32 (a2)) : J G yX12_buy cX12_buy 3 (some .boolean) d S0 0 [(0, 2, a0), (1, 0, a1), (2, 0, a2)] [] S (f_X12_buy a0 a1 a2 S) := by
  unfold f_X12_buy
  refine j_aload_n 0 dX12_buy_0 rfl rfl ?_
  refine j_iload_n 1 dX12_buy_1 rfl rfl ?_
  refine j_iload_n 2 dX12_buy_2 rfl rfl ?_
  refine j_callV (ci := 12) (As := [(0, a1), (0, a2)]) (st := []) kc_X12_canBuy (c_X12_canBuy a0 a1 a2 S h0 h1 h2) rfl lm_X12_367 ki_X12_canBuy ke_X12_canBuy rfl (Nat.le_of_ble_eq_true rfl) (Nat.le_trans (m := 4) (Nat.le_of_ble_eq_true rfl) hd0) dX12_buy_3 (fun (v1 : Int) (S2 : jSt) (hv1 : (v1) = 0 ∨ (v1) = 1) => ?_)
  refine j_if_ne (tgt := 11) (jZ_R hv1) dX12_buy_6 rfl (fun _ => ?_) (fun _ => ?_)
  · refine j_aload_n 0 dX12_buy_11 rfl rfl ?_
    refine j_callV (ci := 12) (As := []) (st := []) kc_X12_keep (c_X12_keep a0 S2 h0) rfl lm_X12_358 ki_X12_keep ke_X12_keep rfl (Nat.le_of_ble_eq_true rfl) (Nat.le_trans (m := 4) (Nat.le_of_ble_eq_true rfl) hd0) dX12_buy_12 (fun v3 S4 _ => ?_)
    refine j_aload_n 0 dX12_buy_15 rfl rfl ?_
    refine j_iload_n 1 dX12_buy_16 rfl rfl ?_
    refine j_iload_n 2 dX12_buy_17 rfl rfl ?_
    refine j_callV (ci := 12) (As := [(0, a1), (0, a2)]) (st := []) kc_X12_buyNow (c_X12_buyNow a0 a1 a2 S4 h0 h1 h2) rfl lm_X12_370 ki_X12_buyNow ke_X12_buyNow rfl (Nat.le_of_ble_eq_true rfl) (Nat.le_trans (m := 4) (Nat.le_of_ble_eq_true rfl) hd0) dX12_buy_18 (fun v5 S6 _ => ?_)
    refine j_iconst dX12_buy_21 ?_
    exact j_zreturn jz1 dX12_buy_22
  · refine j_iconst dX12_buy_9 ?_
    exact j_zreturn jz0 dX12_buy_10
theorem c_X12_buy {G : jG} (a0 : Int) (a1 : Int) (a2 : Int) (S : jSt) (h0 : 0 ≤ (a0)) (h1 : R32 (a1)) (h2 : R32 (a2)) : CT G yX12_buy cX12_buy 3 (some .boolean) 4 ([(2, a0), (0, a1), (0, a2)].map jval) S (f_X12_buy a0 a1 a2 S) := ct_of [(2, a0), (0, a1), (0, a2)] (by decide) rfl (Nat.le_of_ble_eq_true rfl) (e_X12_buy (Nat.le_refl _) a0 a1 a2 S h0 h1 h2)
-- X12_by
def f_X12_by (a0 : Int) (a1 : Int) (S : jSt) : Option (Int × jSt) :=
  fgetr S a0 12 0 (fun v1 => fald S v1 2 1 (fun v2 => fcall (f_X12_isIn a1 (-1) (w32 (v2 - 1)) S) (fun v3 S4 => if v3 = 0 then some (0, S4) else fgetr S4 a0 12 0 (fun v5 => fast S4 v5 3 1 a1 (fun S6 => some (1, S6))))))
theorem e_X12_by {G : jG} {d : Nat} {S0 : jSt} (hd0 : 2 ≤ d) (a0 : Int) (a1 : Int) (S : jSt) (h0 : 0 ≤ (a0)) (h1 : R32 (a1)) : J G yX12_by cX12_by 2 (some .boolean) d S0 0 [(0, 2, a0), (1, 0, a1)] [] S (f_X12_by a0 a1 S) := by
  unfold f_X12_by
  refine j_iload_n 1 dX12_by_0 rfl rfl ?_
  refine j_iconst dX12_by_1 ?_
  refine j_aload_n 0 dX12_by_2 rfl rfl ?_
  refine j_getr (ci := 12) (k := 0) rfl in_X12 (Nat.le_of_ble_eq_true rfl) rfl rfl fl_X12_7 dX12_by_3 (fun (v1 : Int) (hv1 : 0 ≤ v1) => ?_)
  refine j_iconst dX12_by_6 ?_
  refine j_iaload (j_r32 2 rfl) dX12_by_7 (fun (v2 : Int) (hv2 : R32 (v2)) => ?_)
  refine j_iconst dX12_by_8 ?_
  refine j_isub dX12_by_9 ?_
  refine j_callS (As := [(0, a1), (0, (-1)), (0, w32 (v2 - 1))]) (st := []) kc_X12_isIn (c_X12_isIn a1 (-1) (w32 (v2 - 1)) S h1 (j_r32 (-1) rfl) (w32_R _)) lm_X12_60 ks_X12_isIn rfl (Nat.le_of_ble_eq_true rfl) (Nat.le_trans (m := 2) (Nat.le_of_ble_eq_true rfl) hd0) dX12_by_10 (fun (v3 : Int) (S4 : jSt) (hv3 : (v3) = 0 ∨ (v3) = 1) => ?_)
  refine j_if_ne (tgt := 18) (jZ_R hv3) dX12_by_13 rfl (fun _ => ?_) (fun _ => ?_)
  · refine j_aload_n 0 dX12_by_18 rfl rfl ?_
    refine j_getr (ci := 12) (k := 0) rfl in_X12 (Nat.le_of_ble_eq_true rfl) rfl rfl fl_X12_7 dX12_by_19 (fun (v5 : Int) (hv5 : 0 ≤ v5) => ?_)
    refine j_iconst dX12_by_22 ?_
    refine j_iload_n 1 dX12_by_23 rfl rfl ?_
    refine j_iastore (j_r32 3 rfl) h1 dX12_by_24 (fun S6 => ?_)
    refine j_iconst dX12_by_25 ?_
    exact j_zreturn jz1 dX12_by_26
  · refine j_iconst dX12_by_16 ?_
    exact j_zreturn jz0 dX12_by_17
theorem c_X12_by {G : jG} (a0 : Int) (a1 : Int) (S : jSt) (h0 : 0 ≤ (a0)) (h1 : R32 (a1)) : CT G yX12_by cX12_by 2 (some .boolean) 2 ([(2, a0), (0, a1)].map jval) S (f_X12_by a0 a1 S) := ct_of [(2, a0), (0, a1)] (by decide) rfl (Nat.le_of_ble_eq_true rfl) (e_X12_by (Nat.le_refl _) a0 a1 S h0 h1)
-- X12_canCarry
def f_X12_canCarry_b36 (x0 : Int) (S : jSt) : Option (Int × jSt) :=
  some (x0, S)
theorem p_f_X12_canCarry_b36 {G : jG} {d : Nat} {S0 : jSt} (hd0 : 4 ≤ d) : ∀ (x0 : Int) (S : jSt), ((x0) = 0 ∨ (x0) = 1) → J G yX12_canCarry cX12_canCarry 2 (some .boolean) d S0 36 [] [(0, x0)] S (f_X12_canCarry_b36  x0 S) := by
  intro x0 S h0
  unfold f_X12_canCarry_b36
  exact j_zreturn h0 dX12_canCarry_36
def f_X12_canCarry_b35 (S : jSt) : Option (Int × jSt) :=
  f_X12_canCarry_b36 0 S
theorem p_f_X12_canCarry_b35 {G : jG} {d : Nat} {S0 : jSt} (hd0 : 4 ≤ d) : ∀ (S : jSt), J G yX12_canCarry cX12_canCarry 2 (some .boolean) d S0 35 [] [] S (f_X12_canCarry_b35   S) := by
  intro S
  unfold f_X12_canCarry_b35
  refine j_iconst dX12_canCarry_35 ?_
  exact p_f_X12_canCarry_b36 hd0 0 S jz0
def f_X12_canCarry (a0 : Int) (a1 : Int) (S : jSt) : Option (Int × jSt) :=
  fcallv S a0 12 (f_X12_isInHouse a0 a1 S) (fun v1 S2 => if v1 = 0 then f_X12_canCarry_b35 S2 else fcallv S2 a0 12 (f_X12_get a0 a1 0 S2) (fun v3 S4 => fcallv S4 a0 12 (f_X12_saleFloor a0 S4) (fun v5 S6 => if v5 < v3 then f_X12_canCarry_b35 S6 else fcallv S6 a0 12 (f_X12_get a0 a1 0 S6) (fun v7 S8 => if 5 ≤ v7 then f_X12_canCarry_b35 S8 else f_X12_canCarry_b36 1 S8))))
theorem e_X12_canCarry {G : jG} {d : Nat} {S0 : jSt} (hd0 : 4 ≤ d) (a0 : Int) (a1 : Int) (S : jSt) (h0 : 0 ≤ (a0)) (h1 : R32 (a1)) : J G yX12_canCarry cX12_canCarry 2 (some .boolean) d S0 0 [(0, 2, a0), (1, 0, a1)] [] S (f_X12_canCarry a0 a1 S) := by
  unfold f_X12_canCarry
  refine j_aload_n 0 dX12_canCarry_0 rfl rfl ?_
  refine j_iload_n 1 dX12_canCarry_1 rfl rfl ?_
  refine j_callV (ci := 12) (As := [(0, a1)]) (st := []) kc_X12_isInHouse (c_X12_isInHouse a0 a1 S h0 h1) rfl lm_X12_337 ki_X12_isInHouse ke_X12_isInHouse rfl (Nat.le_of_ble_eq_true rfl) (Nat.le_trans (m := 4) (Nat.le_of_ble_eq_true rfl) hd0) dX12_canCarry_2 (fun (v1 : Int) (S2 : jSt) (hv1 : (v1) = 0 ∨ (v1) = 1) => ?_)
  refine j_if_eq (tgt := 35) (jZ_R hv1) dX12_canCarry_5 rfl (fun _ => ?_) (fun _ => ?_)
  · refine j_sub [] rfl ?_
    exact p_f_X12_canCarry_b35 hd0 S2
  · refine j_aload_n 0 dX12_canCarry_8 rfl rfl ?_
    refine j_iload_n 1 dX12_canCarry_9 rfl rfl ?_
    refine j_iconst dX12_canCarry_10 ?_
    refine j_callV (ci := 12) (As := [(0, a1), (0, 0)]) (st := []) kc_X12_get (c_X12_get a0 a1 0 S2 h0 h1 (jZ_R jz0)) rfl lm_X12_68 ki_X12_get ke_X12_get rfl (Nat.le_of_ble_eq_true rfl) (Nat.le_trans (m := 4) (Nat.le_of_ble_eq_true rfl) hd0) dX12_canCarry_11 (fun (v3 : Int) (S4 : jSt) (hv3 : R32 (v3)) => ?_)
    refine j_aload_n 0 dX12_canCarry_14 rfl rfl ?_
    refine j_callV (ci := 12) (As := []) (st := [(0, v3)]) kc_X12_saleFloor (c_X12_saleFloor a0 S4 h0) rfl lm_X12_349 ki_X12_saleFloor ke_X12_saleFloor rfl (Nat.le_of_ble_eq_true rfl) (Nat.le_trans (m := 4) (Nat.le_of_ble_eq_true rfl) hd0) dX12_canCarry_15 (fun (v5 : Int) (S6 : jSt) (hv5 : R32 (v5)) => ?_)
    refine j_icmp_gt (tgt := 35) hv3 hv5 dX12_canCarry_18 rfl (fun _ => ?_) (fun _ => ?_)
    · refine j_sub [] rfl ?_
      exact p_f_X12_canCarry_b35 hd0 S6
    · refine j_aload_n 0 dX12_canCarry_21 rfl rfl ?_
      refine j_iload_n 1 dX12_canCarry_22 rfl rfl ?_
      refine j_iconst dX12_canCarry_23 ?_
      refine j_callV (ci := 12) (As := [(0, a1), (0, 0)]) (st := []) kc_X12_get (c_X12_get a0 a1 0 S6 h0 h1 (jZ_R jz0)) rfl lm_X12_68 ki_X12_get ke_X12_get rfl (Nat.le_of_ble_eq_true rfl) (Nat.le_trans (m := 4) (Nat.le_of_ble_eq_true rfl) hd0) dX12_canCarry_24 (fun (v7 : Int) (S8 : jSt) (hv7 : R32 (v7)) => ?_)
      refine j_iconst dX12_canCarry_27 ?_
      refine j_icmp_ge (tgt := 35) hv7 (j_r32 5 rfl) dX12_canCarry_28 rfl (fun _ => ?_) (fun _ => ?_)
      · refine j_sub [] rfl ?_
        exact p_f_X12_canCarry_b35 hd0 S8
      · refine j_iconst dX12_canCarry_31 ?_
        refine j_goto (tgt := 36) dX12_canCarry_32 rfl ?_
        refine j_sub [] rfl ?_
        exact p_f_X12_canCarry_b36 hd0 1 S8 jz1
theorem c_X12_canCarry {G : jG} (a0 : Int) (a1 : Int) (S : jSt) (h0 : 0 ≤ (a0)) (h1 : R32 (a1)) : CT G yX12_canCarry cX12_canCarry 2 (some .boolean) 4 ([(2, a0), (0, a1)].map jval) S (f_X12_canCarry a0 a1 S) := ct_of [(2, a0), (0, a1)] (by decide) rfl (Nat.le_of_ble_eq_true rfl) (e_X12_canCarry (Nat.le_refl _) a0 a1 S h0 h1)
-- X12_canKeep
def f_X12_canKeep_b64 (r2 : Int → Int → Int → Int → jSt → Option (Int × jSt)) (r19 : Int → Int → Int → Int → Int → Int → jSt → Option (Int × jSt)) (x0 : Int) (x1 : Int) (x2 : Int) (x3 : Int) (x4 : Int) (x5 : Int) (x6 : Int) (S : jSt) : Option (Int × jSt) :=
  flet (w32 (x5 + x6)) (fun v8 => flet (w32 (x4 + 1)) (fun v9 => r19 x0 x1 x2 x3 v8 v9 S))
theorem p_f_X12_canKeep_b64 {G : jG} {d : Nat} {S0 : jSt} (hd0 : 2 ≤ d) {r2 : Int → Int → Int → Int → jSt → Option (Int × jSt)} (k2 : ∀ (x0 : Int) (x1 : Int) (x2 : Int) (x3 : Int) (S : jSt), (0 ≤ (x0)) → (R32 (x1)) → (R32 (x2)) → (R32 (x3)) → J G yX12_canKeep cX12_canKeep 6 (some .boolean) d S0 2 [(0, 2, x0), (1, 0, x1), (2, 0, x2), (3, 0, x3)] [] S (r2 x0 x1 x2 x3 S)) {r19 : Int → Int → Int → Int → Int → Int → jSt → Option (Int × jSt)} (k19 : ∀ (x0 : Int) (x1 : Int) (x2 : Int) (x3 : Int) (x4 : Int) (x5 : Int) (S : jSt), (0 ≤ (x0)) → (R32 (x1)) → (R32 (x2)) → (R32 (x3)) → (R32 (x4)) → (R32 (x5)) → J G yX12_canKeep cX12_canKeep 6 (some .boolean) d S0 19 [(0, 2, x0), (1, 0, x1), (2, 0, x2), (3, 0, x3), (4, 0, x4), (5, 0, x5)] [] S (r19 x0 x1 x2 x3 x4 x5 S)) : ∀ (x0 : Int) (x1 : Int) (x2 : Int) (x3 : Int) (x4 : Int) (x5 : Int) (x6 : Int) (S : jSt), (0 ≤ (x0)) → (R32 (x1)) → (R32 (x2)) → (R32 (x3)) → (R32 (x4)) → (R32 (x5)) → ((x6) = 0 ∨ (x6) = 1) → J G yX12_canKeep cX12_canKeep 6 (some .boolean) d S0 64 [(0, 2, x0), (1, 0, x1), (2, 0, x2), (3, 0, x3), (5, 0, x4)] [(0, x6), (0, x5)] S (f_X12_canKeep_b64 r2 r19 x0 x1 x2 x3 x4 x5 x6 S) := by
  intro x0 x1 x2 x3 x4 x5 x6 S h0 h1 h2 h3 h4 h5 h6
  unfold f_X12_canKeep_b64
  refine j_iadd dX12_canKeep_64 ?_
  refine j_leti (w32_R _) (fun v8 hv8 => ?_)
  refine j_istore (lv' := [(4, 0, v8), (0, 2, x0), (1, 0, x1), (2, 0, x2), (3, 0, x3), (5, 0, x4)]) dX12_canKeep_65 (Nat.le_of_ble_eq_true rfl) rfl ?_
  refine j_iincL (q := 5) dX12_canKeep_67 rfl (Nat.le_of_ble_eq_true rfl) (fun v9 hv9 => ?_)
  refine j_lv (lv' := [(5, 0, v9), (4, 0, v8), (0, 2, x0), (1, 0, x1), (2, 0, x2), (3, 0, x3)]) rfl ?_
  refine j_goto (tgt := 19) dX12_canKeep_70 rfl ?_
  refine j_sub [2, 3, 4, 5, 1, 0] rfl ?_
  exact k19 x0 x1 x2 x3 v8 v9 S h0 h1 h2 h3 hv8 hv9
def f_X12_canKeep_b63 (r2 : Int → Int → Int → Int → jSt → Option (Int × jSt)) (r19 : Int → Int → Int → Int → Int → Int → jSt → Option (Int × jSt)) (x0 : Int) (x1 : Int) (x2 : Int) (x3 : Int) (x4 : Int) (x5 : Int) (S : jSt) : Option (Int × jSt) :=
  f_X12_canKeep_b64 r2 r19 x0 x1 x2 x3 x4 x5 0 S
theorem p_f_X12_canKeep_b63 {G : jG} {d : Nat} {S0 : jSt} (hd0 : 2 ≤ d) {r2 : Int → Int → Int → Int → jSt → Option (Int × jSt)} (k2 : ∀ (x0 : Int) (x1 : Int) (x2 : Int) (x3 : Int) (S : jSt), (0 ≤ (x0)) → (R32 (x1)) → (R32 (x2)) → (R32 (x3)) → J G yX12_canKeep cX12_canKeep 6 (some .boolean) d S0 2 [(0, 2, x0), (1, 0, x1), (2, 0, x2), (3, 0, x3)] [] S (r2 x0 x1 x2 x3 S)) {r19 : Int → Int → Int → Int → Int → Int → jSt → Option (Int × jSt)} (k19 : ∀ (x0 : Int) (x1 : Int) (x2 : Int) (x3 : Int) (x4 : Int) (x5 : Int) (S : jSt), (0 ≤ (x0)) → (R32 (x1)) → (R32 (x2)) → (R32 (x3)) → (R32 (x4)) → (R32 (x5)) → J G yX12_canKeep cX12_canKeep 6 (some .boolean) d S0 19 [(0, 2, x0), (1, 0, x1), (2, 0, x2), (3, 0, x3), (4, 0, x4), (5, 0, x5)] [] S (r19 x0 x1 x2 x3 x4 x5 S)) : ∀ (x0 : Int) (x1 : Int) (x2 : Int) (x3 : Int) (x4 : Int) (x5 : Int) (S : jSt), (0 ≤ (x0)) → (R32 (x1)) → (R32 (x2)) → (R32 (x3)) → (R32 (x4)) → (R32 (x5)) → J G yX12_canKeep cX12_canKeep 6 (some .boolean) d S0 63 [(0, 2, x0), (1, 0, x1), (2, 0, x2), (3, 0, x3), (5, 0, x4)] [(0, x5)] S (f_X12_canKeep_b63 r2 r19 x0 x1 x2 x3 x4 x5 S) := by
  intro x0 x1 x2 x3 x4 x5 S h0 h1 h2 h3 h4 h5
  unfold f_X12_canKeep_b63
  refine j_iconst dX12_canKeep_63 ?_
  exact p_f_X12_canKeep_b64 hd0 k2 k19 x0 x1 x2 x3 x4 x5 0 S h0 h1 h2 h3 h4 h5 jz0
def f_X12_canKeep_b19B (r2 : Int → Int → Int → Int → jSt → Option (Int × jSt)) (r19 : Int → Int → Int → Int → Int → Int → jSt → Option (Int × jSt)) (x0 : Int) (x1 : Int) (x2 : Int) (x3 : Int) (x4 : Int) (x5 : Int) (S : jSt) : Option (Int × jSt) :=
  fgetr S x0 12 0 (fun v3 => fald S v3 0 1 (fun v4 => if v4 ≤ x5 then if x4 ≤ (w32 (x2 * x3)) then flet (w32 (x3 + 1)) (fun v5 => r2 x0 x1 x2 v5 S) else some (0, S) else fcall (f_X12_has x1 x5 S) (fun v6 S7 => if v6 = 0 then f_X12_canKeep_b63 r2 r19 x0 x1 x2 x3 x5 x4 S7 else fcallv S7 x0 12 (f_X12_get x0 x5 0 S7) (fun v10 S11 => fcallv S11 x0 12 (f_X12_saleFloor x0 S11) (fun v12 S13 => if x3 < (w32 ((w32 (v10 - v12)) + 1)) then f_X12_canKeep_b63 r2 r19 x0 x1 x2 x3 x5 x4 S13 else f_X12_canKeep_b64 r2 r19 x0 x1 x2 x3 x5 x4 1 S13)))))
theorem p_f_X12_canKeep_b19B {G : jG} {d : Nat} {S0 : jSt} (hd0 : 2 ≤ d) {r2 : Int → Int → Int → Int → jSt → Option (Int × jSt)} (k2 : ∀ (x0 : Int) (x1 : Int) (x2 : Int) (x3 : Int) (S : jSt), (0 ≤ (x0)) → (R32 (x1)) → (R32 (x2)) → (R32 (x3)) → J G yX12_canKeep cX12_canKeep 6 (some .boolean) d S0 2 [(0, 2, x0), (1, 0, x1), (2, 0, x2), (3, 0, x3)] [] S (r2 x0 x1 x2 x3 S)) {r19 : Int → Int → Int → Int → Int → Int → jSt → Option (Int × jSt)} (k19 : ∀ (x0 : Int) (x1 : Int) (x2 : Int) (x3 : Int) (x4 : Int) (x5 : Int) (S : jSt), (0 ≤ (x0)) → (R32 (x1)) → (R32 (x2)) → (R32 (x3)) → (R32 (x4)) → (R32 (x5)) → J G yX12_canKeep cX12_canKeep 6 (some .boolean) d S0 19 [(0, 2, x0), (1, 0, x1), (2, 0, x2), (3, 0, x3), (4, 0, x4), (5, 0, x5)] [] S (r19 x0 x1 x2 x3 x4 x5 S)) : ∀ (x0 : Int) (x1 : Int) (x2 : Int) (x3 : Int) (x4 : Int) (x5 : Int) (S : jSt), (0 ≤ (x0)) → (R32 (x1)) → (R32 (x2)) → (R32 (x3)) → (R32 (x4)) → (R32 (x5)) → J G yX12_canKeep cX12_canKeep 6 (some .boolean) d S0 19 [(0, 2, x0), (1, 0, x1), (2, 0, x2), (3, 0, x3), (4, 0, x4), (5, 0, x5)] [] S (f_X12_canKeep_b19B r2 r19 x0 x1 x2 x3 x4 x5 S) := by
  intro x0 x1 x2 x3 x4 x5 S h0 h1 h2 h3 h4 h5
  unfold f_X12_canKeep_b19B
  refine j_iload 5 dX12_canKeep_19 rfl ?_
  refine j_aload_n 0 dX12_canKeep_21 rfl rfl ?_
  refine j_getr (ci := 12) (k := 0) rfl in_X12 (Nat.le_of_ble_eq_true rfl) rfl rfl fl_X12_7 dX12_canKeep_22 (fun (v3 : Int) (hv3 : 0 ≤ v3) => ?_)
  refine j_iconst dX12_canKeep_25 ?_
  refine j_iaload (jZ_R jz0) dX12_canKeep_26 (fun (v4 : Int) (hv4 : R32 (v4)) => ?_)
  refine j_icmp_ge (tgt := 73) h5 hv4 dX12_canKeep_27 rfl (fun _ => ?_) (fun _ => ?_)
  · refine j_iload 4 dX12_canKeep_73 rfl ?_
    refine j_iload_n 2 dX12_canKeep_75 rfl rfl ?_
    refine j_iload_n 3 dX12_canKeep_76 rfl rfl ?_
    refine j_imul dX12_canKeep_77 ?_
    refine j_icmp_le (tgt := 83) h4 (w32_R _) dX12_canKeep_78 rfl (fun _ => ?_) (fun _ => ?_)
    · refine j_iincL (q := 3) dX12_canKeep_83 rfl (Nat.le_of_ble_eq_true rfl) (fun v5 hv5 => ?_)
      refine j_lv (lv' := [(3, 0, v5), (0, 2, x0), (1, 0, x1), (2, 0, x2), (4, 0, x4), (5, 0, x5)]) rfl ?_
      refine j_goto (tgt := 2) dX12_canKeep_86 rfl ?_
      refine j_sub [1, 2, 3, 0] rfl ?_
      exact k2 x0 x1 x2 v5 S h0 h1 h2 hv5
    · refine j_iconst dX12_canKeep_81 ?_
      exact j_zreturn jz0 dX12_canKeep_82
  · refine j_iload 4 dX12_canKeep_30 rfl ?_
    refine j_iload_n 1 dX12_canKeep_32 rfl rfl ?_
    refine j_iload 5 dX12_canKeep_33 rfl ?_
    refine j_callS (As := [(0, x1), (0, x5)]) (st := [(0, x4)]) kc_X12_has (c_X12_has x1 x5 S h1 h5) lm_X12_249 ks_X12_has rfl (Nat.le_of_ble_eq_true rfl) (Nat.le_trans (m := 2) (Nat.le_of_ble_eq_true rfl) hd0) dX12_canKeep_35 (fun (v6 : Int) (S7 : jSt) (hv6 : (v6) = 0 ∨ (v6) = 1) => ?_)
    refine j_if_eq (tgt := 63) (jZ_R hv6) dX12_canKeep_38 rfl (fun _ => ?_) (fun _ => ?_)
    · refine j_sub [0, 1, 2, 3, 5] rfl ?_
      exact p_f_X12_canKeep_b63 hd0 k2 k19 x0 x1 x2 x3 x5 x4 S7 h0 h1 h2 h3 h5 h4
    · refine j_aload_n 0 dX12_canKeep_41 rfl rfl ?_
      refine j_iload 5 dX12_canKeep_42 rfl ?_
      refine j_iconst dX12_canKeep_44 ?_
      refine j_callV (ci := 12) (As := [(0, x5), (0, 0)]) (st := [(0, x4)]) kc_X12_get (c_X12_get x0 x5 0 S7 h0 h5 (jZ_R jz0)) rfl lm_X12_68 ki_X12_get ke_X12_get rfl (Nat.le_of_ble_eq_true rfl) (Nat.le_trans (m := 2) (Nat.le_of_ble_eq_true rfl) hd0) dX12_canKeep_45 (fun (v10 : Int) (S11 : jSt) (hv10 : R32 (v10)) => ?_)
      refine j_aload_n 0 dX12_canKeep_48 rfl rfl ?_
      refine j_callV (ci := 12) (As := []) (st := [(0, v10), (0, x4)]) kc_X12_saleFloor (c_X12_saleFloor x0 S11 h0) rfl lm_X12_349 ki_X12_saleFloor ke_X12_saleFloor rfl (Nat.le_of_ble_eq_true rfl) (Nat.le_trans (m := 2) (Nat.le_of_ble_eq_true rfl) hd0) dX12_canKeep_49 (fun (v12 : Int) (S13 : jSt) (hv12 : R32 (v12)) => ?_)
      refine j_isub dX12_canKeep_52 ?_
      refine j_iconst dX12_canKeep_53 ?_
      refine j_iadd dX12_canKeep_54 ?_
      refine j_iload_n 3 dX12_canKeep_55 rfl rfl ?_
      refine j_icmp_gt (tgt := 63) (w32_R _) h3 dX12_canKeep_56 rfl (fun _ => ?_) (fun _ => ?_)
      · refine j_sub [0, 1, 2, 3, 5] rfl ?_
        exact p_f_X12_canKeep_b63 hd0 k2 k19 x0 x1 x2 x3 x5 x4 S13 h0 h1 h2 h3 h5 h4
      · refine j_iconst dX12_canKeep_59 ?_
        refine j_goto (tgt := 64) dX12_canKeep_60 rfl ?_
        refine j_sub [0, 1, 2, 3, 5] rfl ?_
        exact p_f_X12_canKeep_b64 hd0 k2 k19 x0 x1 x2 x3 x5 x4 1 S13 h0 h1 h2 h3 h5 h4 jz1
def f_X12_canKeep_b19 (r2 : Int → Int → Int → Int → jSt → Option (Int × jSt)) : Int → Int → Int → Int → Int → Int → jSt → Option (Int × jSt) := jrep (β := Int → Int → Int → Int → Int → Int → jSt → Option (Int × jSt)) (fun _ _ _ _ _ _ _ => none) (fun r => f_X12_canKeep_b19B r2 r) jN
theorem p_f_X12_canKeep_b19 {G : jG} {d : Nat} {S0 : jSt} (hd0 : 2 ≤ d) {r2 : Int → Int → Int → Int → jSt → Option (Int × jSt)} (k2 : ∀ (x0 : Int) (x1 : Int) (x2 : Int) (x3 : Int) (S : jSt), (0 ≤ (x0)) → (R32 (x1)) → (R32 (x2)) → (R32 (x3)) → J G yX12_canKeep cX12_canKeep 6 (some .boolean) d S0 2 [(0, 2, x0), (1, 0, x1), (2, 0, x2), (3, 0, x3)] [] S (r2 x0 x1 x2 x3 S)) : ∀ (x0 : Int) (x1 : Int) (x2 : Int) (x3 : Int) (x4 : Int) (x5 : Int) (S : jSt), (0 ≤ (x0)) → (R32 (x1)) → (R32 (x2)) → (R32 (x3)) → (R32 (x4)) → (R32 (x5)) → J G yX12_canKeep cX12_canKeep 6 (some .boolean) d S0 19 [(0, 2, x0), (1, 0, x1), (2, 0, x2), (3, 0, x3), (4, 0, x4), (5, 0, x5)] [] S (f_X12_canKeep_b19 r2 x0 x1 x2 x3 x4 x5 S) :=
  jrep_ind (P := fun (r : Int → Int → Int → Int → Int → Int → jSt → Option (Int × jSt)) => ∀ (x0 : Int) (x1 : Int) (x2 : Int) (x3 : Int) (x4 : Int) (x5 : Int) (S : jSt), (0 ≤ (x0)) → (R32 (x1)) → (R32 (x2)) → (R32 (x3)) → (R32 (x4)) → (R32 (x5)) → J G yX12_canKeep cX12_canKeep 6 (some .boolean) d S0 19 [(0, 2, x0), (1, 0, x1), (2, 0, x2), (3, 0, x3), (4, 0, x4), (5, 0, x5)] [] S (r x0 x1 x2 x3 x4 x5 S)) (by intros; exact j_none) (fun r k => p_f_X12_canKeep_b19B hd0 k2 k) jN
def f_X12_canKeep_b2B (r2 : Int → Int → Int → Int → jSt → Option (Int × jSt)) (x0 : Int) (x1 : Int) (x2 : Int) (x3 : Int) (S : jSt) : Option (Int × jSt) :=
  fcallv S x0 12 (f_X12_saleFloor x0 S) (fun v1 S2 => if (w32 (6 - v1)) < x3 then some (1, S2) else f_X12_canKeep_b19 r2 x0 x1 x2 x3 0 0 S2)
theorem p_f_X12_canKeep_b2B {G : jG} {d : Nat} {S0 : jSt} (hd0 : 2 ≤ d) {r2 : Int → Int → Int → Int → jSt → Option (Int × jSt)} (k2 : ∀ (x0 : Int) (x1 : Int) (x2 : Int) (x3 : Int) (S : jSt), (0 ≤ (x0)) → (R32 (x1)) → (R32 (x2)) → (R32 (x3)) → J G yX12_canKeep cX12_canKeep 6 (some .boolean) d S0 2 [(0, 2, x0), (1, 0, x1), (2, 0, x2), (3, 0, x3)] [] S (r2 x0 x1 x2 x3 S)) : ∀ (x0 : Int) (x1 : Int) (x2 : Int) (x3 : Int) (S : jSt), (0 ≤ (x0)) → (R32 (x1)) → (R32 (x2)) → (R32 (x3)) → J G yX12_canKeep cX12_canKeep 6 (some .boolean) d S0 2 [(0, 2, x0), (1, 0, x1), (2, 0, x2), (3, 0, x3)] [] S (f_X12_canKeep_b2B r2 x0 x1 x2 x3 S) := by
  intro x0 x1 x2 x3 S h0 h1 h2 h3
  unfold f_X12_canKeep_b2B
  refine j_iload_n 3 dX12_canKeep_2 rfl rfl ?_
  refine j_bipush dX12_canKeep_3 (by decide) ?_
  refine j_aload_n 0 dX12_canKeep_5 rfl rfl ?_
  refine j_callV (ci := 12) (As := []) (st := [(0, 6), (0, x3)]) kc_X12_saleFloor (c_X12_saleFloor x0 S h0) rfl lm_X12_349 ki_X12_saleFloor ke_X12_saleFloor rfl (Nat.le_of_ble_eq_true rfl) (Nat.le_trans (m := 2) (Nat.le_of_ble_eq_true rfl) hd0) dX12_canKeep_6 (fun (v1 : Int) (S2 : jSt) (hv1 : R32 (v1)) => ?_)
  refine j_isub dX12_canKeep_9 ?_
  refine j_icmp_gt (tgt := 89) h3 (w32_R _) dX12_canKeep_10 rfl (fun _ => ?_) (fun _ => ?_)
  · refine j_iconst dX12_canKeep_89 ?_
    exact j_zreturn jz1 dX12_canKeep_90
  · refine j_iconst dX12_canKeep_13 ?_
    refine j_istore (lv' := [(4, 0, 0), (0, 2, x0), (1, 0, x1), (2, 0, x2), (3, 0, x3)]) dX12_canKeep_14 (Nat.le_of_ble_eq_true rfl) rfl ?_
    refine j_iconst dX12_canKeep_16 ?_
    refine j_istore (lv' := [(5, 0, 0), (4, 0, 0), (0, 2, x0), (1, 0, x1), (2, 0, x2), (3, 0, x3)]) dX12_canKeep_17 (Nat.le_of_ble_eq_true rfl) rfl ?_
    refine j_sub [2, 3, 4, 5, 1, 0] rfl ?_
    exact p_f_X12_canKeep_b19 hd0 k2 x0 x1 x2 x3 0 0 S2 h0 h1 h2 h3 (jZ_R jz0) (jZ_R jz0)
def f_X12_canKeep_b2 : Int → Int → Int → Int → jSt → Option (Int × jSt) := jrep (β := Int → Int → Int → Int → jSt → Option (Int × jSt)) (fun _ _ _ _ _ => none) (fun r => f_X12_canKeep_b2B r) jN
theorem p_f_X12_canKeep_b2 {G : jG} {d : Nat} {S0 : jSt} (hd0 : 2 ≤ d) : ∀ (x0 : Int) (x1 : Int) (x2 : Int) (x3 : Int) (S : jSt), (0 ≤ (x0)) → (R32 (x1)) → (R32 (x2)) → (R32 (x3)) → J G yX12_canKeep cX12_canKeep 6 (some .boolean) d S0 2 [(0, 2, x0), (1, 0, x1), (2, 0, x2), (3, 0, x3)] [] S (f_X12_canKeep_b2  x0 x1 x2 x3 S) :=
  jrep_ind (P := fun (r : Int → Int → Int → Int → jSt → Option (Int × jSt)) => ∀ (x0 : Int) (x1 : Int) (x2 : Int) (x3 : Int) (S : jSt), (0 ≤ (x0)) → (R32 (x1)) → (R32 (x2)) → (R32 (x3)) → J G yX12_canKeep cX12_canKeep 6 (some .boolean) d S0 2 [(0, 2, x0), (1, 0, x1), (2, 0, x2), (3, 0, x3)] [] S (r x0 x1 x2 x3 S)) (by intros; exact j_none) (fun r k => p_f_X12_canKeep_b2B hd0 k) jN
def f_X12_canKeep (a0 : Int) (a1 : Int) (a2 : Int) (S : jSt) : Option (Int × jSt) :=
  f_X12_canKeep_b2 a0 a1 a2 1 S
theorem e_X12_canKeep {G : jG} {d : Nat} {S0 : jSt} (hd0 : 2 ≤ d) (a0 : Int) (a1 : Int) (a2 : Int) (S : jSt) (h0 : 0 ≤ (a0)) (h1 : R32 (a1)) (h2 : R32 (a2)) : J G yX12_canKeep cX12_canKeep 6 (some .boolean) d S0 0 [(0, 2, a0), (1, 0, a1), (2, 0, a2)] [] S (f_X12_canKeep a0 a1 a2 S) := by
  unfold f_X12_canKeep
  refine j_iconst dX12_canKeep_0 ?_
  refine j_istore_n (lv' := [(3, 0, 1), (0, 2, a0), (1, 0, a1), (2, 0, a2)]) dX12_canKeep_1 rfl (Nat.le_of_ble_eq_true rfl) rfl ?_
  refine j_sub [1, 2, 3, 0] rfl ?_
  exact p_f_X12_canKeep_b2 hd0 a0 a1 a2 1 S h0 h1 h2 (jZ_R jz1)
theorem c_X12_canKeep {G : jG} (a0 : Int) (a1 : Int) (a2 : Int) (S : jSt) (h0 : 0 ≤ (a0)) (h1 : R32 (a1)) (h2 : R32 (a2)) : CT G yX12_canKeep cX12_canKeep 6 (some .boolean) 2 ([(2, a0), (0, a1), (0, a2)].map jval) S (f_X12_canKeep a0 a1 a2 S) := ct_of [(2, a0), (0, a1), (0, a2)] (by decide) rfl (Nat.le_of_ble_eq_true rfl) (e_X12_canKeep (Nat.le_refl _) a0 a1 a2 S h0 h1 h2)
-- X12_canSell
def f_X12_canSell_b22 (x0 : Int) (S : jSt) : Option (Int × jSt) :=
  some (x0, S)
theorem p_f_X12_canSell_b22 {G : jG} {d : Nat} {S0 : jSt} (hd0 : 4 ≤ d) : ∀ (x0 : Int) (S : jSt), ((x0) = 0 ∨ (x0) = 1) → J G yX12_canSell cX12_canSell 2 (some .boolean) d S0 22 [] [(0, x0)] S (f_X12_canSell_b22  x0 S) := by
  intro x0 S h0
  unfold f_X12_canSell_b22
  exact j_zreturn h0 dX12_canSell_22
def f_X12_canSell_b21 (S : jSt) : Option (Int × jSt) :=
  f_X12_canSell_b22 0 S
theorem p_f_X12_canSell_b21 {G : jG} {d : Nat} {S0 : jSt} (hd0 : 4 ≤ d) : ∀ (S : jSt), J G yX12_canSell cX12_canSell 2 (some .boolean) d S0 21 [] [] S (f_X12_canSell_b21   S) := by
  intro S
  unfold f_X12_canSell_b21
  refine j_iconst dX12_canSell_21 ?_
  exact p_f_X12_canSell_b22 hd0 0 S jz0
def f_X12_canSell (a0 : Int) (a1 : Int) (S : jSt) : Option (Int × jSt) :=
  fcallv S a0 12 (f_X12_isInHouse a0 a1 S) (fun v1 S2 => if v1 = 0 then f_X12_canSell_b21 S2 else fgetr S2 a0 12 0 (fun v3 => fald S2 v3 1 1 (fun v4 => if v4 ≤ 0 then f_X12_canSell_b21 S2 else f_X12_canSell_b22 1 S2)))
theorem e_X12_canSell {G : jG} {d : Nat} {S0 : jSt} (hd0 : 4 ≤ d) (a0 : Int) (a1 : Int) (S : jSt) (h0 : 0 ≤ (a0)) (h1 : R32 (a1)) : J G yX12_canSell cX12_canSell 2 (some .boolean) d S0 0 [(0, 2, a0), (1, 0, a1)] [] S (f_X12_canSell a0 a1 S) := by
  unfold f_X12_canSell
  refine j_aload_n 0 dX12_canSell_0 rfl rfl ?_
  refine j_iload_n 1 dX12_canSell_1 rfl rfl ?_
  refine j_callV (ci := 12) (As := [(0, a1)]) (st := []) kc_X12_isInHouse (c_X12_isInHouse a0 a1 S h0 h1) rfl lm_X12_337 ki_X12_isInHouse ke_X12_isInHouse rfl (Nat.le_of_ble_eq_true rfl) (Nat.le_trans (m := 4) (Nat.le_of_ble_eq_true rfl) hd0) dX12_canSell_2 (fun (v1 : Int) (S2 : jSt) (hv1 : (v1) = 0 ∨ (v1) = 1) => ?_)
  refine j_if_eq (tgt := 21) (jZ_R hv1) dX12_canSell_5 rfl (fun _ => ?_) (fun _ => ?_)
  · refine j_sub [] rfl ?_
    exact p_f_X12_canSell_b21 hd0 S2
  · refine j_aload_n 0 dX12_canSell_8 rfl rfl ?_
    refine j_getr (ci := 12) (k := 0) rfl in_X12 (Nat.le_of_ble_eq_true rfl) rfl rfl fl_X12_7 dX12_canSell_9 (fun (v3 : Int) (hv3 : 0 ≤ v3) => ?_)
    refine j_iconst dX12_canSell_12 ?_
    refine j_iaload (jZ_R jz1) dX12_canSell_13 (fun (v4 : Int) (hv4 : R32 (v4)) => ?_)
    refine j_if_le (tgt := 21) hv4 dX12_canSell_14 rfl (fun _ => ?_) (fun _ => ?_)
    · refine j_sub [] rfl ?_
      exact p_f_X12_canSell_b21 hd0 S2
    · refine j_iconst dX12_canSell_17 ?_
      refine j_goto (tgt := 22) dX12_canSell_18 rfl ?_
      refine j_sub [] rfl ?_
      exact p_f_X12_canSell_b22 hd0 1 S2 jz1
theorem c_X12_canSell {G : jG} (a0 : Int) (a1 : Int) (S : jSt) (h0 : 0 ≤ (a0)) (h1 : R32 (a1)) : CT G yX12_canSell cX12_canSell 2 (some .boolean) 4 ([(2, a0), (0, a1)].map jval) S (f_X12_canSell a0 a1 S) := ct_of [(2, a0), (0, a1)] (by decide) rfl (Nat.le_of_ble_eq_true rfl) (e_X12_canSell (Nat.le_refl _) a0 a1 S h0 h1)
-- X12_carry
def f_X12_carry (a0 : Int) (a1 : Int) (S : jSt) : Option (Int × jSt) :=
  fcallv S a0 12 (f_X12_canCarry a0 a1 S) (fun v1 S2 => if v1 = 0 then some (0, S2) else fcallv S2 a0 12 (f_X12_keep a0 S2) (fun v3 S4 => fcallv S4 a0 12 (f_X12_get a0 a1 0 S4) (fun v5 S6 => fcallv S6 a0 12 (f_X12_put a0 a1 0 (w32 (v5 + 1)) S6) (fun v7 S8 => some (1, S8)))))
theorem e_X12_carry {G : jG} {d : Nat} {S0 : jSt} (hd0 : 5 ≤ d) (a0 : Int) (a1 : Int) (S : jSt) (h0 : 0 ≤ (a0)) (h1 : R32 (a1)) : J G yX12_carry cX12_carry 2 (some .boolean) d S0 0 [(0, 2, a0), (1, 0, a1)] [] S (f_X12_carry a0 a1 S) := by
  unfold f_X12_carry
  refine j_aload_n 0 dX12_carry_0 rfl rfl ?_
  refine j_iload_n 1 dX12_carry_1 rfl rfl ?_
  refine j_callV (ci := 12) (As := [(0, a1)]) (st := []) kc_X12_canCarry (c_X12_canCarry a0 a1 S h0 h1) rfl lm_X12_361 ki_X12_canCarry ke_X12_canCarry rfl (Nat.le_of_ble_eq_true rfl) (Nat.le_trans (m := 5) (Nat.le_of_ble_eq_true rfl) hd0) dX12_carry_2 (fun (v1 : Int) (S2 : jSt) (hv1 : (v1) = 0 ∨ (v1) = 1) => ?_)
  refine j_if_ne (tgt := 10) (jZ_R hv1) dX12_carry_5 rfl (fun _ => ?_) (fun _ => ?_)
  · refine j_aload_n 0 dX12_carry_10 rfl rfl ?_
    refine j_callV (ci := 12) (As := []) (st := []) kc_X12_keep (c_X12_keep a0 S2 h0) rfl lm_X12_358 ki_X12_keep ke_X12_keep rfl (Nat.le_of_ble_eq_true rfl) (Nat.le_trans (m := 5) (Nat.le_of_ble_eq_true rfl) hd0) dX12_carry_11 (fun v3 S4 _ => ?_)
    refine j_aload_n 0 dX12_carry_14 rfl rfl ?_
    refine j_iload_n 1 dX12_carry_15 rfl rfl ?_
    refine j_iconst dX12_carry_16 ?_
    refine j_aload_n 0 dX12_carry_17 rfl rfl ?_
    refine j_iload_n 1 dX12_carry_18 rfl rfl ?_
    refine j_iconst dX12_carry_19 ?_
    refine j_callV (ci := 12) (As := [(0, a1), (0, 0)]) (st := [(0, 0), (0, a1), (2, a0)]) kc_X12_get (c_X12_get a0 a1 0 S4 h0 h1 (jZ_R jz0)) rfl lm_X12_68 ki_X12_get ke_X12_get rfl (Nat.le_of_ble_eq_true rfl) (Nat.le_trans (m := 5) (Nat.le_of_ble_eq_true rfl) hd0) dX12_carry_20 (fun (v5 : Int) (S6 : jSt) (hv5 : R32 (v5)) => ?_)
    refine j_iconst dX12_carry_23 ?_
    refine j_iadd dX12_carry_24 ?_
    refine j_callV (ci := 12) (As := [(0, a1), (0, 0), (0, w32 (v5 + 1))]) (st := []) kc_X12_put (c_X12_put a0 a1 0 (w32 (v5 + 1)) S6 h0 h1 (jZ_R jz0) (w32_R _)) rfl lm_X12_75 ki_X12_put ke_X12_put rfl (Nat.le_of_ble_eq_true rfl) (Nat.le_trans (m := 5) (Nat.le_of_ble_eq_true rfl) hd0) dX12_carry_25 (fun v7 S8 _ => ?_)
    refine j_iconst dX12_carry_28 ?_
    exact j_zreturn jz1 dX12_carry_29
  · refine j_iconst dX12_carry_8 ?_
    exact j_zreturn jz0 dX12_carry_9
theorem c_X12_carry {G : jG} (a0 : Int) (a1 : Int) (S : jSt) (h0 : 0 ≤ (a0)) (h1 : R32 (a1)) : CT G yX12_carry cX12_carry 2 (some .boolean) 5 ([(2, a0), (0, a1)].map jval) S (f_X12_carry a0 a1 S) := ct_of [(2, a0), (0, a1)] (by decide) rfl (Nat.le_of_ble_eq_true rfl) (e_X12_carry (Nat.le_refl _) a0 a1 S h0 h1)
-- X12_isReserve
def f_X12_isReserve_b130 (x0 : Int) (S : jSt) : Option (Int × jSt) :=
  some (x0, S)
theorem p_f_X12_isReserve_b130 {G : jG} {d : Nat} {S0 : jSt} (hd0 : 4 ≤ d) : ∀ (x0 : Int) (S : jSt), ((x0) = 0 ∨ (x0) = 1) → J G yX12_isReserve cX12_isReserve 1 (some .boolean) d S0 130 [] [(0, x0)] S (f_X12_isReserve_b130  x0 S) := by
  intro x0 S h0
  unfold f_X12_isReserve_b130
  exact j_zreturn h0 dX12_isReserve_130
def f_X12_isReserve_b129 (S : jSt) : Option (Int × jSt) :=
  f_X12_isReserve_b130 0 S
theorem p_f_X12_isReserve_b129 {G : jG} {d : Nat} {S0 : jSt} (hd0 : 4 ≤ d) : ∀ (S : jSt), J G yX12_isReserve cX12_isReserve 1 (some .boolean) d S0 129 [] [] S (f_X12_isReserve_b129   S) := by
  intro S
  unfold f_X12_isReserve_b129
  refine j_iconst dX12_isReserve_129 ?_
  exact p_f_X12_isReserve_b130 hd0 0 S jz0
def f_X12_isReserve (a0 : Int) (S : jSt) : Option (Int × jSt) :=
  fget S a0 12 9 (fun v1 => if v1 = 2 then fget S a0 12 7 (fun v2 => fget S a0 12 8 (fun v3 => if (w32 (v2 - v3)) = 7 then fget S a0 12 8 (fun v4 => fcallv S a0 12 (f_X12_byteAt a0 v4 S) (fun v5 S6 => fget S6 a0 12 8 (fun v7 => fcallv S6 a0 12 (f_X12_byteAt a0 (w32 (v7 + 1)) S6) (fun v8 S9 => fget S9 a0 12 8 (fun v10 => fcallv S9 a0 12 (f_X12_byteAt a0 (w32 (v10 + 2)) S9) (fun v11 S12 => fget S12 a0 12 8 (fun v13 => fcallv S12 a0 12 (f_X12_byteAt a0 (w32 (v13 + 3)) S12) (fun v14 S15 => fcall (f_X12_w4 v5 v8 v11 v14 S15) (fun v16 S17 => fcall (f_X12_w4 114 101 115 101 S17) (fun v18 S19 => if v16 = v18 then fget S19 a0 12 8 (fun v20 => fcallv S19 a0 12 (f_X12_byteAt a0 (w32 (v20 + 4)) S19) (fun v21 S22 => fget S22 a0 12 8 (fun v23 => fcallv S22 a0 12 (f_X12_byteAt a0 (w32 (v23 + 5)) S22) (fun v24 S25 => fget S25 a0 12 8 (fun v26 => fcallv S25 a0 12 (f_X12_byteAt a0 (w32 (v26 + 6)) S25) (fun v27 S28 => fcall (f_X12_w3 v21 v24 v27 S28) (fun v29 S30 => fcall (f_X12_w3 114 118 101 S30) (fun v31 S32 => if v29 = v31 then f_X12_isReserve_b130 1 S32 else f_X12_isReserve_b129 S32)))))))) else f_X12_isReserve_b129 S19)))))))))) else f_X12_isReserve_b129 S)) else f_X12_isReserve_b129 S)
theorem e_X12_isReserve {G : jG} {d : Nat} {S0 : jSt} (hd0 : 4 ≤ d) (a0 : Int) (S : jSt) (h0 : 0 ≤ (a0)) : J G yX12_isReserve cX12_isReserve 1 (some .boolean) d S0 0 [(0, 2, a0)] [] S (f_X12_isReserve a0 S) := by
  unfold f_X12_isReserve
  refine j_aload_n 0 dX12_isReserve_0 rfl rfl ?_
  refine j_get (ci := 12) (k := 9) (t := 0) rfl in_X12 (Nat.le_of_ble_eq_true rfl) rfl rfl fl_X12_102 dX12_isReserve_1 (fun (v1 : Int) (hv1 : R32 (v1)) => ?_)
  refine j_iconst dX12_isReserve_4 ?_
  refine j_icmp_ne (tgt := 129) hv1 (j_r32 2 rfl) dX12_isReserve_5 rfl (fun _ => ?_) (fun _ => ?_)
  · refine j_sub [] rfl ?_
    exact p_f_X12_isReserve_b129 hd0 S
  · refine j_aload_n 0 dX12_isReserve_8 rfl rfl ?_
    refine j_get (ci := 12) (k := 7) (t := 0) rfl in_X12 (Nat.le_of_ble_eq_true rfl) rfl rfl fl_X12_92 dX12_isReserve_9 (fun (v2 : Int) (hv2 : R32 (v2)) => ?_)
    refine j_aload_n 0 dX12_isReserve_12 rfl rfl ?_
    refine j_get (ci := 12) (k := 8) (t := 0) rfl in_X12 (Nat.le_of_ble_eq_true rfl) rfl rfl fl_X12_99 dX12_isReserve_13 (fun (v3 : Int) (hv3 : R32 (v3)) => ?_)
    refine j_isub dX12_isReserve_16 ?_
    refine j_bipush dX12_isReserve_17 (by decide) ?_
    refine j_icmp_ne (tgt := 129) (w32_R _) (j_r32 7 rfl) dX12_isReserve_19 rfl (fun _ => ?_) (fun _ => ?_)
    · refine j_sub [] rfl ?_
      exact p_f_X12_isReserve_b129 hd0 S
    · refine j_aload_n 0 dX12_isReserve_22 rfl rfl ?_
      refine j_aload_n 0 dX12_isReserve_23 rfl rfl ?_
      refine j_get (ci := 12) (k := 8) (t := 0) rfl in_X12 (Nat.le_of_ble_eq_true rfl) rfl rfl fl_X12_99 dX12_isReserve_24 (fun (v4 : Int) (hv4 : R32 (v4)) => ?_)
      refine j_callV (ci := 12) (As := [(0, v4)]) (st := []) kc_X12_byteAt (c_X12_byteAt a0 v4 S h0 hv4) rfl lm_X12_95 ki_X12_byteAt ke_X12_byteAt rfl (Nat.le_of_ble_eq_true rfl) (Nat.le_trans (m := 4) (Nat.le_of_ble_eq_true rfl) hd0) dX12_isReserve_27 (fun (v5 : Int) (S6 : jSt) (hv5 : R32 (v5)) => ?_)
      refine j_aload_n 0 dX12_isReserve_30 rfl rfl ?_
      refine j_aload_n 0 dX12_isReserve_31 rfl rfl ?_
      refine j_get (ci := 12) (k := 8) (t := 0) rfl in_X12 (Nat.le_of_ble_eq_true rfl) rfl rfl fl_X12_99 dX12_isReserve_32 (fun (v7 : Int) (hv7 : R32 (v7)) => ?_)
      refine j_iconst dX12_isReserve_35 ?_
      refine j_iadd dX12_isReserve_36 ?_
      refine j_callV (ci := 12) (As := [(0, w32 (v7 + 1))]) (st := [(0, v5)]) kc_X12_byteAt (c_X12_byteAt a0 (w32 (v7 + 1)) S6 h0 (w32_R _)) rfl lm_X12_95 ki_X12_byteAt ke_X12_byteAt rfl (Nat.le_of_ble_eq_true rfl) (Nat.le_trans (m := 4) (Nat.le_of_ble_eq_true rfl) hd0) dX12_isReserve_37 (fun (v8 : Int) (S9 : jSt) (hv8 : R32 (v8)) => ?_)
      refine j_aload_n 0 dX12_isReserve_40 rfl rfl ?_
      refine j_aload_n 0 dX12_isReserve_41 rfl rfl ?_
      refine j_get (ci := 12) (k := 8) (t := 0) rfl in_X12 (Nat.le_of_ble_eq_true rfl) rfl rfl fl_X12_99 dX12_isReserve_42 (fun (v10 : Int) (hv10 : R32 (v10)) => ?_)
      refine j_iconst dX12_isReserve_45 ?_
      refine j_iadd dX12_isReserve_46 ?_
      refine j_callV (ci := 12) (As := [(0, w32 (v10 + 2))]) (st := [(0, v8), (0, v5)]) kc_X12_byteAt (c_X12_byteAt a0 (w32 (v10 + 2)) S9 h0 (w32_R _)) rfl lm_X12_95 ki_X12_byteAt ke_X12_byteAt rfl (Nat.le_of_ble_eq_true rfl) (Nat.le_trans (m := 4) (Nat.le_of_ble_eq_true rfl) hd0) dX12_isReserve_47 (fun (v11 : Int) (S12 : jSt) (hv11 : R32 (v11)) => ?_)
      refine j_aload_n 0 dX12_isReserve_50 rfl rfl ?_
      refine j_aload_n 0 dX12_isReserve_51 rfl rfl ?_
      refine j_get (ci := 12) (k := 8) (t := 0) rfl in_X12 (Nat.le_of_ble_eq_true rfl) rfl rfl fl_X12_99 dX12_isReserve_52 (fun (v13 : Int) (hv13 : R32 (v13)) => ?_)
      refine j_iconst dX12_isReserve_55 ?_
      refine j_iadd dX12_isReserve_56 ?_
      refine j_callV (ci := 12) (As := [(0, w32 (v13 + 3))]) (st := [(0, v11), (0, v8), (0, v5)]) kc_X12_byteAt (c_X12_byteAt a0 (w32 (v13 + 3)) S12 h0 (w32_R _)) rfl lm_X12_95 ki_X12_byteAt ke_X12_byteAt rfl (Nat.le_of_ble_eq_true rfl) (Nat.le_trans (m := 4) (Nat.le_of_ble_eq_true rfl) hd0) dX12_isReserve_57 (fun (v14 : Int) (S15 : jSt) (hv14 : R32 (v14)) => ?_)
      refine j_callS (As := [(0, v5), (0, v8), (0, v11), (0, v14)]) (st := []) kc_X12_w4 (c_X12_w4 v5 v8 v11 v14 S15 hv5 hv8 hv11 hv14) lm_X12_132 ks_X12_w4 rfl (Nat.le_of_ble_eq_true rfl) (Nat.le_trans (m := 4) (Nat.le_of_ble_eq_true rfl) hd0) dX12_isReserve_60 (fun (v16 : Int) (S17 : jSt) (hv16 : R64 (v16)) => ?_)
      refine j_bipush dX12_isReserve_63 (by decide) ?_
      refine j_bipush dX12_isReserve_65 (by decide) ?_
      refine j_bipush dX12_isReserve_67 (by decide) ?_
      refine j_bipush dX12_isReserve_69 (by decide) ?_
      refine j_callS (As := [(0, 114), (0, 101), (0, 115), (0, 101)]) (st := [(1, v16)]) kc_X12_w4 (c_X12_w4 114 101 115 101 S17 (j_r32 114 rfl) (j_r32 101 rfl) (j_r32 115 rfl) (j_r32 101 rfl)) lm_X12_132 ks_X12_w4 rfl (Nat.le_of_ble_eq_true rfl) (Nat.le_trans (m := 4) (Nat.le_of_ble_eq_true rfl) hd0) dX12_isReserve_71 (fun (v18 : Int) (S19 : jSt) (hv18 : R64 (v18)) => ?_)
      refine j_lcmp_ne (tgt := 129) hv16 hv18 dX12_isReserve_74 dX12_isReserve_75 rfl (fun _ => ?_) (fun _ => ?_)
      · refine j_sub [] rfl ?_
        exact p_f_X12_isReserve_b129 hd0 S19
      · refine j_aload_n 0 dX12_isReserve_78 rfl rfl ?_
        refine j_aload_n 0 dX12_isReserve_79 rfl rfl ?_
        refine j_get (ci := 12) (k := 8) (t := 0) rfl in_X12 (Nat.le_of_ble_eq_true rfl) rfl rfl fl_X12_99 dX12_isReserve_80 (fun (v20 : Int) (hv20 : R32 (v20)) => ?_)
        refine j_iconst dX12_isReserve_83 ?_
        refine j_iadd dX12_isReserve_84 ?_
        refine j_callV (ci := 12) (As := [(0, w32 (v20 + 4))]) (st := []) kc_X12_byteAt (c_X12_byteAt a0 (w32 (v20 + 4)) S19 h0 (w32_R _)) rfl lm_X12_95 ki_X12_byteAt ke_X12_byteAt rfl (Nat.le_of_ble_eq_true rfl) (Nat.le_trans (m := 4) (Nat.le_of_ble_eq_true rfl) hd0) dX12_isReserve_85 (fun (v21 : Int) (S22 : jSt) (hv21 : R32 (v21)) => ?_)
        refine j_aload_n 0 dX12_isReserve_88 rfl rfl ?_
        refine j_aload_n 0 dX12_isReserve_89 rfl rfl ?_
        refine j_get (ci := 12) (k := 8) (t := 0) rfl in_X12 (Nat.le_of_ble_eq_true rfl) rfl rfl fl_X12_99 dX12_isReserve_90 (fun (v23 : Int) (hv23 : R32 (v23)) => ?_)
        refine j_iconst dX12_isReserve_93 ?_
        refine j_iadd dX12_isReserve_94 ?_
        refine j_callV (ci := 12) (As := [(0, w32 (v23 + 5))]) (st := [(0, v21)]) kc_X12_byteAt (c_X12_byteAt a0 (w32 (v23 + 5)) S22 h0 (w32_R _)) rfl lm_X12_95 ki_X12_byteAt ke_X12_byteAt rfl (Nat.le_of_ble_eq_true rfl) (Nat.le_trans (m := 4) (Nat.le_of_ble_eq_true rfl) hd0) dX12_isReserve_95 (fun (v24 : Int) (S25 : jSt) (hv24 : R32 (v24)) => ?_)
        refine j_aload_n 0 dX12_isReserve_98 rfl rfl ?_
        refine j_aload_n 0 dX12_isReserve_99 rfl rfl ?_
        refine j_get (ci := 12) (k := 8) (t := 0) rfl in_X12 (Nat.le_of_ble_eq_true rfl) rfl rfl fl_X12_99 dX12_isReserve_100 (fun (v26 : Int) (hv26 : R32 (v26)) => ?_)
        refine j_bipush dX12_isReserve_103 (by decide) ?_
        refine j_iadd dX12_isReserve_105 ?_
        refine j_callV (ci := 12) (As := [(0, w32 (v26 + 6))]) (st := [(0, v24), (0, v21)]) kc_X12_byteAt (c_X12_byteAt a0 (w32 (v26 + 6)) S25 h0 (w32_R _)) rfl lm_X12_95 ki_X12_byteAt ke_X12_byteAt rfl (Nat.le_of_ble_eq_true rfl) (Nat.le_trans (m := 4) (Nat.le_of_ble_eq_true rfl) hd0) dX12_isReserve_106 (fun (v27 : Int) (S28 : jSt) (hv27 : R32 (v27)) => ?_)
        refine j_callS (As := [(0, v21), (0, v24), (0, v27)]) (st := []) kc_X12_w3 (c_X12_w3 v21 v24 v27 S28 hv21 hv24 hv27) lm_X12_128 ks_X12_w3 rfl (Nat.le_of_ble_eq_true rfl) (Nat.le_trans (m := 4) (Nat.le_of_ble_eq_true rfl) hd0) dX12_isReserve_109 (fun (v29 : Int) (S30 : jSt) (hv29 : R64 (v29)) => ?_)
        refine j_bipush dX12_isReserve_112 (by decide) ?_
        refine j_bipush dX12_isReserve_114 (by decide) ?_
        refine j_bipush dX12_isReserve_116 (by decide) ?_
        refine j_callS (As := [(0, 114), (0, 118), (0, 101)]) (st := [(1, v29)]) kc_X12_w3 (c_X12_w3 114 118 101 S30 (j_r32 114 rfl) (j_r32 118 rfl) (j_r32 101 rfl)) lm_X12_128 ks_X12_w3 rfl (Nat.le_of_ble_eq_true rfl) (Nat.le_trans (m := 4) (Nat.le_of_ble_eq_true rfl) hd0) dX12_isReserve_118 (fun (v31 : Int) (S32 : jSt) (hv31 : R64 (v31)) => ?_)
        refine j_lcmp_ne (tgt := 129) hv29 hv31 dX12_isReserve_121 dX12_isReserve_122 rfl (fun _ => ?_) (fun _ => ?_)
        · refine j_sub [] rfl ?_
          exact p_f_X12_isReserve_b129 hd0 S32
        · refine j_iconst dX12_isReserve_125 ?_
          refine j_goto (tgt := 130) dX12_isReserve_126 rfl ?_
          refine j_sub [] rfl ?_
          exact p_f_X12_isReserve_b130 hd0 1 S32 jz1
theorem c_X12_isReserve {G : jG} (a0 : Int) (S : jSt) (h0 : 0 ≤ (a0)) : CT G yX12_isReserve cX12_isReserve 1 (some .boolean) 4 ([(2, a0)].map jval) S (f_X12_isReserve a0 S) := ct_of [(2, a0)] (by decide) rfl (Nat.le_of_ble_eq_true rfl) (e_X12_isReserve (Nat.le_refl _) a0 S h0)
-- X12_sortOf
def f_X12_sortOf_b223 (x0 : Int) (S : jSt) : Option (Int × jSt) :=
  some (x0, S)
theorem p_f_X12_sortOf_b223 {G : jG} {d : Nat} {S0 : jSt} (hd0 : 6 ≤ d) : ∀ (x0 : Int) (S : jSt), (R32 (x0)) → J G yX12_sortOf cX12_sortOf 1 (some .int) d S0 223 [] [(0, x0)] S (f_X12_sortOf_b223  x0 S) := by
  intro x0 S h0
  unfold f_X12_sortOf_b223
  exact j_ireturn h0 dX12_sortOf_223
def f_X12_sortOf (a0 : Int) (S : jSt) : Option (Int × jSt) :=
  fcall (f_X12_w4 98 105 100 115 S) (fun v1 S2 => fcallv S2 a0 12 (f_X12_isWord a0 v1 S2) (fun v3 S4 => if v3 = 0 then fcallv S4 a0 12 (f_X12_isReserve a0 S4) (fun v5 S6 => if v5 = 0 then fcall (f_X12_w5 119 97 114 109 115 S6) (fun v7 S8 => fcallv S8 a0 12 (f_X12_isWord a0 v7 S8) (fun v9 S10 => if v9 = 0 then fcall (f_X12_w3 108 111 116 S10) (fun v11 S12 => fcallv S12 a0 12 (f_X12_isWord a0 v11 S12) (fun v13 S14 => if v13 = 0 then fcall (f_X12_w6 98 105 100 100 101 114 S14) (fun v15 S16 => fcallv S16 a0 12 (f_X12_isWord a0 v15 S16) (fun v17 S18 => if v17 = 0 then fcall (f_X12_w4 119 97 110 116 S18) (fun v19 S20 => fcallv S20 a0 12 (f_X12_isWord a0 v19 S20) (fun v21 S22 => if v21 = 0 then fcall (f_X12_w4 115 101 108 108 S22) (fun v23 S24 => fcallv S24 a0 12 (f_X12_isWord a0 v23 S24) (fun v25 S26 => if v25 = 0 then fcall (f_X12_w5 99 97 114 114 121 S26) (fun v27 S28 => fcallv S28 a0 12 (f_X12_isWord a0 v27 S28) (fun v29 S30 => if v29 = 0 then fcall (f_X12_w4 98 117 114 110 S30) (fun v31 S32 => fcallv S32 a0 12 (f_X12_isWord a0 v31 S32) (fun v33 S34 => if v33 = 0 then fcall (f_X12_w3 98 117 121 S34) (fun v35 S36 => fcallv S36 a0 12 (f_X12_isWord a0 v35 S36) (fun v37 S38 => if v37 = 0 then fcall (f_X12_w4 119 101 101 107 S38) (fun v39 S40 => fcallv S40 a0 12 (f_X12_isWord a0 v39 S40) (fun v41 S42 => if v41 = 0 then f_X12_sortOf_b223 (-1) S42 else f_X12_sortOf_b223 10 S42)) else f_X12_sortOf_b223 9 S38)) else some (8, S34))) else some (7, S30))) else some (6, S26))) else some (5, S22))) else some (4, S18))) else some (3, S14))) else some (2, S10))) else some (1, S6)) else some (0, S4)))
theorem e_X12_sortOf {G : jG} {d : Nat} {S0 : jSt} (hd0 : 6 ≤ d) (a0 : Int) (S : jSt) (h0 : 0 ≤ (a0)) : J G yX12_sortOf cX12_sortOf 1 (some .int) d S0 0 [(0, 2, a0)] [] S (f_X12_sortOf a0 S) := by
  unfold f_X12_sortOf
  refine j_aload_n 0 dX12_sortOf_0 rfl rfl ?_
  refine j_bipush dX12_sortOf_1 (by decide) ?_
  refine j_bipush dX12_sortOf_3 (by decide) ?_
  refine j_bipush dX12_sortOf_5 (by decide) ?_
  refine j_bipush dX12_sortOf_7 (by decide) ?_
  refine j_callS (As := [(0, 98), (0, 105), (0, 100), (0, 115)]) (st := [(2, a0)]) kc_X12_w4 (c_X12_w4 98 105 100 115 S (j_r32 98 rfl) (j_r32 105 rfl) (j_r32 100 rfl) (j_r32 115 rfl)) lm_X12_132 ks_X12_w4 rfl (Nat.le_of_ble_eq_true rfl) (Nat.le_trans (m := 6) (Nat.le_of_ble_eq_true rfl) hd0) dX12_sortOf_9 (fun (v1 : Int) (S2 : jSt) (hv1 : R64 (v1)) => ?_)
  refine j_callV (ci := 12) (As := [(1, v1)]) (st := []) kc_X12_isWord (c_X12_isWord a0 v1 S2 h0 hv1) rfl lm_X12_185 ki_X12_isWord ke_X12_isWord rfl (Nat.le_of_ble_eq_true rfl) (Nat.le_trans (m := 6) (Nat.le_of_ble_eq_true rfl) hd0) dX12_sortOf_12 (fun (v3 : Int) (S4 : jSt) (hv3 : (v3) = 0 ∨ (v3) = 1) => ?_)
  refine j_if_eq (tgt := 20) (jZ_R hv3) dX12_sortOf_15 rfl (fun _ => ?_) (fun _ => ?_)
  · refine j_aload_n 0 dX12_sortOf_20 rfl rfl ?_
    refine j_callV (ci := 12) (As := []) (st := []) kc_X12_isReserve (c_X12_isReserve a0 S4 h0) rfl lm_X12_240 ki_X12_isReserve ke_X12_isReserve rfl (Nat.le_of_ble_eq_true rfl) (Nat.le_trans (m := 6) (Nat.le_of_ble_eq_true rfl) hd0) dX12_sortOf_21 (fun (v5 : Int) (S6 : jSt) (hv5 : (v5) = 0 ∨ (v5) = 1) => ?_)
    refine j_if_eq (tgt := 29) (jZ_R hv5) dX12_sortOf_24 rfl (fun _ => ?_) (fun _ => ?_)
    · refine j_aload_n 0 dX12_sortOf_29 rfl rfl ?_
      refine j_bipush dX12_sortOf_30 (by decide) ?_
      refine j_bipush dX12_sortOf_32 (by decide) ?_
      refine j_bipush dX12_sortOf_34 (by decide) ?_
      refine j_bipush dX12_sortOf_36 (by decide) ?_
      refine j_bipush dX12_sortOf_38 (by decide) ?_
      refine j_callS (As := [(0, 119), (0, 97), (0, 114), (0, 109), (0, 115)]) (st := [(2, a0)]) kc_X12_w5 (c_X12_w5 119 97 114 109 115 S6 (j_r32 119 rfl) (j_r32 97 rfl) (j_r32 114 rfl) (j_r32 109 rfl) (j_r32 115 rfl)) lm_X12_136 ks_X12_w5 rfl (Nat.le_of_ble_eq_true rfl) (Nat.le_trans (m := 6) (Nat.le_of_ble_eq_true rfl) hd0) dX12_sortOf_40 (fun (v7 : Int) (S8 : jSt) (hv7 : R64 (v7)) => ?_)
      refine j_callV (ci := 12) (As := [(1, v7)]) (st := []) kc_X12_isWord (c_X12_isWord a0 v7 S8 h0 hv7) rfl lm_X12_185 ki_X12_isWord ke_X12_isWord rfl (Nat.le_of_ble_eq_true rfl) (Nat.le_trans (m := 6) (Nat.le_of_ble_eq_true rfl) hd0) dX12_sortOf_43 (fun (v9 : Int) (S10 : jSt) (hv9 : (v9) = 0 ∨ (v9) = 1) => ?_)
      refine j_if_eq (tgt := 51) (jZ_R hv9) dX12_sortOf_46 rfl (fun _ => ?_) (fun _ => ?_)
      · refine j_aload_n 0 dX12_sortOf_51 rfl rfl ?_
        refine j_bipush dX12_sortOf_52 (by decide) ?_
        refine j_bipush dX12_sortOf_54 (by decide) ?_
        refine j_bipush dX12_sortOf_56 (by decide) ?_
        refine j_callS (As := [(0, 108), (0, 111), (0, 116)]) (st := [(2, a0)]) kc_X12_w3 (c_X12_w3 108 111 116 S10 (j_r32 108 rfl) (j_r32 111 rfl) (j_r32 116 rfl)) lm_X12_128 ks_X12_w3 rfl (Nat.le_of_ble_eq_true rfl) (Nat.le_trans (m := 6) (Nat.le_of_ble_eq_true rfl) hd0) dX12_sortOf_58 (fun (v11 : Int) (S12 : jSt) (hv11 : R64 (v11)) => ?_)
        refine j_callV (ci := 12) (As := [(1, v11)]) (st := []) kc_X12_isWord (c_X12_isWord a0 v11 S12 h0 hv11) rfl lm_X12_185 ki_X12_isWord ke_X12_isWord rfl (Nat.le_of_ble_eq_true rfl) (Nat.le_trans (m := 6) (Nat.le_of_ble_eq_true rfl) hd0) dX12_sortOf_61 (fun (v13 : Int) (S14 : jSt) (hv13 : (v13) = 0 ∨ (v13) = 1) => ?_)
        refine j_if_eq (tgt := 69) (jZ_R hv13) dX12_sortOf_64 rfl (fun _ => ?_) (fun _ => ?_)
        · refine j_aload_n 0 dX12_sortOf_69 rfl rfl ?_
          refine j_bipush dX12_sortOf_70 (by decide) ?_
          refine j_bipush dX12_sortOf_72 (by decide) ?_
          refine j_bipush dX12_sortOf_74 (by decide) ?_
          refine j_bipush dX12_sortOf_76 (by decide) ?_
          refine j_bipush dX12_sortOf_78 (by decide) ?_
          refine j_bipush dX12_sortOf_80 (by decide) ?_
          refine j_callS (As := [(0, 98), (0, 105), (0, 100), (0, 100), (0, 101), (0, 114)]) (st := [(2, a0)]) kc_X12_w6 (c_X12_w6 98 105 100 100 101 114 S14 (j_r32 98 rfl) (j_r32 105 rfl) (j_r32 100 rfl) (j_r32 100 rfl) (j_r32 101 rfl) (j_r32 114 rfl)) lm_X12_146 ks_X12_w6 rfl (Nat.le_of_ble_eq_true rfl) (Nat.le_trans (m := 6) (Nat.le_of_ble_eq_true rfl) hd0) dX12_sortOf_82 (fun (v15 : Int) (S16 : jSt) (hv15 : R64 (v15)) => ?_)
          refine j_callV (ci := 12) (As := [(1, v15)]) (st := []) kc_X12_isWord (c_X12_isWord a0 v15 S16 h0 hv15) rfl lm_X12_185 ki_X12_isWord ke_X12_isWord rfl (Nat.le_of_ble_eq_true rfl) (Nat.le_trans (m := 6) (Nat.le_of_ble_eq_true rfl) hd0) dX12_sortOf_85 (fun (v17 : Int) (S18 : jSt) (hv17 : (v17) = 0 ∨ (v17) = 1) => ?_)
          refine j_if_eq (tgt := 93) (jZ_R hv17) dX12_sortOf_88 rfl (fun _ => ?_) (fun _ => ?_)
          · refine j_aload_n 0 dX12_sortOf_93 rfl rfl ?_
            refine j_bipush dX12_sortOf_94 (by decide) ?_
            refine j_bipush dX12_sortOf_96 (by decide) ?_
            refine j_bipush dX12_sortOf_98 (by decide) ?_
            refine j_bipush dX12_sortOf_100 (by decide) ?_
            refine j_callS (As := [(0, 119), (0, 97), (0, 110), (0, 116)]) (st := [(2, a0)]) kc_X12_w4 (c_X12_w4 119 97 110 116 S18 (j_r32 119 rfl) (j_r32 97 rfl) (j_r32 110 rfl) (j_r32 116 rfl)) lm_X12_132 ks_X12_w4 rfl (Nat.le_of_ble_eq_true rfl) (Nat.le_trans (m := 6) (Nat.le_of_ble_eq_true rfl) hd0) dX12_sortOf_102 (fun (v19 : Int) (S20 : jSt) (hv19 : R64 (v19)) => ?_)
            refine j_callV (ci := 12) (As := [(1, v19)]) (st := []) kc_X12_isWord (c_X12_isWord a0 v19 S20 h0 hv19) rfl lm_X12_185 ki_X12_isWord ke_X12_isWord rfl (Nat.le_of_ble_eq_true rfl) (Nat.le_trans (m := 6) (Nat.le_of_ble_eq_true rfl) hd0) dX12_sortOf_105 (fun (v21 : Int) (S22 : jSt) (hv21 : (v21) = 0 ∨ (v21) = 1) => ?_)
            refine j_if_eq (tgt := 113) (jZ_R hv21) dX12_sortOf_108 rfl (fun _ => ?_) (fun _ => ?_)
            · refine j_aload_n 0 dX12_sortOf_113 rfl rfl ?_
              refine j_bipush dX12_sortOf_114 (by decide) ?_
              refine j_bipush dX12_sortOf_116 (by decide) ?_
              refine j_bipush dX12_sortOf_118 (by decide) ?_
              refine j_bipush dX12_sortOf_120 (by decide) ?_
              refine j_callS (As := [(0, 115), (0, 101), (0, 108), (0, 108)]) (st := [(2, a0)]) kc_X12_w4 (c_X12_w4 115 101 108 108 S22 (j_r32 115 rfl) (j_r32 101 rfl) (j_r32 108 rfl) (j_r32 108 rfl)) lm_X12_132 ks_X12_w4 rfl (Nat.le_of_ble_eq_true rfl) (Nat.le_trans (m := 6) (Nat.le_of_ble_eq_true rfl) hd0) dX12_sortOf_122 (fun (v23 : Int) (S24 : jSt) (hv23 : R64 (v23)) => ?_)
              refine j_callV (ci := 12) (As := [(1, v23)]) (st := []) kc_X12_isWord (c_X12_isWord a0 v23 S24 h0 hv23) rfl lm_X12_185 ki_X12_isWord ke_X12_isWord rfl (Nat.le_of_ble_eq_true rfl) (Nat.le_trans (m := 6) (Nat.le_of_ble_eq_true rfl) hd0) dX12_sortOf_125 (fun (v25 : Int) (S26 : jSt) (hv25 : (v25) = 0 ∨ (v25) = 1) => ?_)
              refine j_if_eq (tgt := 134) (jZ_R hv25) dX12_sortOf_128 rfl (fun _ => ?_) (fun _ => ?_)
              · refine j_aload_n 0 dX12_sortOf_134 rfl rfl ?_
                refine j_bipush dX12_sortOf_135 (by decide) ?_
                refine j_bipush dX12_sortOf_137 (by decide) ?_
                refine j_bipush dX12_sortOf_139 (by decide) ?_
                refine j_bipush dX12_sortOf_141 (by decide) ?_
                refine j_bipush dX12_sortOf_143 (by decide) ?_
                refine j_callS (As := [(0, 99), (0, 97), (0, 114), (0, 114), (0, 121)]) (st := [(2, a0)]) kc_X12_w5 (c_X12_w5 99 97 114 114 121 S26 (j_r32 99 rfl) (j_r32 97 rfl) (j_r32 114 rfl) (j_r32 114 rfl) (j_r32 121 rfl)) lm_X12_136 ks_X12_w5 rfl (Nat.le_of_ble_eq_true rfl) (Nat.le_trans (m := 6) (Nat.le_of_ble_eq_true rfl) hd0) dX12_sortOf_145 (fun (v27 : Int) (S28 : jSt) (hv27 : R64 (v27)) => ?_)
                refine j_callV (ci := 12) (As := [(1, v27)]) (st := []) kc_X12_isWord (c_X12_isWord a0 v27 S28 h0 hv27) rfl lm_X12_185 ki_X12_isWord ke_X12_isWord rfl (Nat.le_of_ble_eq_true rfl) (Nat.le_trans (m := 6) (Nat.le_of_ble_eq_true rfl) hd0) dX12_sortOf_148 (fun (v29 : Int) (S30 : jSt) (hv29 : (v29) = 0 ∨ (v29) = 1) => ?_)
                refine j_if_eq (tgt := 157) (jZ_R hv29) dX12_sortOf_151 rfl (fun _ => ?_) (fun _ => ?_)
                · refine j_aload_n 0 dX12_sortOf_157 rfl rfl ?_
                  refine j_bipush dX12_sortOf_158 (by decide) ?_
                  refine j_bipush dX12_sortOf_160 (by decide) ?_
                  refine j_bipush dX12_sortOf_162 (by decide) ?_
                  refine j_bipush dX12_sortOf_164 (by decide) ?_
                  refine j_callS (As := [(0, 98), (0, 117), (0, 114), (0, 110)]) (st := [(2, a0)]) kc_X12_w4 (c_X12_w4 98 117 114 110 S30 (j_r32 98 rfl) (j_r32 117 rfl) (j_r32 114 rfl) (j_r32 110 rfl)) lm_X12_132 ks_X12_w4 rfl (Nat.le_of_ble_eq_true rfl) (Nat.le_trans (m := 6) (Nat.le_of_ble_eq_true rfl) hd0) dX12_sortOf_166 (fun (v31 : Int) (S32 : jSt) (hv31 : R64 (v31)) => ?_)
                  refine j_callV (ci := 12) (As := [(1, v31)]) (st := []) kc_X12_isWord (c_X12_isWord a0 v31 S32 h0 hv31) rfl lm_X12_185 ki_X12_isWord ke_X12_isWord rfl (Nat.le_of_ble_eq_true rfl) (Nat.le_trans (m := 6) (Nat.le_of_ble_eq_true rfl) hd0) dX12_sortOf_169 (fun (v33 : Int) (S34 : jSt) (hv33 : (v33) = 0 ∨ (v33) = 1) => ?_)
                  refine j_if_eq (tgt := 178) (jZ_R hv33) dX12_sortOf_172 rfl (fun _ => ?_) (fun _ => ?_)
                  · refine j_aload_n 0 dX12_sortOf_178 rfl rfl ?_
                    refine j_bipush dX12_sortOf_179 (by decide) ?_
                    refine j_bipush dX12_sortOf_181 (by decide) ?_
                    refine j_bipush dX12_sortOf_183 (by decide) ?_
                    refine j_callS (As := [(0, 98), (0, 117), (0, 121)]) (st := [(2, a0)]) kc_X12_w3 (c_X12_w3 98 117 121 S34 (j_r32 98 rfl) (j_r32 117 rfl) (j_r32 121 rfl)) lm_X12_128 ks_X12_w3 rfl (Nat.le_of_ble_eq_true rfl) (Nat.le_trans (m := 6) (Nat.le_of_ble_eq_true rfl) hd0) dX12_sortOf_185 (fun (v35 : Int) (S36 : jSt) (hv35 : R64 (v35)) => ?_)
                    refine j_callV (ci := 12) (As := [(1, v35)]) (st := []) kc_X12_isWord (c_X12_isWord a0 v35 S36 h0 hv35) rfl lm_X12_185 ki_X12_isWord ke_X12_isWord rfl (Nat.le_of_ble_eq_true rfl) (Nat.le_trans (m := 6) (Nat.le_of_ble_eq_true rfl) hd0) dX12_sortOf_188 (fun (v37 : Int) (S38 : jSt) (hv37 : (v37) = 0 ∨ (v37) = 1) => ?_)
                    refine j_if_eq (tgt := 199) (jZ_R hv37) dX12_sortOf_191 rfl (fun _ => ?_) (fun _ => ?_)
                    · refine j_aload_n 0 dX12_sortOf_199 rfl rfl ?_
                      refine j_bipush dX12_sortOf_200 (by decide) ?_
                      refine j_bipush dX12_sortOf_202 (by decide) ?_
                      refine j_bipush dX12_sortOf_204 (by decide) ?_
                      refine j_bipush dX12_sortOf_206 (by decide) ?_
                      refine j_callS (As := [(0, 119), (0, 101), (0, 101), (0, 107)]) (st := [(2, a0)]) kc_X12_w4 (c_X12_w4 119 101 101 107 S38 (j_r32 119 rfl) (j_r32 101 rfl) (j_r32 101 rfl) (j_r32 107 rfl)) lm_X12_132 ks_X12_w4 rfl (Nat.le_of_ble_eq_true rfl) (Nat.le_trans (m := 6) (Nat.le_of_ble_eq_true rfl) hd0) dX12_sortOf_208 (fun (v39 : Int) (S40 : jSt) (hv39 : R64 (v39)) => ?_)
                      refine j_callV (ci := 12) (As := [(1, v39)]) (st := []) kc_X12_isWord (c_X12_isWord a0 v39 S40 h0 hv39) rfl lm_X12_185 ki_X12_isWord ke_X12_isWord rfl (Nat.le_of_ble_eq_true rfl) (Nat.le_trans (m := 6) (Nat.le_of_ble_eq_true rfl) hd0) dX12_sortOf_211 (fun (v41 : Int) (S42 : jSt) (hv41 : (v41) = 0 ∨ (v41) = 1) => ?_)
                      refine j_if_eq (tgt := 222) (jZ_R hv41) dX12_sortOf_214 rfl (fun _ => ?_) (fun _ => ?_)
                      · refine j_iconst dX12_sortOf_222 ?_
                        refine j_sub [] rfl ?_
                        exact p_f_X12_sortOf_b223 hd0 (-1) S42 (j_r32 (-1) rfl)
                      · refine j_bipush dX12_sortOf_217 (by decide) ?_
                        refine j_goto (tgt := 223) dX12_sortOf_219 rfl ?_
                        refine j_sub [] rfl ?_
                        exact p_f_X12_sortOf_b223 hd0 10 S42 (j_r32 10 rfl)
                    · refine j_bipush dX12_sortOf_194 (by decide) ?_
                      refine j_goto (tgt := 223) dX12_sortOf_196 rfl ?_
                      refine j_sub [] rfl ?_
                      exact p_f_X12_sortOf_b223 hd0 9 S38 (j_r32 9 rfl)
                  · refine j_bipush dX12_sortOf_175 (by decide) ?_
                    exact j_ireturn (j_r32 8 rfl) dX12_sortOf_177
                · refine j_bipush dX12_sortOf_154 (by decide) ?_
                  exact j_ireturn (j_r32 7 rfl) dX12_sortOf_156
              · refine j_bipush dX12_sortOf_131 (by decide) ?_
                exact j_ireturn (j_r32 6 rfl) dX12_sortOf_133
            · refine j_iconst dX12_sortOf_111 ?_
              exact j_ireturn (j_r32 5 rfl) dX12_sortOf_112
          · refine j_iconst dX12_sortOf_91 ?_
            exact j_ireturn (j_r32 4 rfl) dX12_sortOf_92
        · refine j_iconst dX12_sortOf_67 ?_
          exact j_ireturn (j_r32 3 rfl) dX12_sortOf_68
      · refine j_iconst dX12_sortOf_49 ?_
        exact j_ireturn (j_r32 2 rfl) dX12_sortOf_50
    · refine j_iconst dX12_sortOf_27 ?_
      exact j_ireturn (jZ_R jz1) dX12_sortOf_28
  · refine j_iconst dX12_sortOf_18 ?_
    exact j_ireturn (jZ_R jz0) dX12_sortOf_19
theorem c_X12_sortOf {G : jG} (a0 : Int) (S : jSt) (h0 : 0 ≤ (a0)) : CT G yX12_sortOf cX12_sortOf 1 (some .int) 6 ([(2, a0)].map jval) S (f_X12_sortOf a0 S) := ct_of [(2, a0)] (by decide) rfl (Nat.le_of_ble_eq_true rfl) (e_X12_sortOf (Nat.le_refl _) a0 S h0)
-- X12_clause
def f_X12_clause_b65 (x0 : Int) (x1 : Int) (x2 : Int) (S : jSt) : Option (Int × jSt) :=
  fput S x0 12 14 x1 (fun S6 => fcallv S6 x0 12 (f_X12_nextToken x0 S6) (fun v7 S8 => fget S8 x0 12 12 (fun v9 => flet (w32 ((w32 (v9 + 1)) + (w32 (4 * x2)))) (fun v10 => fgetr S8 x0 12 2 (fun v11 => fast S8 v11 v10 1 x1 (fun S12 => fcallv S12 x0 12 (f_X12_body x0 x1 v10 S12) (fun v13 S14 => if v13 = 0 then fgetr S14 x0 12 2 (fun v15 => fget S14 x0 12 12 (fun v16 => fald S14 v15 v16 1 (fun v17 => fast S14 v15 v16 1 (w32 (v17 + 1)) (fun S18 => fget S18 x0 12 9 (fun v19 => if v19 = 59 then fcallv S18 x0 12 (f_X12_nextToken x0 S18) (fun v20 S21 => some (0, S21)) else some (1, S18)))))) else some (v13, S14))))))))
theorem p_f_X12_clause_b65 {G : jG} {d : Nat} {S0 : jSt} (hd0 : 11 ≤ d) : ∀ (x0 : Int) (x1 : Int) (x2 : Int) (S : jSt), (0 ≤ (x0)) → (R32 (x1)) → (R32 (x2)) → J G yX12_clause cX12_clause 5 (some .int) d S0 65 [(0, 2, x0), (1, 0, x1), (2, 0, x2)] [] S (f_X12_clause_b65  x0 x1 x2 S) := by
  intro x0 x1 x2 S h0 h1 h2
  unfold f_X12_clause_b65
  refine j_aload_n 0 dX12_clause_65 rfl rfl ?_
  refine j_iload_n 1 dX12_clause_66 rfl rfl ?_
  refine j_puti (ci := 12) (k := 14) (ty0 := tyX12) rfl in_X12 (Nat.le_of_ble_eq_true rfl) rfl tyX12_ok nmX12 rfl rfl (by decide +kernel) h1 fl_X12_176 dX12_clause_67 (fun S6 => ?_)
  refine j_aload_n 0 dX12_clause_70 rfl rfl ?_
  refine j_callV (ci := 12) (As := []) (st := []) kc_X12_nextToken (c_X12_nextToken x0 S6 h0) rfl lm_X12_170 ki_X12_nextToken ke_X12_nextToken rfl (Nat.le_of_ble_eq_true rfl) (Nat.le_trans (m := 11) (Nat.le_of_ble_eq_true rfl) hd0) dX12_clause_71 (fun v7 S8 _ => ?_)
  refine j_aload_n 0 dX12_clause_74 rfl rfl ?_
  refine j_get (ci := 12) (k := 12) (t := 0) rfl in_X12 (Nat.le_of_ble_eq_true rfl) rfl rfl fl_X12_140 dX12_clause_75 (fun (v9 : Int) (hv9 : R32 (v9)) => ?_)
  refine j_iconst dX12_clause_78 ?_
  refine j_iadd dX12_clause_79 ?_
  refine j_iconst dX12_clause_80 ?_
  refine j_iload_n 2 dX12_clause_81 rfl rfl ?_
  refine j_imul dX12_clause_82 ?_
  refine j_iadd dX12_clause_83 ?_
  refine j_leti (w32_R _) (fun v10 hv10 => ?_)
  refine j_istore_n (lv' := [(3, 0, v10), (0, 2, x0), (1, 0, x1), (2, 0, x2)]) dX12_clause_84 rfl (Nat.le_of_ble_eq_true rfl) rfl ?_
  refine j_aload_n 1 dX12_clause_85 rfl rfl ?_
  refine j_getr (ci := 12) (k := 2) rfl in_X12 (Nat.le_of_ble_eq_true rfl) rfl rfl fl_X12_16 dX12_clause_86 (fun (v11 : Int) (hv11 : 0 ≤ v11) => ?_)
  refine j_iload_n 0 dX12_clause_89 rfl rfl ?_
  refine j_iload_n 2 dX12_clause_90 rfl rfl ?_
  refine j_iastore hv10 h1 dX12_clause_91 (fun S12 => ?_)
  refine j_aload_n 1 dX12_clause_92 rfl rfl ?_
  refine j_iload_n 2 dX12_clause_93 rfl rfl ?_
  refine j_iload_n 0 dX12_clause_94 rfl rfl ?_
  refine j_callV (ci := 12) (As := [(0, x1), (0, v10)]) (st := []) kc_X12_body (c_X12_body x0 x1 v10 S12 h0 h1 hv10) rfl lm_X12_253 ki_X12_body ke_X12_body rfl (Nat.le_of_ble_eq_true rfl) (Nat.le_trans (m := 11) (Nat.le_of_ble_eq_true rfl) hd0) dX12_clause_95 (fun (v13 : Int) (S14 : jSt) (hv13 : R32 (v13)) => ?_)
  refine j_istore (lv' := [(4, 0, v13), (3, 0, v10), (0, 2, x0), (1, 0, x1), (2, 0, x2)]) dX12_clause_98 (Nat.le_of_ble_eq_true rfl) rfl ?_
  refine j_iload 0 dX12_clause_100 rfl ?_
  refine j_if_eq (tgt := 108) hv13 dX12_clause_102 rfl (fun _ => ?_) (fun _ => ?_)
  · refine j_aload_n 2 dX12_clause_108 rfl rfl ?_
    refine j_getr (ci := 12) (k := 2) rfl in_X12 (Nat.le_of_ble_eq_true rfl) rfl rfl fl_X12_16 dX12_clause_109 (fun (v15 : Int) (hv15 : 0 ≤ v15) => ?_)
    refine j_aload_n 2 dX12_clause_112 rfl rfl ?_
    refine j_get (ci := 12) (k := 12) (t := 0) rfl in_X12 (Nat.le_of_ble_eq_true rfl) rfl rfl fl_X12_140 dX12_clause_113 (fun (v16 : Int) (hv16 : R32 (v16)) => ?_)
    refine j_dup2 dX12_clause_116 (fun h => nomatch h) (fun h => nomatch h) ?_
    refine j_iaload hv16 dX12_clause_117 (fun (v17 : Int) (hv17 : R32 (v17)) => ?_)
    refine j_iconst dX12_clause_118 ?_
    refine j_iadd dX12_clause_119 ?_
    refine j_iastore hv16 (w32_R _) dX12_clause_120 (fun S18 => ?_)
    refine j_aload_n 2 dX12_clause_121 rfl rfl ?_
    refine j_get (ci := 12) (k := 9) (t := 0) rfl in_X12 (Nat.le_of_ble_eq_true rfl) rfl rfl fl_X12_102 dX12_clause_122 (fun (v19 : Int) (hv19 : R32 (v19)) => ?_)
    refine j_bipush dX12_clause_125 (by decide) ?_
    refine j_icmp_eq (tgt := 132) hv19 (j_r32 59 rfl) dX12_clause_127 rfl (fun _ => ?_) (fun _ => ?_)
    · refine j_aload_n 2 dX12_clause_132 rfl rfl ?_
      refine j_callV (ci := 12) (As := []) (st := []) kc_X12_nextToken (c_X12_nextToken x0 S18 h0) rfl lm_X12_170 ki_X12_nextToken ke_X12_nextToken rfl (Nat.le_of_ble_eq_true rfl) (Nat.le_trans (m := 11) (Nat.le_of_ble_eq_true rfl) hd0) dX12_clause_133 (fun v20 S21 _ => ?_)
      refine j_iconst dX12_clause_136 ?_
      exact j_ireturn (jZ_R jz0) dX12_clause_137
    · refine j_iconst dX12_clause_130 ?_
      exact j_ireturn (jZ_R jz1) dX12_clause_131
  · refine j_iload 0 dX12_clause_105 rfl ?_
    exact j_ireturn hv13 dX12_clause_107
def f_X12_clause_b29 (x0 : Int) (x1 : Int) (S : jSt) : Option (Int × jSt) :=
  fgetr S x0 12 2 (fun v3 => fget S x0 12 12 (fun v4 => fald S v3 v4 1 (fun v5 => if v5 = 24 then some (6, S) else if 2 < x1 then f_X12_clause_b65 x0 x1 v5 S else fget S x0 12 19 (fun v22 => fput S x0 12 19 (ior32 v22 (ishl32 1 x1)) (fun S23 => f_X12_clause_b65 x0 x1 v5 S23)))))
theorem p_f_X12_clause_b29 {G : jG} {d : Nat} {S0 : jSt} (hd0 : 11 ≤ d) : ∀ (x0 : Int) (x1 : Int) (S : jSt), (0 ≤ (x0)) → (R32 (x1)) → J G yX12_clause cX12_clause 5 (some .int) d S0 29 [(0, 2, x0), (1, 0, x1)] [] S (f_X12_clause_b29  x0 x1 S) := by
  intro x0 x1 S h0 h1
  unfold f_X12_clause_b29
  refine j_aload_n 0 dX12_clause_29 rfl rfl ?_
  refine j_getr (ci := 12) (k := 2) rfl in_X12 (Nat.le_of_ble_eq_true rfl) rfl rfl fl_X12_16 dX12_clause_30 (fun (v3 : Int) (hv3 : 0 ≤ v3) => ?_)
  refine j_aload_n 0 dX12_clause_33 rfl rfl ?_
  refine j_get (ci := 12) (k := 12) (t := 0) rfl in_X12 (Nat.le_of_ble_eq_true rfl) rfl rfl fl_X12_140 dX12_clause_34 (fun (v4 : Int) (hv4 : R32 (v4)) => ?_)
  refine j_iaload hv4 dX12_clause_37 (fun (v5 : Int) (hv5 : R32 (v5)) => ?_)
  refine j_istore_n (lv' := [(2, 0, v5), (0, 2, x0), (1, 0, x1)]) dX12_clause_38 rfl (Nat.le_of_ble_eq_true rfl) rfl ?_
  refine j_iload_n 0 dX12_clause_39 rfl rfl ?_
  refine j_bipush dX12_clause_40 (by decide) ?_
  refine j_icmp_ne (tgt := 48) hv5 (j_r32 24 rfl) dX12_clause_42 rfl (fun _ => ?_) (fun _ => ?_)
  · refine j_iload_n 2 dX12_clause_48 rfl rfl ?_
    refine j_iconst dX12_clause_49 ?_
    refine j_icmp_gt (tgt := 65) h1 (j_r32 2 rfl) dX12_clause_50 rfl (fun _ => ?_) (fun _ => ?_)
    · refine j_sub [1, 2, 0] rfl ?_
      exact p_f_X12_clause_b65 hd0 x0 x1 v5 S h0 h1 hv5
    · refine j_aload_n 1 dX12_clause_53 rfl rfl ?_
      refine j_dup dX12_clause_54 (fun h => nomatch h) ?_
      refine j_get (ci := 12) (k := 19) (t := 0) rfl in_X12 (Nat.le_of_ble_eq_true rfl) rfl rfl fl_X12_246 dX12_clause_55 (fun (v22 : Int) (hv22 : R32 (v22)) => ?_)
      refine j_iconst dX12_clause_58 ?_
      refine j_iload_n 2 dX12_clause_59 rfl rfl ?_
      refine j_ishl dX12_clause_60 ?_
      refine j_ior dX12_clause_61 ?_
      refine j_puti (ci := 12) (k := 19) (ty0 := tyX12) rfl in_X12 (Nat.le_of_ble_eq_true rfl) rfl tyX12_ok nmX12 rfl rfl (by decide +kernel) (ior32_R _ _) fl_X12_246 dX12_clause_62 (fun S23 => ?_)
      refine j_sub [1, 2, 0] rfl ?_
      exact p_f_X12_clause_b65 hd0 x0 x1 v5 S23 h0 h1 hv5
  · refine j_bipush dX12_clause_45 (by decide) ?_
    exact j_ireturn (j_r32 6 rfl) dX12_clause_47
def f_X12_clause (a0 : Int) (S : jSt) : Option (Int × jSt) :=
  fcallv S a0 12 (f_X12_sortOf a0 S) (fun v1 S2 => if 0 ≤ v1 then if 2 < v1 then f_X12_clause_b29 a0 v1 S2 else fget S2 a0 12 19 (fun v24 => fcall (f_X12_has v24 v1 S2) (fun v25 S26 => if v25 = 0 then f_X12_clause_b29 a0 v1 S26 else some (4, S26))) else some (1, S2))
theorem e_X12_clause {G : jG} {d : Nat} {S0 : jSt} (hd0 : 11 ≤ d) (a0 : Int) (S : jSt) (h0 : 0 ≤ (a0)) : J G yX12_clause cX12_clause 5 (some .int) d S0 0 [(0, 2, a0)] [] S (f_X12_clause a0 S) := by
  unfold f_X12_clause
  refine j_aload_n 0 dX12_clause_0 rfl rfl ?_
  refine j_callV (ci := 12) (As := []) (st := []) kc_X12_sortOf (c_X12_sortOf a0 S h0) rfl lm_X12_243 ki_X12_sortOf ke_X12_sortOf rfl (Nat.le_of_ble_eq_true rfl) (Nat.le_trans (m := 11) (Nat.le_of_ble_eq_true rfl) hd0) dX12_clause_1 (fun (v1 : Int) (S2 : jSt) (hv1 : R32 (v1)) => ?_)
  refine j_istore_n (lv' := [(1, 0, v1), (0, 2, a0)]) dX12_clause_4 rfl (Nat.le_of_ble_eq_true rfl) rfl ?_
  refine j_iload_n 0 dX12_clause_5 rfl rfl ?_
  refine j_if_ge (tgt := 11) hv1 dX12_clause_6 rfl (fun _ => ?_) (fun _ => ?_)
  · refine j_iload_n 0 dX12_clause_11 rfl rfl ?_
    refine j_iconst dX12_clause_12 ?_
    refine j_icmp_gt (tgt := 29) hv1 (j_r32 2 rfl) dX12_clause_13 rfl (fun _ => ?_) (fun _ => ?_)
    · refine j_sub [1, 0] rfl ?_
      exact p_f_X12_clause_b29 hd0 a0 v1 S2 h0 hv1
    · refine j_aload_n 1 dX12_clause_16 rfl rfl ?_
      refine j_get (ci := 12) (k := 19) (t := 0) rfl in_X12 (Nat.le_of_ble_eq_true rfl) rfl rfl fl_X12_246 dX12_clause_17 (fun (v24 : Int) (hv24 : R32 (v24)) => ?_)
      refine j_iload_n 0 dX12_clause_20 rfl rfl ?_
      refine j_callS (As := [(0, v24), (0, v1)]) (st := []) kc_X12_has (c_X12_has v24 v1 S2 hv24 hv1) lm_X12_249 ks_X12_has rfl (Nat.le_of_ble_eq_true rfl) (Nat.le_trans (m := 11) (Nat.le_of_ble_eq_true rfl) hd0) dX12_clause_21 (fun (v25 : Int) (S26 : jSt) (hv25 : (v25) = 0 ∨ (v25) = 1) => ?_)
      refine j_if_eq (tgt := 29) (jZ_R hv25) dX12_clause_24 rfl (fun _ => ?_) (fun _ => ?_)
      · refine j_sub [1, 0] rfl ?_
        exact p_f_X12_clause_b29 hd0 a0 v1 S26 h0 hv1
      · refine j_iconst dX12_clause_27 ?_
        exact j_ireturn (j_r32 4 rfl) dX12_clause_28
  · refine j_iconst dX12_clause_9 ?_
    exact j_ireturn (jZ_R jz1) dX12_clause_10
theorem c_X12_clause {G : jG} (a0 : Int) (S : jSt) (h0 : 0 ≤ (a0)) : CT G yX12_clause cX12_clause 5 (some .int) 11 ([(2, a0)].map jval) S (f_X12_clause a0 S) := ct_of [(2, a0)] (by decide) rfl (Nat.le_of_ble_eq_true rfl) (e_X12_clause (Nat.le_refl _) a0 S h0)
-- X12_isFloor
def f_X12_isFloor (a0 : Int) (S : jSt) : Option (Int × jSt) :=
  fcall (f_X12_isIn a0 0 5 S) (fun v1 S2 => some (v1, S2))
theorem e_X12_isFloor {G : jG} {d : Nat} {S0 : jSt} (hd0 : 2 ≤ d) (a0 : Int) (S : jSt) (h0 : R32 (a0)) : J G yX12_isFloor cX12_isFloor 1 (some .boolean) d S0 0 [(0, 0, a0)] [] S (f_X12_isFloor a0 S) := by
  unfold f_X12_isFloor
  refine j_iload_n 0 dX12_isFloor_0 rfl rfl ?_
  refine j_iconst dX12_isFloor_1 ?_
  refine j_iconst dX12_isFloor_2 ?_
  refine j_callS (As := [(0, a0), (0, 0), (0, 5)]) (st := []) kc_X12_isIn (c_X12_isIn a0 0 5 S h0 (jZ_R jz0) (j_r32 5 rfl)) lm_X12_60 ks_X12_isIn rfl (Nat.le_of_ble_eq_true rfl) (Nat.le_trans (m := 2) (Nat.le_of_ble_eq_true rfl) hd0) dX12_isFloor_3 (fun (v1 : Int) (S2 : jSt) (hv1 : (v1) = 0 ∨ (v1) = 1) => ?_)
  exact j_zreturn hv1 dX12_isFloor_6
theorem c_X12_isFloor {G : jG} (a0 : Int) (S : jSt) (h0 : R32 (a0)) : CT G yX12_isFloor cX12_isFloor 1 (some .boolean) 2 ([(0, a0)].map jval) S (f_X12_isFloor a0 S) := ct_of [(0, a0)] (by decide) rfl (Nat.le_of_ble_eq_true rfl) (e_X12_isFloor (Nat.le_refl _) a0 S h0)
-- X12_climb
def f_X12_climb_b14 (S : jSt) : Option (Int × jSt) :=
  some ((-1), S)
theorem p_f_X12_climb_b14 {G : jG} {d : Nat} {S0 : jSt} (hd0 : 3 ≤ d) : ∀ (S : jSt), J G yX12_climb cX12_climb 5 (some .int) d S0 14 [] [] S (f_X12_climb_b14   S) := by
  intro S
  unfold f_X12_climb_b14
  refine j_iconst dX12_climb_14 ?_
  exact j_ireturn (j_r32 (-1) rfl) dX12_climb_15
def f_X12_climb_b23B (r23 : Int → Int → Int → Int → jSt → Option (Int × jSt)) (x0 : Int) (x1 : Int) (x2 : Int) (x3 : Int) (S : jSt) : Option (Int × jSt) :=
  if 5 < x3 then some ((-1), S) else fcall (f_X12_has x2 x1 S) (fun v6 S7 => if v6 = 0 then fcallv S7 x0 12 (f_X12_oneOn x0 x2 S7) (fun v8 S9 => flet (w32 (x3 + 1)) (fun v10 => r23 x0 x1 v8 v10 S9)) else some (x3, S7))
theorem p_f_X12_climb_b23B {G : jG} {d : Nat} {S0 : jSt} (hd0 : 3 ≤ d) {r23 : Int → Int → Int → Int → jSt → Option (Int × jSt)} (k23 : ∀ (x0 : Int) (x1 : Int) (x2 : Int) (x3 : Int) (S : jSt), (0 ≤ (x0)) → (R32 (x1)) → (R32 (x2)) → (R32 (x3)) → J G yX12_climb cX12_climb 5 (some .int) d S0 23 [(0, 2, x0), (2, 0, x1), (3, 0, x2), (4, 0, x3)] [] S (r23 x0 x1 x2 x3 S)) : ∀ (x0 : Int) (x1 : Int) (x2 : Int) (x3 : Int) (S : jSt), (0 ≤ (x0)) → (R32 (x1)) → (R32 (x2)) → (R32 (x3)) → J G yX12_climb cX12_climb 5 (some .int) d S0 23 [(0, 2, x0), (2, 0, x1), (3, 0, x2), (4, 0, x3)] [] S (f_X12_climb_b23B r23 x0 x1 x2 x3 S) := by
  intro x0 x1 x2 x3 S h0 h1 h2 h3
  unfold f_X12_climb_b23B
  refine j_iload 3 dX12_climb_23 rfl ?_
  refine j_iconst dX12_climb_25 ?_
  refine j_icmp_gt (tgt := 52) h3 (j_r32 5 rfl) dX12_climb_26 rfl (fun _ => ?_) (fun _ => ?_)
  · refine j_iconst dX12_climb_52 ?_
    exact j_ireturn (j_r32 (-1) rfl) dX12_climb_53
  · refine j_iload_n 2 dX12_climb_29 rfl rfl ?_
    refine j_iload_n 1 dX12_climb_30 rfl rfl ?_
    refine j_callS (As := [(0, x2), (0, x1)]) (st := []) kc_X12_has (c_X12_has x2 x1 S h2 h1) lm_X12_249 ks_X12_has rfl (Nat.le_of_ble_eq_true rfl) (Nat.le_trans (m := 3) (Nat.le_of_ble_eq_true rfl) hd0) dX12_climb_31 (fun (v6 : Int) (S7 : jSt) (hv6 : (v6) = 0 ∨ (v6) = 1) => ?_)
    refine j_if_eq (tgt := 40) (jZ_R hv6) dX12_climb_34 rfl (fun _ => ?_) (fun _ => ?_)
    · refine j_aload_n 0 dX12_climb_40 rfl rfl ?_
      refine j_iload_n 2 dX12_climb_41 rfl rfl ?_
      refine j_callV (ci := 12) (As := [(0, x2)]) (st := []) kc_X12_oneOn (c_X12_oneOn x0 x2 S7 h0 h2) rfl lm_X12_448 ki_X12_oneOn ke_X12_oneOn rfl (Nat.le_of_ble_eq_true rfl) (Nat.le_trans (m := 3) (Nat.le_of_ble_eq_true rfl) hd0) dX12_climb_42 (fun (v8 : Int) (S9 : jSt) (hv8 : R32 (v8)) => ?_)
      refine j_istore_n (lv' := [(3, 0, v8), (0, 2, x0), (2, 0, x1), (4, 0, x3)]) dX12_climb_45 rfl (Nat.le_of_ble_eq_true rfl) rfl ?_
      refine j_iincL (q := 3) dX12_climb_46 rfl (Nat.le_of_ble_eq_true rfl) (fun v10 hv10 => ?_)
      refine j_lv (lv' := [(4, 0, v10), (3, 0, v8), (0, 2, x0), (2, 0, x1)]) rfl ?_
      refine j_goto (tgt := 23) dX12_climb_49 rfl ?_
      refine j_sub [2, 3, 1, 0] rfl ?_
      exact k23 x0 x1 v8 v10 S9 h0 h1 hv8 hv10
    · refine j_iload 3 dX12_climb_37 rfl ?_
      exact j_ireturn h3 dX12_climb_39
def f_X12_climb_b23 : Int → Int → Int → Int → jSt → Option (Int × jSt) := jrep (β := Int → Int → Int → Int → jSt → Option (Int × jSt)) (fun _ _ _ _ _ => none) (fun r => f_X12_climb_b23B r) jN
theorem p_f_X12_climb_b23 {G : jG} {d : Nat} {S0 : jSt} (hd0 : 3 ≤ d) : ∀ (x0 : Int) (x1 : Int) (x2 : Int) (x3 : Int) (S : jSt), (0 ≤ (x0)) → (R32 (x1)) → (R32 (x2)) → (R32 (x3)) → J G yX12_climb cX12_climb 5 (some .int) d S0 23 [(0, 2, x0), (2, 0, x1), (3, 0, x2), (4, 0, x3)] [] S (f_X12_climb_b23  x0 x1 x2 x3 S) :=
  jrep_ind (P := fun (r : Int → Int → Int → Int → jSt → Option (Int × jSt)) => ∀ (x0 : Int) (x1 : Int) (x2 : Int) (x3 : Int) (S : jSt), (0 ≤ (x0)) → (R32 (x1)) → (R32 (x2)) → (R32 (x3)) → J G yX12_climb cX12_climb 5 (some .int) d S0 23 [(0, 2, x0), (2, 0, x1), (3, 0, x2), (4, 0, x3)] [] S (r x0 x1 x2 x3 S)) (by intros; exact j_none) (fun r k => p_f_X12_climb_b23B hd0 k) jN
def f_X12_climb (a0 : Int) (a1 : Int) (a2 : Int) (S : jSt) : Option (Int × jSt) :=
  fcall (f_X12_isFloor a1 S) (fun v1 S2 => if v1 = 0 then f_X12_climb_b14 S2 else fcall (f_X12_isFloor a2 S2) (fun v3 S4 => if v3 = 0 then f_X12_climb_b14 S4 else flet (ishl32 1 a1) (fun v5 => f_X12_climb_b23 a0 a2 v5 0 S4)))
theorem e_X12_climb {G : jG} {d : Nat} {S0 : jSt} (hd0 : 3 ≤ d) (a0 : Int) (a1 : Int) (a2 : Int) (S : jSt) (h0 : 0 ≤ (a0)) (h1 : R32 (a1)) (h2 : R32 (a2)) : J G yX12_climb cX12_climb 5 (some .int) d S0 0 [(0, 2, a0), (1, 0, a1), (2, 0, a2)] [] S (f_X12_climb a0 a1 a2 S) := by
  unfold f_X12_climb
  refine j_iload_n 1 dX12_climb_0 rfl rfl ?_
  refine j_callS (As := [(0, a1)]) (st := []) kc_X12_isFloor (c_X12_isFloor a1 S h1) lm_X12_72 ks_X12_isFloor rfl (Nat.le_of_ble_eq_true rfl) (Nat.le_trans (m := 3) (Nat.le_of_ble_eq_true rfl) hd0) dX12_climb_1 (fun (v1 : Int) (S2 : jSt) (hv1 : (v1) = 0 ∨ (v1) = 1) => ?_)
  refine j_if_eq (tgt := 14) (jZ_R hv1) dX12_climb_4 rfl (fun _ => ?_) (fun _ => ?_)
  · refine j_sub [] rfl ?_
    exact p_f_X12_climb_b14 hd0 S2
  · refine j_iload_n 2 dX12_climb_7 rfl rfl ?_
    refine j_callS (As := [(0, a2)]) (st := []) kc_X12_isFloor (c_X12_isFloor a2 S2 h2) lm_X12_72 ks_X12_isFloor rfl (Nat.le_of_ble_eq_true rfl) (Nat.le_trans (m := 3) (Nat.le_of_ble_eq_true rfl) hd0) dX12_climb_8 (fun (v3 : Int) (S4 : jSt) (hv3 : (v3) = 0 ∨ (v3) = 1) => ?_)
    refine j_if_ne (tgt := 16) (jZ_R hv3) dX12_climb_11 rfl (fun _ => ?_) (fun _ => ?_)
    · refine j_iconst dX12_climb_16 ?_
      refine j_iload_n 1 dX12_climb_17 rfl rfl ?_
      refine j_ishl dX12_climb_18 ?_
      refine j_leti (ishl32_R _ _) (fun v5 hv5 => ?_)
      refine j_istore_n (lv' := [(3, 0, v5), (0, 2, a0), (1, 0, a1), (2, 0, a2)]) dX12_climb_19 rfl (Nat.le_of_ble_eq_true rfl) rfl ?_
      refine j_iconst dX12_climb_20 ?_
      refine j_istore (lv' := [(4, 0, 0), (3, 0, v5), (0, 2, a0), (1, 0, a1), (2, 0, a2)]) dX12_climb_21 (Nat.le_of_ble_eq_true rfl) rfl ?_
      refine j_sub [2, 4, 1, 0] rfl ?_
      exact p_f_X12_climb_b23 hd0 a0 a2 v5 0 S4 h0 h2 hv5 (jZ_R jz0)
    · refine j_sub [] rfl ?_
      exact p_f_X12_climb_b14 hd0 S4
theorem c_X12_climb {G : jG} (a0 : Int) (a1 : Int) (a2 : Int) (S : jSt) (h0 : 0 ≤ (a0)) (h1 : R32 (a1)) (h2 : R32 (a2)) : CT G yX12_climb cX12_climb 5 (some .int) 3 ([(2, a0), (0, a1), (0, a2)].map jval) S (f_X12_climb a0 a1 a2 S) := ct_of [(2, a0), (0, a1), (0, a2)] (by decide) rfl (Nat.le_of_ble_eq_true rfl) (e_X12_climb (Nat.le_refl _) a0 a1 a2 S h0 h1 h2)
-- X12_cut
def f_X12_cut_b19 (S : jSt) : Option (Int × jSt) :=
  some ((-1), S)
theorem p_f_X12_cut_b19 {G : jG} {d : Nat} {S0 : jSt} (hd0 : 3 ≤ d) : ∀ (S : jSt), J G yX12_cut cX12_cut 7 (some .int) d S0 19 [] [] S (f_X12_cut_b19   S) := by
  intro S
  unfold f_X12_cut_b19
  refine j_iconst dX12_cut_19 ?_
  exact j_ireturn (j_r32 (-1) rfl) dX12_cut_20
def f_X12_cut_b124 (r27 : Int → Int → Int → Int → Int → jSt → Option (Int × jSt)) (x0 : Int) (x1 : Int) (x2 : Int) (x3 : Int) (x4 : Int) (S : jSt) : Option (Int × jSt) :=
  flet (w32 (x4 + 1)) (fun v7 => r27 x0 x1 x2 x3 v7 S)
theorem p_f_X12_cut_b124 {G : jG} {d : Nat} {S0 : jSt} (hd0 : 3 ≤ d) {r27 : Int → Int → Int → Int → Int → jSt → Option (Int × jSt)} (k27 : ∀ (x0 : Int) (x1 : Int) (x2 : Int) (x3 : Int) (x4 : Int) (S : jSt), (0 ≤ (x0)) → (R32 (x1)) → (R32 (x2)) → (R32 (x3)) → (R32 (x4)) → J G yX12_cut cX12_cut 7 (some .int) d S0 27 [(0, 2, x0), (1, 0, x1), (2, 0, x2), (3, 0, x3), (4, 0, x4)] [] S (r27 x0 x1 x2 x3 x4 S)) : ∀ (x0 : Int) (x1 : Int) (x2 : Int) (x3 : Int) (x4 : Int) (S : jSt), (0 ≤ (x0)) → (R32 (x1)) → (R32 (x2)) → (R32 (x3)) → (R32 (x4)) → J G yX12_cut cX12_cut 7 (some .int) d S0 124 [(0, 2, x0), (1, 0, x1), (2, 0, x2), (3, 0, x3), (4, 0, x4)] [] S (f_X12_cut_b124 r27 x0 x1 x2 x3 x4 S) := by
  intro x0 x1 x2 x3 x4 S h0 h1 h2 h3 h4
  unfold f_X12_cut_b124
  refine j_iincL (q := 4) dX12_cut_124 rfl (Nat.le_of_ble_eq_true rfl) (fun v7 hv7 => ?_)
  refine j_lv (lv' := [(4, 0, v7), (0, 2, x0), (1, 0, x1), (2, 0, x2), (3, 0, x3)]) rfl ?_
  refine j_goto (tgt := 27) dX12_cut_127 rfl ?_
  refine j_sub [1, 2, 3, 4, 0] rfl ?_
  exact k27 x0 x1 x2 x3 v7 S h0 h1 h2 h3 hv7
def f_X12_cut_b123 (r27 : Int → Int → Int → Int → Int → jSt → Option (Int × jSt)) (x0 : Int) (x1 : Int) (x2 : Int) (x3 : Int) (x4 : Int) (S : jSt) : Option (Int × jSt) :=
  f_X12_cut_b124 r27 x0 x1 x2 x4 x3 S
theorem p_f_X12_cut_b123 {G : jG} {d : Nat} {S0 : jSt} (hd0 : 3 ≤ d) {r27 : Int → Int → Int → Int → Int → jSt → Option (Int × jSt)} (k27 : ∀ (x0 : Int) (x1 : Int) (x2 : Int) (x3 : Int) (x4 : Int) (S : jSt), (0 ≤ (x0)) → (R32 (x1)) → (R32 (x2)) → (R32 (x3)) → (R32 (x4)) → J G yX12_cut cX12_cut 7 (some .int) d S0 27 [(0, 2, x0), (1, 0, x1), (2, 0, x2), (3, 0, x3), (4, 0, x4)] [] S (r27 x0 x1 x2 x3 x4 S)) : ∀ (x0 : Int) (x1 : Int) (x2 : Int) (x3 : Int) (x4 : Int) (S : jSt), (0 ≤ (x0)) → (R32 (x1)) → (R32 (x2)) → (R32 (x3)) → (R32 (x4)) → J G yX12_cut cX12_cut 7 (some .int) d S0 123 [(0, 2, x0), (1, 0, x1), (2, 0, x2), (4, 0, x3)] [(0, x4)] S (f_X12_cut_b123 r27 x0 x1 x2 x3 x4 S) := by
  intro x0 x1 x2 x3 x4 S h0 h1 h2 h3 h4
  unfold f_X12_cut_b123
  refine j_istore_n (lv' := [(3, 0, x4), (0, 2, x0), (1, 0, x1), (2, 0, x2), (4, 0, x3)]) dX12_cut_123 rfl (Nat.le_of_ble_eq_true rfl) rfl ?_
  refine j_sub [1, 2, 3, 0, 4] rfl ?_
  exact p_f_X12_cut_b124 hd0 k27 x0 x1 x2 x4 x3 S h0 h1 h2 h4 h3
def f_X12_cut_b102 (r27 : Int → Int → Int → Int → Int → jSt → Option (Int × jSt)) (r61 : Int → Int → Int → Int → Int → Int → Int → jSt → Option (Int × jSt)) (x0 : Int) (x1 : Int) (x2 : Int) (x3 : Int) (x4 : Int) (x5 : Int) (x6 : Int) (x7 : Int) (S : jSt) : Option (Int × jSt) :=
  flet (w32 (x6 + x7)) (fun v12 => flet (w32 (x5 + 1)) (fun v13 => r61 x0 x1 x2 x3 x4 v12 v13 S))
theorem p_f_X12_cut_b102 {G : jG} {d : Nat} {S0 : jSt} (hd0 : 3 ≤ d) {r27 : Int → Int → Int → Int → Int → jSt → Option (Int × jSt)} (k27 : ∀ (x0 : Int) (x1 : Int) (x2 : Int) (x3 : Int) (x4 : Int) (S : jSt), (0 ≤ (x0)) → (R32 (x1)) → (R32 (x2)) → (R32 (x3)) → (R32 (x4)) → J G yX12_cut cX12_cut 7 (some .int) d S0 27 [(0, 2, x0), (1, 0, x1), (2, 0, x2), (3, 0, x3), (4, 0, x4)] [] S (r27 x0 x1 x2 x3 x4 S)) {r61 : Int → Int → Int → Int → Int → Int → Int → jSt → Option (Int × jSt)} (k61 : ∀ (x0 : Int) (x1 : Int) (x2 : Int) (x3 : Int) (x4 : Int) (x5 : Int) (x6 : Int) (S : jSt), (0 ≤ (x0)) → (R32 (x1)) → (R32 (x2)) → (R32 (x3)) → (R32 (x4)) → (R32 (x5)) → (R32 (x6)) → J G yX12_cut cX12_cut 7 (some .int) d S0 61 [(0, 2, x0), (1, 0, x1), (2, 0, x2), (3, 0, x3), (4, 0, x4), (5, 0, x5), (6, 0, x6)] [] S (r61 x0 x1 x2 x3 x4 x5 x6 S)) : ∀ (x0 : Int) (x1 : Int) (x2 : Int) (x3 : Int) (x4 : Int) (x5 : Int) (x6 : Int) (x7 : Int) (S : jSt), (0 ≤ (x0)) → (R32 (x1)) → (R32 (x2)) → (R32 (x3)) → (R32 (x4)) → (R32 (x5)) → (R32 (x6)) → (R32 (x7)) → J G yX12_cut cX12_cut 7 (some .int) d S0 102 [(0, 2, x0), (1, 0, x1), (2, 0, x2), (3, 0, x3), (4, 0, x4), (6, 0, x5)] [(0, x7), (0, x6)] S (f_X12_cut_b102 r27 r61 x0 x1 x2 x3 x4 x5 x6 x7 S) := by
  intro x0 x1 x2 x3 x4 x5 x6 x7 S h0 h1 h2 h3 h4 h5 h6 h7
  unfold f_X12_cut_b102
  refine j_iadd dX12_cut_102 ?_
  refine j_leti (w32_R _) (fun v12 hv12 => ?_)
  refine j_istore (lv' := [(5, 0, v12), (0, 2, x0), (1, 0, x1), (2, 0, x2), (3, 0, x3), (4, 0, x4), (6, 0, x5)]) dX12_cut_103 (Nat.le_of_ble_eq_true rfl) rfl ?_
  refine j_iincL (q := 6) dX12_cut_105 rfl (Nat.le_of_ble_eq_true rfl) (fun v13 hv13 => ?_)
  refine j_lv (lv' := [(6, 0, v13), (5, 0, v12), (0, 2, x0), (1, 0, x1), (2, 0, x2), (3, 0, x3), (4, 0, x4)]) rfl ?_
  refine j_goto (tgt := 61) dX12_cut_108 rfl ?_
  refine j_sub [2, 3, 4, 5, 6, 1, 0] rfl ?_
  exact k61 x0 x1 x2 x3 x4 v12 v13 S h0 h1 h2 h3 h4 hv12 hv13
def f_X12_cut_b61B (r27 : Int → Int → Int → Int → Int → jSt → Option (Int × jSt)) (r61 : Int → Int → Int → Int → Int → Int → Int → jSt → Option (Int × jSt)) (x0 : Int) (x1 : Int) (x2 : Int) (x3 : Int) (x4 : Int) (x5 : Int) (x6 : Int) (S : jSt) : Option (Int × jSt) :=
  if 5 < x6 then if x3 ≤ x5 then f_X12_cut_b123 r27 x0 x1 x2 x4 x3 S else f_X12_cut_b123 r27 x0 x1 x2 x4 x5 S else fcall (f_X12_has x4 x6 S) (fun v10 S11 => if v10 = 0 then f_X12_cut_b102 r27 r61 x0 x1 x2 x3 x4 x6 x5 0 S11 else fgetr S11 x0 12 0 (fun v14 => fald S11 v14 (w32 (141 + x6)) 1 (fun v15 => fcall (f_X12_bits (iand32 v15 (ixor32 x4 (-1))) S11) (fun v16 S17 => f_X12_cut_b102 r27 r61 x0 x1 x2 x3 x4 x6 x5 v16 S17))))
theorem p_f_X12_cut_b61B {G : jG} {d : Nat} {S0 : jSt} (hd0 : 3 ≤ d) {r27 : Int → Int → Int → Int → Int → jSt → Option (Int × jSt)} (k27 : ∀ (x0 : Int) (x1 : Int) (x2 : Int) (x3 : Int) (x4 : Int) (S : jSt), (0 ≤ (x0)) → (R32 (x1)) → (R32 (x2)) → (R32 (x3)) → (R32 (x4)) → J G yX12_cut cX12_cut 7 (some .int) d S0 27 [(0, 2, x0), (1, 0, x1), (2, 0, x2), (3, 0, x3), (4, 0, x4)] [] S (r27 x0 x1 x2 x3 x4 S)) {r61 : Int → Int → Int → Int → Int → Int → Int → jSt → Option (Int × jSt)} (k61 : ∀ (x0 : Int) (x1 : Int) (x2 : Int) (x3 : Int) (x4 : Int) (x5 : Int) (x6 : Int) (S : jSt), (0 ≤ (x0)) → (R32 (x1)) → (R32 (x2)) → (R32 (x3)) → (R32 (x4)) → (R32 (x5)) → (R32 (x6)) → J G yX12_cut cX12_cut 7 (some .int) d S0 61 [(0, 2, x0), (1, 0, x1), (2, 0, x2), (3, 0, x3), (4, 0, x4), (5, 0, x5), (6, 0, x6)] [] S (r61 x0 x1 x2 x3 x4 x5 x6 S)) : ∀ (x0 : Int) (x1 : Int) (x2 : Int) (x3 : Int) (x4 : Int) (x5 : Int) (x6 : Int) (S : jSt), (0 ≤ (x0)) → (R32 (x1)) → (R32 (x2)) → (R32 (x3)) → (R32 (x4)) → (R32 (x5)) → (R32 (x6)) → J G yX12_cut cX12_cut 7 (some .int) d S0 61 [(0, 2, x0), (1, 0, x1), (2, 0, x2), (3, 0, x3), (4, 0, x4), (5, 0, x5), (6, 0, x6)] [] S (f_X12_cut_b61B r27 r61 x0 x1 x2 x3 x4 x5 x6 S) := by
  intro x0 x1 x2 x3 x4 x5 x6 S h0 h1 h2 h3 h4 h5 h6
  unfold f_X12_cut_b61B
  refine j_iload 6 dX12_cut_61 rfl ?_
  refine j_iconst dX12_cut_63 ?_
  refine j_icmp_gt (tgt := 111) h6 (j_r32 5 rfl) dX12_cut_64 rfl (fun _ => ?_) (fun _ => ?_)
  · refine j_iload 5 dX12_cut_111 rfl ?_
    refine j_iload_n 3 dX12_cut_113 rfl rfl ?_
    refine j_icmp_ge (tgt := 122) h5 h3 dX12_cut_114 rfl (fun _ => ?_) (fun _ => ?_)
    · refine j_iload_n 3 dX12_cut_122 rfl rfl ?_
      refine j_sub [0, 1, 2, 4] rfl ?_
      exact p_f_X12_cut_b123 hd0 k27 x0 x1 x2 x4 x3 S h0 h1 h2 h4 h3
    · refine j_iload 5 dX12_cut_117 rfl ?_
      refine j_goto (tgt := 123) dX12_cut_119 rfl ?_
      refine j_sub [0, 1, 2, 4] rfl ?_
      exact p_f_X12_cut_b123 hd0 k27 x0 x1 x2 x4 x5 S h0 h1 h2 h4 h5
  · refine j_iload 5 dX12_cut_67 rfl ?_
    refine j_iload 4 dX12_cut_69 rfl ?_
    refine j_iload 6 dX12_cut_71 rfl ?_
    refine j_callS (As := [(0, x4), (0, x6)]) (st := [(0, x5)]) kc_X12_has (c_X12_has x4 x6 S h4 h6) lm_X12_249 ks_X12_has rfl (Nat.le_of_ble_eq_true rfl) (Nat.le_trans (m := 3) (Nat.le_of_ble_eq_true rfl) hd0) dX12_cut_73 (fun (v10 : Int) (S11 : jSt) (hv10 : (v10) = 0 ∨ (v10) = 1) => ?_)
    refine j_if_eq (tgt := 101) (jZ_R hv10) dX12_cut_76 rfl (fun _ => ?_) (fun _ => ?_)
    · refine j_iconst dX12_cut_101 ?_
      refine j_sub [0, 1, 2, 3, 4, 6] rfl ?_
      exact p_f_X12_cut_b102 hd0 k27 k61 x0 x1 x2 x3 x4 x6 x5 0 S11 h0 h1 h2 h3 h4 h6 h5 (jZ_R jz0)
    · refine j_aload_n 0 dX12_cut_79 rfl rfl ?_
      refine j_getr (ci := 12) (k := 0) rfl in_X12 (Nat.le_of_ble_eq_true rfl) rfl rfl fl_X12_7 dX12_cut_80 (fun (v14 : Int) (hv14 : 0 ≤ v14) => ?_)
      refine j_sipush dX12_cut_83 (by decide) ?_
      refine j_iload 6 dX12_cut_86 rfl ?_
      refine j_iadd dX12_cut_88 ?_
      refine j_iaload (w32_R _) dX12_cut_89 (fun (v15 : Int) (hv15 : R32 (v15)) => ?_)
      refine j_iload 4 dX12_cut_90 rfl ?_
      refine j_iconst dX12_cut_92 ?_
      refine j_ixor dX12_cut_93 ?_
      refine j_iand dX12_cut_94 ?_
      refine j_callS (As := [(0, iand32 v15 (ixor32 x4 (-1)))]) (st := [(0, x5)]) kc_X12_bits (c_X12_bits (iand32 v15 (ixor32 x4 (-1))) S11 (iand32_R _ _)) lm_X12_305 ks_X12_bits rfl (Nat.le_of_ble_eq_true rfl) (Nat.le_trans (m := 3) (Nat.le_of_ble_eq_true rfl) hd0) dX12_cut_95 (fun (v16 : Int) (S17 : jSt) (hv16 : R32 (v16)) => ?_)
      refine j_goto (tgt := 102) dX12_cut_98 rfl ?_
      refine j_sub [0, 1, 2, 3, 4, 6] rfl ?_
      exact p_f_X12_cut_b102 hd0 k27 k61 x0 x1 x2 x3 x4 x6 x5 v16 S17 h0 h1 h2 h3 h4 h6 h5 hv16
def f_X12_cut_b61 (r27 : Int → Int → Int → Int → Int → jSt → Option (Int × jSt)) : Int → Int → Int → Int → Int → Int → Int → jSt → Option (Int × jSt) := jrep (β := Int → Int → Int → Int → Int → Int → Int → jSt → Option (Int × jSt)) (fun _ _ _ _ _ _ _ _ => none) (fun r => f_X12_cut_b61B r27 r) jN
theorem p_f_X12_cut_b61 {G : jG} {d : Nat} {S0 : jSt} (hd0 : 3 ≤ d) {r27 : Int → Int → Int → Int → Int → jSt → Option (Int × jSt)} (k27 : ∀ (x0 : Int) (x1 : Int) (x2 : Int) (x3 : Int) (x4 : Int) (S : jSt), (0 ≤ (x0)) → (R32 (x1)) → (R32 (x2)) → (R32 (x3)) → (R32 (x4)) → J G yX12_cut cX12_cut 7 (some .int) d S0 27 [(0, 2, x0), (1, 0, x1), (2, 0, x2), (3, 0, x3), (4, 0, x4)] [] S (r27 x0 x1 x2 x3 x4 S)) : ∀ (x0 : Int) (x1 : Int) (x2 : Int) (x3 : Int) (x4 : Int) (x5 : Int) (x6 : Int) (S : jSt), (0 ≤ (x0)) → (R32 (x1)) → (R32 (x2)) → (R32 (x3)) → (R32 (x4)) → (R32 (x5)) → (R32 (x6)) → J G yX12_cut cX12_cut 7 (some .int) d S0 61 [(0, 2, x0), (1, 0, x1), (2, 0, x2), (3, 0, x3), (4, 0, x4), (5, 0, x5), (6, 0, x6)] [] S (f_X12_cut_b61 r27 x0 x1 x2 x3 x4 x5 x6 S) :=
  jrep_ind (P := fun (r : Int → Int → Int → Int → Int → Int → Int → jSt → Option (Int × jSt)) => ∀ (x0 : Int) (x1 : Int) (x2 : Int) (x3 : Int) (x4 : Int) (x5 : Int) (x6 : Int) (S : jSt), (0 ≤ (x0)) → (R32 (x1)) → (R32 (x2)) → (R32 (x3)) → (R32 (x4)) → (R32 (x5)) → (R32 (x6)) → J G yX12_cut cX12_cut 7 (some .int) d S0 61 [(0, 2, x0), (1, 0, x1), (2, 0, x2), (3, 0, x3), (4, 0, x4), (5, 0, x5), (6, 0, x6)] [] S (r x0 x1 x2 x3 x4 x5 x6 S)) (by intros; exact j_none) (fun r k => p_f_X12_cut_b61B hd0 k27 k) jN
def f_X12_cut_b27B (r27 : Int → Int → Int → Int → Int → jSt → Option (Int × jSt)) (x0 : Int) (x1 : Int) (x2 : Int) (x3 : Int) (x4 : Int) (S : jSt) : Option (Int × jSt) :=
  if 64 ≤ x4 then some (x3, S) else fcall (f_X12_has x4 x1 S) (fun v5 S6 => if v5 = 0 then f_X12_cut_b124 r27 x0 x1 x2 x3 x4 S6 else fcall (f_X12_has x4 x2 S6) (fun v8 S9 => if v8 = 0 then f_X12_cut_b61 r27 x0 x1 x2 x3 x4 0 0 S9 else f_X12_cut_b124 r27 x0 x1 x2 x3 x4 S9))
theorem p_f_X12_cut_b27B {G : jG} {d : Nat} {S0 : jSt} (hd0 : 3 ≤ d) {r27 : Int → Int → Int → Int → Int → jSt → Option (Int × jSt)} (k27 : ∀ (x0 : Int) (x1 : Int) (x2 : Int) (x3 : Int) (x4 : Int) (S : jSt), (0 ≤ (x0)) → (R32 (x1)) → (R32 (x2)) → (R32 (x3)) → (R32 (x4)) → J G yX12_cut cX12_cut 7 (some .int) d S0 27 [(0, 2, x0), (1, 0, x1), (2, 0, x2), (3, 0, x3), (4, 0, x4)] [] S (r27 x0 x1 x2 x3 x4 S)) : ∀ (x0 : Int) (x1 : Int) (x2 : Int) (x3 : Int) (x4 : Int) (S : jSt), (0 ≤ (x0)) → (R32 (x1)) → (R32 (x2)) → (R32 (x3)) → (R32 (x4)) → J G yX12_cut cX12_cut 7 (some .int) d S0 27 [(0, 2, x0), (1, 0, x1), (2, 0, x2), (3, 0, x3), (4, 0, x4)] [] S (f_X12_cut_b27B r27 x0 x1 x2 x3 x4 S) := by
  intro x0 x1 x2 x3 x4 S h0 h1 h2 h3 h4
  unfold f_X12_cut_b27B
  refine j_iload 4 dX12_cut_27 rfl ?_
  refine j_bipush dX12_cut_29 (by decide) ?_
  refine j_icmp_ge (tgt := 130) h4 (j_r32 64 rfl) dX12_cut_31 rfl (fun _ => ?_) (fun _ => ?_)
  · refine j_iload_n 3 dX12_cut_130 rfl rfl ?_
    exact j_ireturn h3 dX12_cut_131
  · refine j_iload 4 dX12_cut_34 rfl ?_
    refine j_iload_n 1 dX12_cut_36 rfl rfl ?_
    refine j_callS (As := [(0, x4), (0, x1)]) (st := []) kc_X12_has (c_X12_has x4 x1 S h4 h1) lm_X12_249 ks_X12_has rfl (Nat.le_of_ble_eq_true rfl) (Nat.le_trans (m := 3) (Nat.le_of_ble_eq_true rfl) hd0) dX12_cut_37 (fun (v5 : Int) (S6 : jSt) (hv5 : (v5) = 0 ∨ (v5) = 1) => ?_)
    refine j_if_eq (tgt := 124) (jZ_R hv5) dX12_cut_40 rfl (fun _ => ?_) (fun _ => ?_)
    · exact p_f_X12_cut_b124 hd0 k27 x0 x1 x2 x3 x4 S6 h0 h1 h2 h3 h4
    · refine j_iload 4 dX12_cut_43 rfl ?_
      refine j_iload_n 2 dX12_cut_45 rfl rfl ?_
      refine j_callS (As := [(0, x4), (0, x2)]) (st := []) kc_X12_has (c_X12_has x4 x2 S6 h4 h2) lm_X12_249 ks_X12_has rfl (Nat.le_of_ble_eq_true rfl) (Nat.le_trans (m := 3) (Nat.le_of_ble_eq_true rfl) hd0) dX12_cut_46 (fun (v8 : Int) (S9 : jSt) (hv8 : (v8) = 0 ∨ (v8) = 1) => ?_)
      refine j_if_eq (tgt := 55) (jZ_R hv8) dX12_cut_49 rfl (fun _ => ?_) (fun _ => ?_)
      · refine j_iconst dX12_cut_55 ?_
        refine j_istore (lv' := [(5, 0, 0), (0, 2, x0), (1, 0, x1), (2, 0, x2), (3, 0, x3), (4, 0, x4)]) dX12_cut_56 (Nat.le_of_ble_eq_true rfl) rfl ?_
        refine j_iconst dX12_cut_58 ?_
        refine j_istore (lv' := [(6, 0, 0), (5, 0, 0), (0, 2, x0), (1, 0, x1), (2, 0, x2), (3, 0, x3), (4, 0, x4)]) dX12_cut_59 (Nat.le_of_ble_eq_true rfl) rfl ?_
        refine j_sub [2, 3, 4, 5, 6, 1, 0] rfl ?_
        exact p_f_X12_cut_b61 hd0 k27 x0 x1 x2 x3 x4 0 0 S9 h0 h1 h2 h3 h4 (jZ_R jz0) (jZ_R jz0)
      · refine j_goto (tgt := 124) dX12_cut_52 rfl ?_
        exact p_f_X12_cut_b124 hd0 k27 x0 x1 x2 x3 x4 S9 h0 h1 h2 h3 h4
def f_X12_cut_b27 : Int → Int → Int → Int → Int → jSt → Option (Int × jSt) := jrep (β := Int → Int → Int → Int → Int → jSt → Option (Int × jSt)) (fun _ _ _ _ _ _ => none) (fun r => f_X12_cut_b27B r) jN
theorem p_f_X12_cut_b27 {G : jG} {d : Nat} {S0 : jSt} (hd0 : 3 ≤ d) : ∀ (x0 : Int) (x1 : Int) (x2 : Int) (x3 : Int) (x4 : Int) (S : jSt), (0 ≤ (x0)) → (R32 (x1)) → (R32 (x2)) → (R32 (x3)) → (R32 (x4)) → J G yX12_cut cX12_cut 7 (some .int) d S0 27 [(0, 2, x0), (1, 0, x1), (2, 0, x2), (3, 0, x3), (4, 0, x4)] [] S (f_X12_cut_b27  x0 x1 x2 x3 x4 S) :=
  jrep_ind (P := fun (r : Int → Int → Int → Int → Int → jSt → Option (Int × jSt)) => ∀ (x0 : Int) (x1 : Int) (x2 : Int) (x3 : Int) (x4 : Int) (S : jSt), (0 ≤ (x0)) → (R32 (x1)) → (R32 (x2)) → (R32 (x3)) → (R32 (x4)) → J G yX12_cut cX12_cut 7 (some .int) d S0 27 [(0, 2, x0), (1, 0, x1), (2, 0, x2), (3, 0, x3), (4, 0, x4)] [] S (r x0 x1 x2 x3 x4 S)) (by intros; exact j_none) (fun r k => p_f_X12_cut_b27B hd0 k) jN
def f_X12_cut (a0 : Int) (a1 : Int) (a2 : Int) (S : jSt) : Option (Int × jSt) :=
  fcall (f_X12_isFloor a1 S) (fun v1 S2 => if v1 = 0 then f_X12_cut_b19 S2 else fcall (f_X12_isFloor a2 S2) (fun v3 S4 => if v3 = 0 then f_X12_cut_b19 S4 else if a1 = a2 then f_X12_cut_b19 S4 else f_X12_cut_b27 a0 a1 a2 99 0 S4))
theorem e_X12_cut {G : jG} {d : Nat} {S0 : jSt} (hd0 : 3 ≤ d) (a0 : Int) (a1 : Int) (a2 : Int) (S : jSt) (h0 : 0 ≤ (a0)) (h1 : R32 (a1)) (h2 : R32 (a2)) : J G yX12_cut cX12_cut 7 (some .int) d S0 0 [(0, 2, a0), (1, 0, a1), (2, 0, a2)] [] S (f_X12_cut a0 a1 a2 S) := by
  unfold f_X12_cut
  refine j_iload_n 1 dX12_cut_0 rfl rfl ?_
  refine j_callS (As := [(0, a1)]) (st := []) kc_X12_isFloor (c_X12_isFloor a1 S h1) lm_X12_72 ks_X12_isFloor rfl (Nat.le_of_ble_eq_true rfl) (Nat.le_trans (m := 3) (Nat.le_of_ble_eq_true rfl) hd0) dX12_cut_1 (fun (v1 : Int) (S2 : jSt) (hv1 : (v1) = 0 ∨ (v1) = 1) => ?_)
  refine j_if_eq (tgt := 19) (jZ_R hv1) dX12_cut_4 rfl (fun _ => ?_) (fun _ => ?_)
  · refine j_sub [] rfl ?_
    exact p_f_X12_cut_b19 hd0 S2
  · refine j_iload_n 2 dX12_cut_7 rfl rfl ?_
    refine j_callS (As := [(0, a2)]) (st := []) kc_X12_isFloor (c_X12_isFloor a2 S2 h2) lm_X12_72 ks_X12_isFloor rfl (Nat.le_of_ble_eq_true rfl) (Nat.le_trans (m := 3) (Nat.le_of_ble_eq_true rfl) hd0) dX12_cut_8 (fun (v3 : Int) (S4 : jSt) (hv3 : (v3) = 0 ∨ (v3) = 1) => ?_)
    refine j_if_eq (tgt := 19) (jZ_R hv3) dX12_cut_11 rfl (fun _ => ?_) (fun _ => ?_)
    · refine j_sub [] rfl ?_
      exact p_f_X12_cut_b19 hd0 S4
    · refine j_iload_n 1 dX12_cut_14 rfl rfl ?_
      refine j_iload_n 2 dX12_cut_15 rfl rfl ?_
      refine j_icmp_ne (tgt := 21) h1 h2 dX12_cut_16 rfl (fun _ => ?_) (fun _ => ?_)
      · refine j_bipush dX12_cut_21 (by decide) ?_
        refine j_istore_n (lv' := [(3, 0, 99), (0, 2, a0), (1, 0, a1), (2, 0, a2)]) dX12_cut_23 rfl (Nat.le_of_ble_eq_true rfl) rfl ?_
        refine j_iconst dX12_cut_24 ?_
        refine j_istore (lv' := [(4, 0, 0), (3, 0, 99), (0, 2, a0), (1, 0, a1), (2, 0, a2)]) dX12_cut_25 (Nat.le_of_ble_eq_true rfl) rfl ?_
        refine j_sub [2, 3, 4, 1, 0] rfl ?_
        exact p_f_X12_cut_b27 hd0 a0 a1 a2 99 0 S4 h0 h1 h2 (j_r32 99 rfl) (jZ_R jz0)
      · refine j_sub [] rfl ?_
        exact p_f_X12_cut_b19 hd0 S4
theorem c_X12_cut {G : jG} (a0 : Int) (a1 : Int) (a2 : Int) (S : jSt) (h0 : 0 ≤ (a0)) (h1 : R32 (a1)) (h2 : R32 (a2)) : CT G yX12_cut cX12_cut 7 (some .int) 3 ([(2, a0), (0, a1), (0, a2)].map jval) S (f_X12_cut a0 a1 a2 S) := ct_of [(2, a0), (0, a1), (0, a2)] (by decide) rfl (Nat.le_of_ble_eq_true rfl) (e_X12_cut (Nat.le_refl _) a0 a1 a2 S h0 h1 h2)
-- X12_of
def f_X12_of_b139 (x0 : Int) (S : jSt) : Option (Int × jSt) :=
  some (x0, S)
theorem p_f_X12_of_b139 {G : jG} {d : Nat} {S0 : jSt} (hd0 : 7 ≤ d) : ∀ (x0 : Int) (S : jSt), (R32 (x0)) → J G yX12_of cX12_of 4 (some .int) d S0 139 [] [(0, x0)] S (f_X12_of_b139  x0 S) := by
  intro x0 S h0
  unfold f_X12_of_b139
  exact j_ireturn h0 dX12_of_139
def f_X12_of_b28 (x0 : Int) (x1 : Int) (x2 : Int) (x3 : Int) (S : jSt) : Option (Int × jSt) :=
  if x2 = 0 then fcallv S x0 12 (f_X12_get x0 x1 0 S) (fun v5 S6 => some (v5, S6)) else if x2 = 1 then fcallv S x0 12 (f_X12_get x0 x1 2 S) (fun v7 S8 => some (v7, S8)) else if x2 = 2 then fcallv S x0 12 (f_X12_get x0 x1 3 S) (fun v9 S10 => some (v9, S10)) else if x2 = 3 then fcallv S x0 12 (f_X12_get x0 x1 1 S) (fun v11 S12 => some (v11, S12)) else if x2 = 4 then fcallv S x0 12 (f_X12_reserveOf x0 x1 S) (fun v13 S14 => some (v13, S14)) else if x2 = 5 then fgetr S x0 12 0 (fun v15 => fald S v15 3 1 (fun v16 => fcallv S x0 12 (f_X12_warmsOf x0 v16 x1 S) (fun v17 S18 => some (v17, S18)))) else if x2 = 6 then some (x3, S) else if x2 = 7 then if x3 = (-1) then f_X12_of_b139 (-1) S else fcallv S x0 12 (f_X12_priceOf x0 x1 x3 S) (fun v19 S20 => f_X12_of_b139 v19 S20) else some ((-2), S)
theorem p_f_X12_of_b28 {G : jG} {d : Nat} {S0 : jSt} (hd0 : 7 ≤ d) : ∀ (x0 : Int) (x1 : Int) (x2 : Int) (x3 : Int) (S : jSt), (0 ≤ (x0)) → (R32 (x1)) → (R32 (x2)) → (R32 (x3)) → J G yX12_of cX12_of 4 (some .int) d S0 28 [(0, 2, x0), (1, 0, x1), (2, 0, x2)] [(0, x3)] S (f_X12_of_b28  x0 x1 x2 x3 S) := by
  intro x0 x1 x2 x3 S h0 h1 h2 h3
  unfold f_X12_of_b28
  refine j_istore_n (lv' := [(3, 0, x3), (0, 2, x0), (1, 0, x1), (2, 0, x2)]) dX12_of_28 rfl (Nat.le_of_ble_eq_true rfl) rfl ?_
  refine j_iload_n 3 dX12_of_29 rfl rfl ?_
  refine j_ite (fun hc0 => ?_) (fun hc0 => ?_)
  · refine j_tableIn (tgt := 76) (off := 46) h2 dX12_of_30 (by omega) (by omega) (by rw [hc0]; rfl) rfl ?_
    refine j_aload_n 1 dX12_of_76 rfl rfl ?_
    refine j_iload_n 2 dX12_of_77 rfl rfl ?_
    refine j_iconst dX12_of_78 ?_
    refine j_callV (ci := 12) (As := [(0, x1), (0, 0)]) (st := []) kc_X12_get (c_X12_get x0 x1 0 S h0 h1 (jZ_R jz0)) rfl lm_X12_68 ki_X12_get ke_X12_get rfl (Nat.le_of_ble_eq_true rfl) (Nat.le_trans (m := 7) (Nat.le_of_ble_eq_true rfl) hd0) dX12_of_79 (fun (v5 : Int) (S6 : jSt) (hv5 : R32 (v5)) => ?_)
    exact j_ireturn hv5 dX12_of_82
  refine j_ite (fun hc1 => ?_) (fun hc1 => ?_)
  · refine j_tableIn (tgt := 83) (off := 53) h2 dX12_of_30 (by omega) (by omega) (by rw [hc1]; rfl) rfl ?_
    refine j_aload_n 1 dX12_of_83 rfl rfl ?_
    refine j_iload_n 2 dX12_of_84 rfl rfl ?_
    refine j_iconst dX12_of_85 ?_
    refine j_callV (ci := 12) (As := [(0, x1), (0, 2)]) (st := []) kc_X12_get (c_X12_get x0 x1 2 S h0 h1 (j_r32 2 rfl)) rfl lm_X12_68 ki_X12_get ke_X12_get rfl (Nat.le_of_ble_eq_true rfl) (Nat.le_trans (m := 7) (Nat.le_of_ble_eq_true rfl) hd0) dX12_of_86 (fun (v7 : Int) (S8 : jSt) (hv7 : R32 (v7)) => ?_)
    exact j_ireturn hv7 dX12_of_89
  refine j_ite (fun hc2 => ?_) (fun hc2 => ?_)
  · refine j_tableIn (tgt := 90) (off := 60) h2 dX12_of_30 (by omega) (by omega) (by rw [hc2]; rfl) rfl ?_
    refine j_aload_n 1 dX12_of_90 rfl rfl ?_
    refine j_iload_n 2 dX12_of_91 rfl rfl ?_
    refine j_iconst dX12_of_92 ?_
    refine j_callV (ci := 12) (As := [(0, x1), (0, 3)]) (st := []) kc_X12_get (c_X12_get x0 x1 3 S h0 h1 (j_r32 3 rfl)) rfl lm_X12_68 ki_X12_get ke_X12_get rfl (Nat.le_of_ble_eq_true rfl) (Nat.le_trans (m := 7) (Nat.le_of_ble_eq_true rfl) hd0) dX12_of_93 (fun (v9 : Int) (S10 : jSt) (hv9 : R32 (v9)) => ?_)
    exact j_ireturn hv9 dX12_of_96
  refine j_ite (fun hc3 => ?_) (fun hc3 => ?_)
  · refine j_tableIn (tgt := 97) (off := 67) h2 dX12_of_30 (by omega) (by omega) (by rw [hc3]; rfl) rfl ?_
    refine j_aload_n 1 dX12_of_97 rfl rfl ?_
    refine j_iload_n 2 dX12_of_98 rfl rfl ?_
    refine j_iconst dX12_of_99 ?_
    refine j_callV (ci := 12) (As := [(0, x1), (0, 1)]) (st := []) kc_X12_get (c_X12_get x0 x1 1 S h0 h1 (jZ_R jz1)) rfl lm_X12_68 ki_X12_get ke_X12_get rfl (Nat.le_of_ble_eq_true rfl) (Nat.le_trans (m := 7) (Nat.le_of_ble_eq_true rfl) hd0) dX12_of_100 (fun (v11 : Int) (S12 : jSt) (hv11 : R32 (v11)) => ?_)
    exact j_ireturn hv11 dX12_of_103
  refine j_ite (fun hc4 => ?_) (fun hc4 => ?_)
  · refine j_tableIn (tgt := 104) (off := 74) h2 dX12_of_30 (by omega) (by omega) (by rw [hc4]; rfl) rfl ?_
    refine j_aload_n 1 dX12_of_104 rfl rfl ?_
    refine j_iload_n 2 dX12_of_105 rfl rfl ?_
    refine j_callV (ci := 12) (As := [(0, x1)]) (st := []) kc_X12_reserveOf (c_X12_reserveOf x0 x1 S h0 h1) rfl lm_X12_322 ki_X12_reserveOf ke_X12_reserveOf rfl (Nat.le_of_ble_eq_true rfl) (Nat.le_trans (m := 7) (Nat.le_of_ble_eq_true rfl) hd0) dX12_of_106 (fun (v13 : Int) (S14 : jSt) (hv13 : R32 (v13)) => ?_)
    exact j_ireturn hv13 dX12_of_109
  refine j_ite (fun hc5 => ?_) (fun hc5 => ?_)
  · refine j_tableIn (tgt := 110) (off := 80) h2 dX12_of_30 (by omega) (by omega) (by rw [hc5]; rfl) rfl ?_
    refine j_aload_n 1 dX12_of_110 rfl rfl ?_
    refine j_aload_n 1 dX12_of_111 rfl rfl ?_
    refine j_getr (ci := 12) (k := 0) rfl in_X12 (Nat.le_of_ble_eq_true rfl) rfl rfl fl_X12_7 dX12_of_112 (fun (v15 : Int) (hv15 : 0 ≤ v15) => ?_)
    refine j_iconst dX12_of_115 ?_
    refine j_iaload (j_r32 3 rfl) dX12_of_116 (fun (v16 : Int) (hv16 : R32 (v16)) => ?_)
    refine j_iload_n 2 dX12_of_117 rfl rfl ?_
    refine j_callV (ci := 12) (As := [(0, v16), (0, x1)]) (st := []) kc_X12_warmsOf (c_X12_warmsOf x0 v16 x1 S h0 hv16 h1) rfl lm_X12_343 ki_X12_warmsOf ke_X12_warmsOf rfl (Nat.le_of_ble_eq_true rfl) (Nat.le_trans (m := 7) (Nat.le_of_ble_eq_true rfl) hd0) dX12_of_118 (fun (v17 : Int) (S18 : jSt) (hv17 : R32 (v17)) => ?_)
    exact j_ireturn hv17 dX12_of_121
  refine j_ite (fun hc6 => ?_) (fun hc6 => ?_)
  · refine j_tableIn (tgt := 122) (off := 92) h2 dX12_of_30 (by omega) (by omega) (by rw [hc6]; rfl) rfl ?_
    refine j_iload_n 0 dX12_of_122 rfl rfl ?_
    exact j_ireturn h3 dX12_of_123
  refine j_ite (fun hc7 => ?_) (fun hc7 => ?_)
  · refine j_tableIn (tgt := 124) (off := 94) h2 dX12_of_30 (by omega) (by omega) (by rw [hc7]; rfl) rfl ?_
    refine j_iload_n 0 dX12_of_124 rfl rfl ?_
    refine j_iconst dX12_of_125 ?_
    refine j_icmp_ne (tgt := 133) h3 (j_r32 (-1) rfl) dX12_of_126 rfl (fun _ => ?_) (fun _ => ?_)
    · refine j_aload_n 1 dX12_of_133 rfl rfl ?_
      refine j_iload_n 2 dX12_of_134 rfl rfl ?_
      refine j_iload_n 0 dX12_of_135 rfl rfl ?_
      refine j_callV (ci := 12) (As := [(0, x1), (0, x3)]) (st := []) kc_X12_priceOf (c_X12_priceOf x0 x1 x3 S h0 h1 h3) rfl lm_X12_328 ki_X12_priceOf ke_X12_priceOf rfl (Nat.le_of_ble_eq_true rfl) (Nat.le_trans (m := 7) (Nat.le_of_ble_eq_true rfl) hd0) dX12_of_136 (fun (v19 : Int) (S20 : jSt) (hv19 : R32 (v19)) => ?_)
      refine j_sub [] rfl ?_
      exact p_f_X12_of_b139 hd0 v19 S20 hv19
    · refine j_iconst dX12_of_129 ?_
      refine j_goto (tgt := 139) dX12_of_130 rfl ?_
      refine j_sub [] rfl ?_
      exact p_f_X12_of_b139 hd0 (-1) S (j_r32 (-1) rfl)
  refine j_tableOut (tgt := 140) h2 dX12_of_30 (by omega) rfl ?_
  refine j_bipush dX12_of_140 (by decide) ?_
  exact j_ireturn (j_r32 (-2) rfl) dX12_of_142
def f_X12_of (a0 : Int) (a1 : Int) (a2 : Int) (S : jSt) : Option (Int × jSt) :=
  fcallv S a0 12 (f_X12_isLot a0 a1 S) (fun v1 S2 => if v1 = 0 then some ((-2), S2) else fcallv S2 a0 12 (f_X12_isInHouse a0 a1 S2) (fun v3 S4 => if v3 = 0 then f_X12_of_b28 a0 a1 a2 (-1) S4 else fcallv S4 a0 12 (f_X12_winnerOf a0 a1 S4) (fun v21 S22 => f_X12_of_b28 a0 a1 a2 v21 S22)))
theorem e_X12_of {G : jG} {d : Nat} {S0 : jSt} (hd0 : 7 ≤ d) (a0 : Int) (a1 : Int) (a2 : Int) (S : jSt) (h0 : 0 ≤ (a0)) (h1 : R32 (a1)) (h2 : R32 (a2)) : J G yX12_of cX12_of 4 (some .int) d S0 0 [(0, 2, a0), (1, 0, a1), (2, 0, a2)] [] S (f_X12_of a0 a1 a2 S) := by
  unfold f_X12_of
  refine j_aload_n 0 dX12_of_0 rfl rfl ?_
  refine j_iload_n 1 dX12_of_1 rfl rfl ?_
  refine j_callV (ci := 12) (As := [(0, a1)]) (st := []) kc_X12_isLot (c_X12_isLot a0 a1 S h0 h1) rfl lm_X12_64 ki_X12_isLot ke_X12_isLot rfl (Nat.le_of_ble_eq_true rfl) (Nat.le_trans (m := 7) (Nat.le_of_ble_eq_true rfl) hd0) dX12_of_2 (fun (v1 : Int) (S2 : jSt) (hv1 : (v1) = 0 ∨ (v1) = 1) => ?_)
  refine j_if_ne (tgt := 11) (jZ_R hv1) dX12_of_5 rfl (fun _ => ?_) (fun _ => ?_)
  · refine j_aload_n 0 dX12_of_11 rfl rfl ?_
    refine j_iload_n 1 dX12_of_12 rfl rfl ?_
    refine j_callV (ci := 12) (As := [(0, a1)]) (st := []) kc_X12_isInHouse (c_X12_isInHouse a0 a1 S2 h0 h1) rfl lm_X12_337 ki_X12_isInHouse ke_X12_isInHouse rfl (Nat.le_of_ble_eq_true rfl) (Nat.le_trans (m := 7) (Nat.le_of_ble_eq_true rfl) hd0) dX12_of_13 (fun (v3 : Int) (S4 : jSt) (hv3 : (v3) = 0 ∨ (v3) = 1) => ?_)
    refine j_if_eq (tgt := 27) (jZ_R hv3) dX12_of_16 rfl (fun _ => ?_) (fun _ => ?_)
    · refine j_iconst dX12_of_27 ?_
      exact p_f_X12_of_b28 hd0 a0 a1 a2 (-1) S4 h0 h1 h2 (j_r32 (-1) rfl)
    · refine j_aload_n 0 dX12_of_19 rfl rfl ?_
      refine j_iload_n 1 dX12_of_20 rfl rfl ?_
      refine j_callV (ci := 12) (As := [(0, a1)]) (st := []) kc_X12_winnerOf (c_X12_winnerOf a0 a1 S4 h0 h1) rfl lm_X12_325 ki_X12_winnerOf ke_X12_winnerOf rfl (Nat.le_of_ble_eq_true rfl) (Nat.le_trans (m := 7) (Nat.le_of_ble_eq_true rfl) hd0) dX12_of_21 (fun (v21 : Int) (S22 : jSt) (hv21 : R32 (v21)) => ?_)
      refine j_goto (tgt := 28) dX12_of_24 rfl ?_
      exact p_f_X12_of_b28 hd0 a0 a1 a2 v21 S22 h0 h1 h2 hv21
  · refine j_bipush dX12_of_8 (by decide) ?_
    exact j_ireturn (j_r32 (-2) rfl) dX12_of_10
theorem c_X12_of {G : jG} (a0 : Int) (a1 : Int) (a2 : Int) (S : jSt) (h0 : 0 ≤ (a0)) (h1 : R32 (a1)) (h2 : R32 (a2)) : CT G yX12_of cX12_of 4 (some .int) 7 ([(2, a0), (0, a1), (0, a2)].map jval) S (f_X12_of a0 a1 a2 S) := ct_of [(2, a0), (0, a1), (0, a2)] (by decide) rfl (Nat.le_of_ble_eq_true rfl) (e_X12_of (Nat.le_refl _) a0 a1 a2 S h0 h1 h2)
-- X12_dearest
def f_X12_dearest_b39 (r6 : Int → Int → Int → Int → jSt → Option (Int × jSt)) (x0 : Int) (x1 : Int) (x2 : Int) (x3 : Int) (S : jSt) : Option (Int × jSt) :=
  flet (w32 (x3 + 1)) (fun v5 => r6 x0 x1 x2 v5 S)
theorem p_f_X12_dearest_b39 {G : jG} {d : Nat} {S0 : jSt} (hd0 : 8 ≤ d) {r6 : Int → Int → Int → Int → jSt → Option (Int × jSt)} (k6 : ∀ (x0 : Int) (x1 : Int) (x2 : Int) (x3 : Int) (S : jSt), (0 ≤ (x0)) → (R32 (x1)) → (R32 (x2)) → (R32 (x3)) → J G yX12_dearest cX12_dearest 5 (some .int) d S0 6 [(0, 2, x0), (1, 0, x1), (2, 0, x2), (3, 0, x3)] [] S (r6 x0 x1 x2 x3 S)) : ∀ (x0 : Int) (x1 : Int) (x2 : Int) (x3 : Int) (S : jSt), (0 ≤ (x0)) → (R32 (x1)) → (R32 (x2)) → (R32 (x3)) → J G yX12_dearest cX12_dearest 5 (some .int) d S0 39 [(0, 2, x0), (1, 0, x1), (2, 0, x2), (3, 0, x3)] [] S (f_X12_dearest_b39 r6 x0 x1 x2 x3 S) := by
  intro x0 x1 x2 x3 S h0 h1 h2 h3
  unfold f_X12_dearest_b39
  refine j_iincL (q := 3) dX12_dearest_39 rfl (Nat.le_of_ble_eq_true rfl) (fun v5 hv5 => ?_)
  refine j_lv (lv' := [(3, 0, v5), (0, 2, x0), (1, 0, x1), (2, 0, x2)]) rfl ?_
  refine j_goto (tgt := 6) dX12_dearest_42 rfl ?_
  refine j_sub [1, 2, 3, 0] rfl ?_
  exact k6 x0 x1 x2 v5 S h0 h1 h2 hv5
def f_X12_dearest_b6B (r6 : Int → Int → Int → Int → jSt → Option (Int × jSt)) (x0 : Int) (x1 : Int) (x2 : Int) (x3 : Int) (S : jSt) : Option (Int × jSt) :=
  fgetr S x0 12 0 (fun v1 => fald S v1 0 1 (fun v2 => if v2 ≤ x3 then some (x1, S) else fcallv S x0 12 (f_X12_of x0 x3 7 S) (fun v3 S4 => if x2 < v3 then f_X12_dearest_b39 r6 x0 x3 v3 x3 S4 else f_X12_dearest_b39 r6 x0 x1 x2 x3 S4)))
theorem p_f_X12_dearest_b6B {G : jG} {d : Nat} {S0 : jSt} (hd0 : 8 ≤ d) {r6 : Int → Int → Int → Int → jSt → Option (Int × jSt)} (k6 : ∀ (x0 : Int) (x1 : Int) (x2 : Int) (x3 : Int) (S : jSt), (0 ≤ (x0)) → (R32 (x1)) → (R32 (x2)) → (R32 (x3)) → J G yX12_dearest cX12_dearest 5 (some .int) d S0 6 [(0, 2, x0), (1, 0, x1), (2, 0, x2), (3, 0, x3)] [] S (r6 x0 x1 x2 x3 S)) : ∀ (x0 : Int) (x1 : Int) (x2 : Int) (x3 : Int) (S : jSt), (0 ≤ (x0)) → (R32 (x1)) → (R32 (x2)) → (R32 (x3)) → J G yX12_dearest cX12_dearest 5 (some .int) d S0 6 [(0, 2, x0), (1, 0, x1), (2, 0, x2), (3, 0, x3)] [] S (f_X12_dearest_b6B r6 x0 x1 x2 x3 S) := by
  intro x0 x1 x2 x3 S h0 h1 h2 h3
  unfold f_X12_dearest_b6B
  refine j_iload_n 3 dX12_dearest_6 rfl rfl ?_
  refine j_aload_n 0 dX12_dearest_7 rfl rfl ?_
  refine j_getr (ci := 12) (k := 0) rfl in_X12 (Nat.le_of_ble_eq_true rfl) rfl rfl fl_X12_7 dX12_dearest_8 (fun (v1 : Int) (hv1 : 0 ≤ v1) => ?_)
  refine j_iconst dX12_dearest_11 ?_
  refine j_iaload (jZ_R jz0) dX12_dearest_12 (fun (v2 : Int) (hv2 : R32 (v2)) => ?_)
  refine j_icmp_ge (tgt := 45) h3 hv2 dX12_dearest_13 rfl (fun _ => ?_) (fun _ => ?_)
  · refine j_iload_n 1 dX12_dearest_45 rfl rfl ?_
    exact j_ireturn h1 dX12_dearest_46
  · refine j_aload_n 0 dX12_dearest_16 rfl rfl ?_
    refine j_iload_n 3 dX12_dearest_17 rfl rfl ?_
    refine j_bipush dX12_dearest_18 (by decide) ?_
    refine j_callV (ci := 12) (As := [(0, x3), (0, 7)]) (st := []) kc_X12_of (c_X12_of x0 x3 7 S h0 h3 (j_r32 7 rfl)) rfl lm_X12_412 ki_X12_of ke_X12_of rfl (Nat.le_of_ble_eq_true rfl) (Nat.le_trans (m := 8) (Nat.le_of_ble_eq_true rfl) hd0) dX12_dearest_20 (fun (v3 : Int) (S4 : jSt) (hv3 : R32 (v3)) => ?_)
    refine j_istore (lv' := [(4, 0, v3), (0, 2, x0), (1, 0, x1), (2, 0, x2), (3, 0, x3)]) dX12_dearest_23 (Nat.le_of_ble_eq_true rfl) rfl ?_
    refine j_iload 0 dX12_dearest_25 rfl ?_
    refine j_iload_n 3 dX12_dearest_27 rfl rfl ?_
    refine j_icmp_gt (tgt := 34) hv3 h2 dX12_dearest_28 rfl (fun _ => ?_) (fun _ => ?_)
    · refine j_iload 0 dX12_dearest_34 rfl ?_
      refine j_istore_n (lv' := [(2, 0, v3), (4, 0, v3), (0, 2, x0), (1, 0, x1), (3, 0, x3)]) dX12_dearest_36 rfl (Nat.le_of_ble_eq_true rfl) rfl ?_
      refine j_iload_n 4 dX12_dearest_37 rfl rfl ?_
      refine j_istore_n (lv' := [(1, 0, x3), (2, 0, v3), (4, 0, v3), (0, 2, x0), (3, 0, x3)]) dX12_dearest_38 rfl (Nat.le_of_ble_eq_true rfl) rfl ?_
      refine j_sub [3, 0, 1, 4] rfl ?_
      exact p_f_X12_dearest_b39 hd0 k6 x0 x3 v3 x3 S4 h0 h3 hv3 h3
    · refine j_goto (tgt := 39) dX12_dearest_31 rfl ?_
      refine j_sub [1, 2, 3, 4] rfl ?_
      exact p_f_X12_dearest_b39 hd0 k6 x0 x1 x2 x3 S4 h0 h1 h2 h3
def f_X12_dearest_b6 : Int → Int → Int → Int → jSt → Option (Int × jSt) := jrep (β := Int → Int → Int → Int → jSt → Option (Int × jSt)) (fun _ _ _ _ _ => none) (fun r => f_X12_dearest_b6B r) jN
theorem p_f_X12_dearest_b6 {G : jG} {d : Nat} {S0 : jSt} (hd0 : 8 ≤ d) : ∀ (x0 : Int) (x1 : Int) (x2 : Int) (x3 : Int) (S : jSt), (0 ≤ (x0)) → (R32 (x1)) → (R32 (x2)) → (R32 (x3)) → J G yX12_dearest cX12_dearest 5 (some .int) d S0 6 [(0, 2, x0), (1, 0, x1), (2, 0, x2), (3, 0, x3)] [] S (f_X12_dearest_b6  x0 x1 x2 x3 S) :=
  jrep_ind (P := fun (r : Int → Int → Int → Int → jSt → Option (Int × jSt)) => ∀ (x0 : Int) (x1 : Int) (x2 : Int) (x3 : Int) (S : jSt), (0 ≤ (x0)) → (R32 (x1)) → (R32 (x2)) → (R32 (x3)) → J G yX12_dearest cX12_dearest 5 (some .int) d S0 6 [(0, 2, x0), (1, 0, x1), (2, 0, x2), (3, 0, x3)] [] S (r x0 x1 x2 x3 S)) (by intros; exact j_none) (fun r k => p_f_X12_dearest_b6B hd0 k) jN
def f_X12_dearest (a0 : Int) (S : jSt) : Option (Int × jSt) :=
  f_X12_dearest_b6 a0 (-1) 0 0 S
theorem e_X12_dearest {G : jG} {d : Nat} {S0 : jSt} (hd0 : 8 ≤ d) (a0 : Int) (S : jSt) (h0 : 0 ≤ (a0)) : J G yX12_dearest cX12_dearest 5 (some .int) d S0 0 [(0, 2, a0)] [] S (f_X12_dearest a0 S) := by
  unfold f_X12_dearest
  refine j_iconst dX12_dearest_0 ?_
  refine j_istore_n (lv' := [(1, 0, (-1)), (0, 2, a0)]) dX12_dearest_1 rfl (Nat.le_of_ble_eq_true rfl) rfl ?_
  refine j_iconst dX12_dearest_2 ?_
  refine j_istore_n (lv' := [(2, 0, 0), (1, 0, (-1)), (0, 2, a0)]) dX12_dearest_3 rfl (Nat.le_of_ble_eq_true rfl) rfl ?_
  refine j_iconst dX12_dearest_4 ?_
  refine j_istore_n (lv' := [(3, 0, 0), (2, 0, 0), (1, 0, (-1)), (0, 2, a0)]) dX12_dearest_5 rfl (Nat.le_of_ble_eq_true rfl) rfl ?_
  refine j_sub [3, 2, 1, 0] rfl ?_
  exact p_f_X12_dearest_b6 hd0 a0 (-1) 0 0 S h0 (j_r32 (-1) rfl) (jZ_R jz0) (jZ_R jz0)
theorem c_X12_dearest {G : jG} (a0 : Int) (S : jSt) (h0 : 0 ≤ (a0)) : CT G yX12_dearest cX12_dearest 5 (some .int) 8 ([(2, a0)].map jval) S (f_X12_dearest a0 S) := ct_of [(2, a0)] (by decide) rfl (Nat.le_of_ble_eq_true rfl) (e_X12_dearest (Nat.le_refl _) a0 S h0)
-- X12_divisor
def f_X12_divisor_b6B (r6 : Int → Int → jSt → Option (Int × jSt)) (x0 : Int) (x1 : Int) (S : jSt) : Option (Int × jSt) :=
  if x1 = 0 then some (x0, S) else if x1 = 0 then none else flet (lrem64 x0 x1) (fun v1 => r6 x1 v1 S)
theorem p_f_X12_divisor_b6B {G : jG} {d : Nat} {S0 : jSt} (hd0 : 1 ≤ d) {r6 : Int → Int → jSt → Option (Int × jSt)} (k6 : ∀ (x0 : Int) (x1 : Int) (S : jSt), (R64 (x0)) → (R64 (x1)) → J G yX12_divisor cX12_divisor 10 (some .long) d S0 6 [(4, 1, x0), (6, 1, x1)] [] S (r6 x0 x1 S)) : ∀ (x0 : Int) (x1 : Int) (S : jSt), (R64 (x0)) → (R64 (x1)) → J G yX12_divisor cX12_divisor 10 (some .long) d S0 6 [(4, 1, x0), (6, 1, x1)] [] S (f_X12_divisor_b6B r6 x0 x1 S) := by
  intro x0 x1 S h0 h1
  unfold f_X12_divisor_b6B
  refine j_lload 1 dX12_divisor_6 rfl ?_
  refine j_lconst (z := 0) dX12_divisor_8 rfl ?_
  refine j_lcmp_eq (tgt := 31) h1 (j_r64 0 rfl) dX12_divisor_9 dX12_divisor_10 rfl (fun _ => ?_) (fun _ => ?_)
  · refine j_lload 0 dX12_divisor_31 rfl ?_
    exact j_lreturn h0 dX12_divisor_33
  · refine j_lload 0 dX12_divisor_13 rfl ?_
    refine j_lload 1 dX12_divisor_15 rfl ?_
    refine j_lrem h1 dX12_divisor_17 ?_
    refine j_letl (lrem64_R _ _) (fun v1 hv1 => ?_)
    refine j_lstore (lv' := [(8, 1, v1), (4, 1, x0), (6, 1, x1)]) dX12_divisor_18 (Nat.le_of_ble_eq_true rfl) rfl ?_
    refine j_lload 2 dX12_divisor_20 rfl ?_
    refine j_lstore (lv' := [(4, 1, x1), (8, 1, v1), (6, 1, x1)]) dX12_divisor_22 (Nat.le_of_ble_eq_true rfl) rfl ?_
    refine j_lload 1 dX12_divisor_24 rfl ?_
    refine j_lstore (lv' := [(6, 1, v1), (4, 1, x1), (8, 1, v1)]) dX12_divisor_26 (Nat.le_of_ble_eq_true rfl) rfl ?_
    refine j_goto (tgt := 6) dX12_divisor_28 rfl ?_
    refine j_sub [1, 0] rfl ?_
    exact k6 x1 v1 S h1 hv1
def f_X12_divisor_b6 : Int → Int → jSt → Option (Int × jSt) := jrep (β := Int → Int → jSt → Option (Int × jSt)) (fun _ _ _ => none) (fun r => f_X12_divisor_b6B r) jN
theorem p_f_X12_divisor_b6 {G : jG} {d : Nat} {S0 : jSt} (hd0 : 1 ≤ d) : ∀ (x0 : Int) (x1 : Int) (S : jSt), (R64 (x0)) → (R64 (x1)) → J G yX12_divisor cX12_divisor 10 (some .long) d S0 6 [(4, 1, x0), (6, 1, x1)] [] S (f_X12_divisor_b6  x0 x1 S) :=
  jrep_ind (P := fun (r : Int → Int → jSt → Option (Int × jSt)) => ∀ (x0 : Int) (x1 : Int) (S : jSt), (R64 (x0)) → (R64 (x1)) → J G yX12_divisor cX12_divisor 10 (some .long) d S0 6 [(4, 1, x0), (6, 1, x1)] [] S (r x0 x1 S)) (by intros; exact j_none) (fun r k => p_f_X12_divisor_b6B hd0 k) jN
def f_X12_divisor (a0 : Int) (a1 : Int) (S : jSt) : Option (Int × jSt) :=
  f_X12_divisor_b6 a0 a1 S
theorem e_X12_divisor {G : jG} {d : Nat} {S0 : jSt} (hd0 : 1 ≤ d) (a0 : Int) (a1 : Int) (S : jSt) (h0 : R64 (a0)) (h1 : R64 (a1)) : J G yX12_divisor cX12_divisor 10 (some .long) d S0 0 [(0, 1, a0), (2, 1, a1)] [] S (f_X12_divisor a0 a1 S) := by
  unfold f_X12_divisor
  refine j_lload_n 0 dX12_divisor_0 rfl rfl ?_
  refine j_lstore (lv' := [(4, 1, a0), (0, 1, a0), (2, 1, a1)]) dX12_divisor_1 (Nat.le_of_ble_eq_true rfl) rfl ?_
  refine j_lload_n 2 dX12_divisor_3 rfl rfl ?_
  refine j_lstore (lv' := [(6, 1, a1), (4, 1, a0), (0, 1, a0), (2, 1, a1)]) dX12_divisor_4 (Nat.le_of_ble_eq_true rfl) rfl ?_
  refine j_sub [1, 0] rfl ?_
  exact p_f_X12_divisor_b6 hd0 a0 a1 S h0 h1
theorem c_X12_divisor {G : jG} (a0 : Int) (a1 : Int) (S : jSt) (h0 : R64 (a0)) (h1 : R64 (a1)) : CT G yX12_divisor cX12_divisor 10 (some .long) 1 ([(1, a0), (1, a1)].map jval) S (f_X12_divisor a0 a1 S) := ct_of [(1, a0), (1, a1)] (by decide) rfl (Nat.le_of_ble_eq_true rfl) (e_X12_divisor (Nat.le_refl _) a0 a1 S h0 h1)
-- X12_end
def f_X12_end (a0 : Int) (a1 : Int) (S : jSt) : Option (Int × jSt) :=
  fget S a0 12 4 (fun v1 => fcall (f_X12_isIn a1 0 v1 S) (fun v2 S3 => if v2 = 0 then some ((-1), S3) else fput S3 a0 12 4 a1 (fun S4 => some (a1, S4))))
theorem e_X12_end {G : jG} {d : Nat} {S0 : jSt} (hd0 : 2 ≤ d) (a0 : Int) (a1 : Int) (S : jSt) (h0 : 0 ≤ (a0)) (h1 : R32 (a1)) : J G yX12_end cX12_end 2 (some .int) d S0 0 [(0, 2, a0), (1, 0, a1)] [] S (f_X12_end a0 a1 S) := by
  unfold f_X12_end
  refine j_iload_n 1 dX12_end_0 rfl rfl ?_
  refine j_iconst dX12_end_1 ?_
  refine j_aload_n 0 dX12_end_2 rfl rfl ?_
  refine j_get (ci := 12) (k := 4) (t := 0) rfl in_X12 (Nat.le_of_ble_eq_true rfl) rfl rfl fl_X12_85 dX12_end_3 (fun (v1 : Int) (hv1 : R32 (v1)) => ?_)
  refine j_callS (As := [(0, a1), (0, 0), (0, v1)]) (st := []) kc_X12_isIn (c_X12_isIn a1 0 v1 S h1 (jZ_R jz0) hv1) lm_X12_60 ks_X12_isIn rfl (Nat.le_of_ble_eq_true rfl) (Nat.le_trans (m := 2) (Nat.le_of_ble_eq_true rfl) hd0) dX12_end_6 (fun (v2 : Int) (S3 : jSt) (hv2 : (v2) = 0 ∨ (v2) = 1) => ?_)
  refine j_if_ne (tgt := 14) (jZ_R hv2) dX12_end_9 rfl (fun _ => ?_) (fun _ => ?_)
  · refine j_aload_n 0 dX12_end_14 rfl rfl ?_
    refine j_iload_n 1 dX12_end_15 rfl rfl ?_
    refine j_puti (ci := 12) (k := 4) (ty0 := tyX12) rfl in_X12 (Nat.le_of_ble_eq_true rfl) rfl tyX12_ok nmX12 rfl rfl (by decide +kernel) h1 fl_X12_85 dX12_end_16 (fun S4 => ?_)
    refine j_iload_n 1 dX12_end_19 rfl rfl ?_
    exact j_ireturn h1 dX12_end_20
  · refine j_iconst dX12_end_12 ?_
    exact j_ireturn (j_r32 (-1) rfl) dX12_end_13
theorem c_X12_end {G : jG} (a0 : Int) (a1 : Int) (S : jSt) (h0 : 0 ≤ (a0)) (h1 : R32 (a1)) : CT G yX12_end cX12_end 2 (some .int) 2 ([(2, a0), (0, a1)].map jval) S (f_X12_end a0 a1 S) := ct_of [(2, a0), (0, a1)] (by decide) rfl (Nat.le_of_ble_eq_true rfl) (e_X12_end (Nat.le_refl _) a0 a1 S h0 h1)
-- X12_fault
def f_X12_fault_b24 (x0 : Int) (S : jSt) : Option (Int × jSt) :=
  some (x0, S)
theorem p_f_X12_fault_b24 {G : jG} {d : Nat} {S0 : jSt} (hd0 : 1 ≤ d) : ∀ (x0 : Int) (S : jSt), (R32 (x0)) → J G yX12_fault cX12_fault 2 (some .int) d S0 24 [] [(0, x0)] S (f_X12_fault_b24  x0 S) := by
  intro x0 S h0
  unfold f_X12_fault_b24
  exact j_ireturn h0 dX12_fault_24
def f_X12_fault (a0 : Int) (a1 : Int) (S : jSt) : Option (Int × jSt) :=
  if a1 = 0 then fget S a0 12 5 (fun v2 => f_X12_fault_b24 v2 S) else if a1 = 1 then fget S a0 12 6 (fun v1 => f_X12_fault_b24 v1 S) else f_X12_fault_b24 (-1) S
theorem e_X12_fault {G : jG} {d : Nat} {S0 : jSt} (hd0 : 1 ≤ d) (a0 : Int) (a1 : Int) (S : jSt) (h0 : 0 ≤ (a0)) (h1 : R32 (a1)) : J G yX12_fault cX12_fault 2 (some .int) d S0 0 [(0, 2, a0), (1, 0, a1)] [] S (f_X12_fault a0 a1 S) := by
  unfold f_X12_fault
  refine j_iload_n 1 dX12_fault_0 rfl rfl ?_
  refine j_if_ne (tgt := 11) h1 dX12_fault_1 rfl (fun _ => ?_) (fun _ => ?_)
  · refine j_iload_n 1 dX12_fault_11 rfl rfl ?_
    refine j_iconst dX12_fault_12 ?_
    refine j_icmp_ne (tgt := 23) h1 (jZ_R jz1) dX12_fault_13 rfl (fun _ => ?_) (fun _ => ?_)
    · refine j_iconst dX12_fault_23 ?_
      refine j_sub [] rfl ?_
      exact p_f_X12_fault_b24 hd0 (-1) S (j_r32 (-1) rfl)
    · refine j_aload_n 0 dX12_fault_16 rfl rfl ?_
      refine j_get (ci := 12) (k := 6) (t := 0) rfl in_X12 (Nat.le_of_ble_eq_true rfl) rfl rfl fl_X12_26 dX12_fault_17 (fun (v1 : Int) (hv1 : R32 (v1)) => ?_)
      refine j_goto (tgt := 24) dX12_fault_20 rfl ?_
      refine j_sub [] rfl ?_
      exact p_f_X12_fault_b24 hd0 v1 S hv1
  · refine j_aload_n 0 dX12_fault_4 rfl rfl ?_
    refine j_get (ci := 12) (k := 5) (t := 0) rfl in_X12 (Nat.le_of_ble_eq_true rfl) rfl rfl fl_X12_22 dX12_fault_5 (fun (v2 : Int) (hv2 : R32 (v2)) => ?_)
    refine j_goto (tgt := 24) dX12_fault_8 rfl ?_
    refine j_sub [] rfl ?_
    exact p_f_X12_fault_b24 hd0 v2 S hv2
theorem c_X12_fault {G : jG} (a0 : Int) (a1 : Int) (S : jSt) (h0 : 0 ≤ (a0)) (h1 : R32 (a1)) : CT G yX12_fault cX12_fault 2 (some .int) 1 ([(2, a0), (0, a1)].map jval) S (f_X12_fault a0 a1 S) := ct_of [(2, a0), (0, a1)] (by decide) rfl (Nat.le_of_ble_eq_true rfl) (e_X12_fault (Nat.le_refl _) a0 a1 S h0 h1)
-- X12_four
def f_X12_four_b3B (r3 : Int → Int → Int → jSt → Option (Int × jSt)) (x0 : Int) (x1 : Int) (x2 : Int) (S : jSt) : Option (Int × jSt) :=
  if x2 < 0 then some (0, S) else fgetr S x0 12 3 (fun v1 => fget S x0 12 4 (fun v2 => fast S v1 v2 1 (iand32 (ishr32 x1 x2) 255) (fun S3 => fget S3 x0 12 4 (fun v4 => fput S3 x0 12 4 (w32 (v4 + 1)) (fun S5 => flet (w32 (x2 + (-8))) (fun v6 => r3 x0 x1 v6 S5))))))
theorem p_f_X12_four_b3B {G : jG} {d : Nat} {S0 : jSt} (hd0 : 1 ≤ d) {r3 : Int → Int → Int → jSt → Option (Int × jSt)} (k3 : ∀ (x0 : Int) (x1 : Int) (x2 : Int) (S : jSt), (0 ≤ (x0)) → (R32 (x1)) → (R32 (x2)) → J G yX12_four cX12_four 3 none d S0 3 [(0, 2, x0), (1, 0, x1), (2, 0, x2)] [] S (r3 x0 x1 x2 S)) : ∀ (x0 : Int) (x1 : Int) (x2 : Int) (S : jSt), (0 ≤ (x0)) → (R32 (x1)) → (R32 (x2)) → J G yX12_four cX12_four 3 none d S0 3 [(0, 2, x0), (1, 0, x1), (2, 0, x2)] [] S (f_X12_four_b3B r3 x0 x1 x2 S) := by
  intro x0 x1 x2 S h0 h1 h2
  unfold f_X12_four_b3B
  refine j_iload_n 2 dX12_four_3 rfl rfl ?_
  refine j_if_lt (tgt := 39) h2 dX12_four_4 rfl (fun _ => ?_) (fun _ => ?_)
  · exact j_return dX12_four_39
  · refine j_aload_n 0 dX12_four_7 rfl rfl ?_
    refine j_getr (ci := 12) (k := 3) rfl in_X12 (Nat.le_of_ble_eq_true rfl) rfl rfl fl_X12_19 dX12_four_8 (fun (v1 : Int) (hv1 : 0 ≤ v1) => ?_)
    refine j_aload_n 0 dX12_four_11 rfl rfl ?_
    refine j_get (ci := 12) (k := 4) (t := 0) rfl in_X12 (Nat.le_of_ble_eq_true rfl) rfl rfl fl_X12_85 dX12_four_12 (fun (v2 : Int) (hv2 : R32 (v2)) => ?_)
    refine j_iload_n 1 dX12_four_15 rfl rfl ?_
    refine j_iload_n 2 dX12_four_16 rfl rfl ?_
    refine j_ishr dX12_four_17 ?_
    refine j_sipush dX12_four_18 (by decide) ?_
    refine j_iand dX12_four_21 ?_
    refine j_iastore hv2 (iand32_R _ _) dX12_four_22 (fun S3 => ?_)
    refine j_aload_n 0 dX12_four_23 rfl rfl ?_
    refine j_dup dX12_four_24 (fun h => nomatch h) ?_
    refine j_get (ci := 12) (k := 4) (t := 0) rfl in_X12 (Nat.le_of_ble_eq_true rfl) rfl rfl fl_X12_85 dX12_four_25 (fun (v4 : Int) (hv4 : R32 (v4)) => ?_)
    refine j_iconst dX12_four_28 ?_
    refine j_iadd dX12_four_29 ?_
    refine j_puti (ci := 12) (k := 4) (ty0 := tyX12) rfl in_X12 (Nat.le_of_ble_eq_true rfl) rfl tyX12_ok nmX12 rfl rfl (by decide +kernel) (w32_R _) fl_X12_85 dX12_four_30 (fun S5 => ?_)
    refine j_iincL (q := 2) dX12_four_33 rfl (Nat.le_of_ble_eq_true rfl) (fun v6 hv6 => ?_)
    refine j_lv (lv' := [(2, 0, v6), (0, 2, x0), (1, 0, x1)]) rfl ?_
    refine j_goto (tgt := 3) dX12_four_36 rfl ?_
    refine j_sub [1, 2, 0] rfl ?_
    exact k3 x0 x1 v6 S5 h0 h1 hv6
def f_X12_four_b3 : Int → Int → Int → jSt → Option (Int × jSt) := jrep (β := Int → Int → Int → jSt → Option (Int × jSt)) (fun _ _ _ _ => none) (fun r => f_X12_four_b3B r) jN
theorem p_f_X12_four_b3 {G : jG} {d : Nat} {S0 : jSt} (hd0 : 1 ≤ d) : ∀ (x0 : Int) (x1 : Int) (x2 : Int) (S : jSt), (0 ≤ (x0)) → (R32 (x1)) → (R32 (x2)) → J G yX12_four cX12_four 3 none d S0 3 [(0, 2, x0), (1, 0, x1), (2, 0, x2)] [] S (f_X12_four_b3  x0 x1 x2 S) :=
  jrep_ind (P := fun (r : Int → Int → Int → jSt → Option (Int × jSt)) => ∀ (x0 : Int) (x1 : Int) (x2 : Int) (S : jSt), (0 ≤ (x0)) → (R32 (x1)) → (R32 (x2)) → J G yX12_four cX12_four 3 none d S0 3 [(0, 2, x0), (1, 0, x1), (2, 0, x2)] [] S (r x0 x1 x2 S)) (by intros; exact j_none) (fun r k => p_f_X12_four_b3B hd0 k) jN
def f_X12_four (a0 : Int) (a1 : Int) (S : jSt) : Option (Int × jSt) :=
  f_X12_four_b3 a0 a1 24 S
theorem e_X12_four {G : jG} {d : Nat} {S0 : jSt} (hd0 : 1 ≤ d) (a0 : Int) (a1 : Int) (S : jSt) (h0 : 0 ≤ (a0)) (h1 : R32 (a1)) : J G yX12_four cX12_four 3 none d S0 0 [(0, 2, a0), (1, 0, a1)] [] S (f_X12_four a0 a1 S) := by
  unfold f_X12_four
  refine j_bipush dX12_four_0 (by decide) ?_
  refine j_istore_n (lv' := [(2, 0, 24), (0, 2, a0), (1, 0, a1)]) dX12_four_2 rfl (Nat.le_of_ble_eq_true rfl) rfl ?_
  refine j_sub [1, 2, 0] rfl ?_
  exact p_f_X12_four_b3 hd0 a0 a1 24 S h0 h1 (j_r32 24 rfl)
theorem c_X12_four {G : jG} (a0 : Int) (a1 : Int) (S : jSt) (h0 : 0 ≤ (a0)) (h1 : R32 (a1)) : CT G yX12_four cX12_four 3 none 1 ([(2, a0), (0, a1)].map jval) S (f_X12_four a0 a1 S) := ct_of [(2, a0), (0, a1)] (by decide) rfl (Nat.le_of_ble_eq_true rfl) (e_X12_four (Nat.le_refl _) a0 a1 S h0 h1)
