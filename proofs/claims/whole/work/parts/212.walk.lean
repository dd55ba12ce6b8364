-- X12_years
def f_X12_years_b21 (S : jSt) : Option (Int × jSt) :=
  some ((-1), S)
theorem p_f_X12_years_b21 {G : jG} {d : Nat} {S0 : jSt} (hd0 : 11 ≤ d) : ∀ (S : jSt), J G yX12_years cX12_years 5 (some .int) d S0 21 [] [] S (f_X12_years_b21   S) := by
  intro S
  unfold f_X12_years_b21
  refine j_iconst dX12_years_21 ?_
  exact j_ireturn (j_r32 (-1) rfl) dX12_years_22
def f_X12_years_b43B (r43 : Int → Int → Int → jSt → Option (Int × jSt)) (x0 : Int) (x1 : Int) (x2 : Int) (S : jSt) : Option (Int × jSt) :=
  if x1 ≤ x2 then fgetr S x0 12 0 (fun v9 => fald S v9 7 1 (fun v10 => some (v10, S))) else fgetr S x0 12 0 (fun v11 => fald S v11 9 1 (fun v12 => fcallv S x0 12 (f_X12_anew x0 S) (fun v13 S14 => fcallv S14 x0 12 (f_X12_happens x0 v12 S14) (fun v15 S16 => flet (w32 (x2 + 1)) (fun v17 => r43 x0 x1 v17 S16)))))
theorem p_f_X12_years_b43B {G : jG} {d : Nat} {S0 : jSt} (hd0 : 11 ≤ d) {r43 : Int → Int → Int → jSt → Option (Int × jSt)} (k43 : ∀ (x0 : Int) (x1 : Int) (x2 : Int) (S : jSt), (0 ≤ (x0)) → (R32 (x1)) → (R32 (x2)) → J G yX12_years cX12_years 5 (some .int) d S0 43 [(0, 2, x0), (2, 0, x1), (3, 0, x2)] [] S (r43 x0 x1 x2 S)) : ∀ (x0 : Int) (x1 : Int) (x2 : Int) (S : jSt), (0 ≤ (x0)) → (R32 (x1)) → (R32 (x2)) → J G yX12_years cX12_years 5 (some .int) d S0 43 [(0, 2, x0), (2, 0, x1), (3, 0, x2)] [] S (f_X12_years_b43B r43 x0 x1 x2 S) := by
  intro x0 x1 x2 S h0 h1 h2
  unfold f_X12_years_b43B
  refine j_iload_n 2 dX12_years_43 rfl rfl ?_
  refine j_iload_n 1 dX12_years_44 rfl rfl ?_
  refine j_icmp_ge (tgt := 73) h2 h1 dX12_years_45 rfl (fun _ => ?_) (fun _ => ?_)
  · refine j_aload_n 0 dX12_years_73 rfl rfl ?_
    refine j_getr (ci := 12) (k := 0) rfl in_X12 (Nat.le_of_ble_eq_true rfl) rfl rfl fl_X12_7 dX12_years_74 (fun (v9 : Int) (hv9 : 0 ≤ v9) => ?_)
    refine j_bipush dX12_years_77 (by decide) ?_
    refine j_iaload (j_r32 7 rfl) dX12_years_79 (fun (v10 : Int) (hv10 : R32 (v10)) => ?_)
    exact j_ireturn hv10 dX12_years_80
  · refine j_aload_n 0 dX12_years_48 rfl rfl ?_
    refine j_getr (ci := 12) (k := 0) rfl in_X12 (Nat.le_of_ble_eq_true rfl) rfl rfl fl_X12_7 dX12_years_49 (fun (v11 : Int) (hv11 : 0 ≤ v11) => ?_)
    refine j_bipush dX12_years_52 (by decide) ?_
    refine j_iaload (j_r32 9 rfl) dX12_years_54 (fun (v12 : Int) (hv12 : R32 (v12)) => ?_)
    refine j_istore (lv' := [(4, 0, v12), (0, 2, x0), (2, 0, x1), (3, 0, x2)]) dX12_years_55 (Nat.le_of_ble_eq_true rfl) rfl ?_
    refine j_aload_n 1 dX12_years_57 rfl rfl ?_
    refine j_callV (ci := 12) (As := []) (st := []) kc_X12_anew (c_X12_anew x0 S h0) rfl lm_X12_340 ki_X12_anew ke_X12_anew rfl (Nat.le_of_ble_eq_true rfl) (Nat.le_trans (m := 11) (Nat.le_of_ble_eq_true rfl) hd0) dX12_years_58 (fun v13 S14 _ => ?_)
    refine j_aload_n 1 dX12_years_61 rfl rfl ?_
    refine j_iload 0 dX12_years_62 rfl ?_
    refine j_callV (ci := 12) (As := [(0, v12)]) (st := []) kc_X12_happens (c_X12_happens x0 v12 S14 h0 hv12) rfl lm_X12_403 ki_X12_happens ke_X12_happens rfl (Nat.le_of_ble_eq_true rfl) (Nat.le_trans (m := 11) (Nat.le_of_ble_eq_true rfl) hd0) dX12_years_64 (fun v15 S16 _ => ?_)
    refine j_iincL (q := 3) dX12_years_67 rfl (Nat.le_of_ble_eq_true rfl) (fun v17 hv17 => ?_)
    refine j_lv (lv' := [(3, 0, v17), (4, 0, v12), (0, 2, x0), (2, 0, x1)]) rfl ?_
    refine j_goto (tgt := 43) dX12_years_70 rfl ?_
    refine j_sub [2, 3, 0] rfl ?_
    exact k43 x0 x1 v17 S16 h0 h1 hv17
def f_X12_years_b43 : Int → Int → Int → jSt → Option (Int × jSt) := jrep (β := Int → Int → Int → jSt → Option (Int × jSt)) (fun _ _ _ _ => none) (fun r => f_X12_years_b43B r) jN
theorem p_f_X12_years_b43 {G : jG} {d : Nat} {S0 : jSt} (hd0 : 11 ≤ d) : ∀ (x0 : Int) (x1 : Int) (x2 : Int) (S : jSt), (0 ≤ (x0)) → (R32 (x1)) → (R32 (x2)) → J G yX12_years cX12_years 5 (some .int) d S0 43 [(0, 2, x0), (2, 0, x1), (3, 0, x2)] [] S (f_X12_years_b43  x0 x1 x2 S) :=
  jrep_ind (P := fun (r : Int → Int → Int → jSt → Option (Int × jSt)) => ∀ (x0 : Int) (x1 : Int) (x2 : Int) (S : jSt), (0 ≤ (x0)) → (R32 (x1)) → (R32 (x2)) → J G yX12_years cX12_years 5 (some .int) d S0 43 [(0, 2, x0), (2, 0, x1), (3, 0, x2)] [] S (r x0 x1 x2 S)) (by intros; exact j_none) (fun r k => p_f_X12_years_b43B hd0 k) jN
def f_X12_years (a0 : Int) (a1 : Int) (a2 : Int) (S : jSt) : Option (Int × jSt) :=
  fcall (f_X12_isIn a1 0 9999 S) (fun v1 S2 => if v1 = 0 then f_X12_years_b21 S2 else fcall (f_X12_isIn a2 1 40 S2) (fun v3 S4 => if v3 = 0 then f_X12_years_b21 S4 else fcallv S4 a0 12 (f_X12_keep a0 S4) (fun v5 S6 => fgetr S6 a0 12 0 (fun v7 => fast S6 v7 9 1 (w32 ((w32 (a1 * 2)) + 211)) (fun S8 => f_X12_years_b43 a0 a2 0 S8)))))
theorem e_X12_years {G : jG} {d : Nat} {S0 : jSt} (hd0 : 11 ≤ d) (a0 : Int) (a1 : Int) (a2 : Int) (S : jSt) (h0 : 0 ≤ (a0)) (h1 : R32 (a1)) (h2 : R32 (a2)) : J G yX12_years cX12_years 5 (some .int) d S0 0 [(0, 2, a0), (1, 0, a1), (2, 0, a2)] [] S (f_X12_years a0 a1 a2 S) := by
  unfold f_X12_years
  refine j_iload_n 1 dX12_years_0 rfl rfl ?_
  refine j_iconst dX12_years_1 ?_
  refine j_sipush dX12_years_2 (by decide) ?_
  refine j_callS (As := [(0, a1), (0, 0), (0, 9999)]) (st := []) kc_X12_isIn (c_X12_isIn a1 0 9999 S h1 (jZ_R jz0) (j_r32 9999 rfl)) lm_X12_60 ks_X12_isIn rfl (Nat.le_of_ble_eq_true rfl) (Nat.le_trans (m := 11) (Nat.le_of_ble_eq_true rfl) hd0) dX12_years_5 (fun (v1 : Int) (S2 : jSt) (hv1 : (v1) = 0 ∨ (v1) = 1) => ?_)
  refine j_if_eq (tgt := 21) (jZ_R hv1) dX12_years_8 rfl (fun _ => ?_) (fun _ => ?_)
  · refine j_sub [] rfl ?_
    exact p_f_X12_years_b21 hd0 S2
  · refine j_iload_n 2 dX12_years_11 rfl rfl ?_
    refine j_iconst dX12_years_12 ?_
    refine j_bipush dX12_years_13 (by decide) ?_
    refine j_callS (As := [(0, a2), (0, 1), (0, 40)]) (st := []) kc_X12_isIn (c_X12_isIn a2 1 40 S2 h2 (jZ_R jz1) (j_r32 40 rfl)) lm_X12_60 ks_X12_isIn rfl (Nat.le_of_ble_eq_true rfl) (Nat.le_trans (m := 11) (Nat.le_of_ble_eq_true rfl) hd0) dX12_years_15 (fun (v3 : Int) (S4 : jSt) (hv3 : (v3) = 0 ∨ (v3) = 1) => ?_)
    refine j_if_ne (tgt := 23) (jZ_R hv3) dX12_years_18 rfl (fun _ => ?_) (fun _ => ?_)
    · refine j_aload_n 0 dX12_years_23 rfl rfl ?_
      refine j_callV (ci := 12) (As := []) (st := []) kc_X12_keep (c_X12_keep a0 S4 h0) rfl lm_X12_358 ki_X12_keep ke_X12_keep rfl (Nat.le_of_ble_eq_true rfl) (Nat.le_trans (m := 11) (Nat.le_of_ble_eq_true rfl) hd0) dX12_years_24 (fun v5 S6 _ => ?_)
      refine j_aload_n 0 dX12_years_27 rfl rfl ?_
      refine j_getr (ci := 12) (k := 0) rfl in_X12 (Nat.le_of_ble_eq_true rfl) rfl rfl fl_X12_7 dX12_years_28 (fun (v7 : Int) (hv7 : 0 ≤ v7) => ?_)
      refine j_bipush dX12_years_31 (by decide) ?_
      refine j_iload_n 1 dX12_years_33 rfl rfl ?_
      refine j_iconst dX12_years_34 ?_
      refine j_imul dX12_years_35 ?_
      refine j_sipush dX12_years_36 (by decide) ?_
      refine j_iadd dX12_years_39 ?_
      refine j_iastore (j_r32 9 rfl) (w32_R _) dX12_years_40 (fun S8 => ?_)
      refine j_iconst dX12_years_41 ?_
      refine j_istore_n (lv' := [(3, 0, 0), (0, 2, a0), (1, 0, a1), (2, 0, a2)]) dX12_years_42 rfl (Nat.le_of_ble_eq_true rfl) rfl ?_
      refine j_sub [1, 3, 0] rfl ?_
      exact p_f_X12_years_b43 hd0 a0 a2 0 S8 h0 h2 (jZ_R jz0)
    · refine j_sub [] rfl ?_
      exact p_f_X12_years_b21 hd0 S4
theorem c_X12_years {G : jG} (a0 : Int) (a1 : Int) (a2 : Int) (S : jSt) (h0 : 0 ≤ (a0)) (h1 : R32 (a1)) (h2 : R32 (a2)) : CT G yX12_years cX12_years 5 (some .int) 11 ([(2, a0), (0, a1), (0, a2)].map jval) S (f_X12_years a0 a1 a2 S) := ct_of [(2, a0), (0, a1), (0, a2)] (by decide) rfl (Nat.le_of_ble_eq_true rfl) (e_X12_years (Nat.le_refl _) a0 a1 a2 S h0 h1 h2)
