-- X12_leave
def f_X12_leave_b17 (S : jSt) : Option (Int × jSt) :=
  some ((-1), S)
theorem p_f_X12_leave_b17 {G : jG} {d : Nat} {S0 : jSt} (hd0 : 3 ≤ d) : ∀ (S : jSt), J G yX12_leave cX12_leave 5 (some .long) d S0 17 [] [] S (f_X12_leave_b17   S) := by
  intro S
  unfold f_X12_leave_b17
  refine j_ldc2 cn_X12_463 dX12_leave_17 ?_
  exact j_lreturn (j_r64 (-1) rfl) dX12_leave_20
def f_X12_leave_b39 (x0 : Int) (x1 : Int) (x2 : Int) (S : jSt) : Option (Int × jSt) :=
  fcall (f_X12_tens x0 S) (fun v7 S8 => fcall (f_X12_divisor x1 v7 S8) (fun v9 S10 => if v9 = 0 then none else some (ldiv64 x2 v9, S10)))
theorem p_f_X12_leave_b39 {G : jG} {d : Nat} {S0 : jSt} (hd0 : 3 ≤ d) : ∀ (x0 : Int) (x1 : Int) (x2 : Int) (S : jSt), (R32 (x0)) → (R64 (x1)) → (R64 (x2)) → J G yX12_leave cX12_leave 5 (some .long) d S0 39 [(1, 0, x0), (3, 1, x1)] [(1, x2)] S (f_X12_leave_b39  x0 x1 x2 S) := by
  intro x0 x1 x2 S h0 h1 h2
  unfold f_X12_leave_b39
  refine j_lload_n 1 dX12_leave_39 rfl rfl ?_
  refine j_iload_n 0 dX12_leave_40 rfl rfl ?_
  refine j_callS (As := [(0, x0)]) (st := [(1, x1), (1, x2)]) kc_X12_tens (c_X12_tens x0 S h0) lm_X12_456 ks_X12_tens rfl (Nat.le_of_ble_eq_true rfl) (Nat.le_trans (m := 3) (Nat.le_of_ble_eq_true rfl) hd0) dX12_leave_41 (fun (v7 : Int) (S8 : jSt) (hv7 : R64 (v7)) => ?_)
  refine j_callS (As := [(1, x1), (1, v7)]) (st := [(1, x2)]) kc_X12_divisor (c_X12_divisor x1 v7 S8 h1 hv7) lm_X12_468 ks_X12_divisor rfl (Nat.le_of_ble_eq_true rfl) (Nat.le_trans (m := 3) (Nat.le_of_ble_eq_true rfl) hd0) dX12_leave_44 (fun (v9 : Int) (S10 : jSt) (hv9 : R64 (v9)) => ?_)
  refine j_ldiv hv9 dX12_leave_47 ?_
  exact j_lreturn (ldiv64_R _ _) dX12_leave_48
def f_X12_leave (a0 : Int) (a1 : Int) (a2 : Int) (S : jSt) : Option (Int × jSt) :=
  fcall (f_X12_isIn a1 0 6 S) (fun v1 S2 => if v1 = 0 then f_X12_leave_b17 S2 else fcallv S2 a0 12 (f_X12_isTen a0 S2) (fun v3 S4 => if v3 = 0 then f_X12_leave_b17 S4 else fcallv S4 a0 12 (f_X12_meanOf a0 a1 S4) (fun v5 S6 => if a2 = 0 then f_X12_leave_b39 a1 v5 v5 S6 else fcall (f_X12_tens a1 S6) (fun v11 S12 => f_X12_leave_b39 a1 v5 v11 S12))))
theorem e_X12_leave {G : jG} {d : Nat} {S0 : jSt} (hd0 : 3 ≤ d) (a0 : Int) (a1 : Int) (a2 : Int) (S : jSt) (h0 : 0 ≤ (a0)) (h1 : R32 (a1)) (h2 : (a2) = 0 ∨ (a2) = 1) : J G yX12_leave cX12_leave 5 (some .long) d S0 0 [(0, 2, a0), (1, 0, a1), (2, 0, a2)] [] S (f_X12_leave a0 a1 a2 S) := by
  unfold f_X12_leave
  refine j_iload_n 1 dX12_leave_0 rfl rfl ?_
  refine j_iconst dX12_leave_1 ?_
  refine j_bipush dX12_leave_2 (by decide) ?_
  refine j_callS (As := [(0, a1), (0, 0), (0, 6)]) (st := []) kc_X12_isIn (c_X12_isIn a1 0 6 S h1 (jZ_R jz0) (j_r32 6 rfl)) lm_X12_60 ks_X12_isIn rfl (Nat.le_of_ble_eq_true rfl) (Nat.le_trans (m := 3) (Nat.le_of_ble_eq_true rfl) hd0) dX12_leave_4 (fun (v1 : Int) (S2 : jSt) (hv1 : (v1) = 0 ∨ (v1) = 1) => ?_)
  refine j_if_eq (tgt := 17) (jZ_R hv1) dX12_leave_7 rfl (fun _ => ?_) (fun _ => ?_)
  · refine j_sub [] rfl ?_
    exact p_f_X12_leave_b17 hd0 S2
  · refine j_aload_n 0 dX12_leave_10 rfl rfl ?_
    refine j_callV (ci := 12) (As := []) (st := []) kc_X12_isTen (c_X12_isTen a0 S2 h0) rfl lm_X12_460 ki_X12_isTen ke_X12_isTen rfl (Nat.le_of_ble_eq_true rfl) (Nat.le_trans (m := 3) (Nat.le_of_ble_eq_true rfl) hd0) dX12_leave_11 (fun (v3 : Int) (S4 : jSt) (hv3 : (v3) = 0 ∨ (v3) = 1) => ?_)
    refine j_if_ne (tgt := 21) (jZ_R hv3) dX12_leave_14 rfl (fun _ => ?_) (fun _ => ?_)
    · refine j_aload_n 0 dX12_leave_21 rfl rfl ?_
      refine j_iload_n 1 dX12_leave_22 rfl rfl ?_
      refine j_callV (ci := 12) (As := [(0, a1)]) (st := []) kc_X12_meanOf (c_X12_meanOf a0 a1 S4 h0 h1) rfl lm_X12_465 ki_X12_meanOf ke_X12_meanOf rfl (Nat.le_of_ble_eq_true rfl) (Nat.le_trans (m := 3) (Nat.le_of_ble_eq_true rfl) hd0) dX12_leave_23 (fun (v5 : Int) (S6 : jSt) (hv5 : R64 (v5)) => ?_)
      refine j_lstore_n (lv' := [(3, 1, v5), (0, 2, a0), (1, 0, a1), (2, 0, a2)]) dX12_leave_26 rfl (Nat.le_of_ble_eq_true rfl) rfl ?_
      refine j_iload_n 3 dX12_leave_27 rfl rfl ?_
      refine j_if_eq (tgt := 38) (jZ_R h2) dX12_leave_28 rfl (fun _ => ?_) (fun _ => ?_)
      · refine j_lload_n 0 dX12_leave_38 rfl rfl ?_
        refine j_sub [2, 0] rfl ?_
        exact p_f_X12_leave_b39 hd0 a1 v5 v5 S6 h1 hv5 hv5
      · refine j_iload_n 2 dX12_leave_31 rfl rfl ?_
        refine j_callS (As := [(0, a1)]) (st := []) kc_X12_tens (c_X12_tens a1 S6 h1) lm_X12_456 ks_X12_tens rfl (Nat.le_of_ble_eq_true rfl) (Nat.le_trans (m := 3) (Nat.le_of_ble_eq_true rfl) hd0) dX12_leave_32 (fun (v11 : Int) (S12 : jSt) (hv11 : R64 (v11)) => ?_)
        refine j_goto (tgt := 39) dX12_leave_35 rfl ?_
        refine j_sub [2, 0] rfl ?_
        exact p_f_X12_leave_b39 hd0 a1 v5 v11 S12 h1 hv5 hv11
    · refine j_sub [] rfl ?_
      exact p_f_X12_leave_b17 hd0 S4
theorem c_X12_leave {G : jG} (a0 : Int) (a1 : Int) (a2 : Int) (S : jSt) (h0 : 0 ≤ (a0)) (h1 : R32 (a1)) (h2 : (a2) = 0 ∨ (a2) = 1) : CT G yX12_leave cX12_leave 5 (some .long) 3 ([(2, a0), (0, a1), (0, a2)].map jval) S (f_X12_leave a0 a1 a2 S) := ct_of [(2, a0), (0, a1), (0, a2)] (by decide) rfl (Nat.le_of_ble_eq_true rfl) (e_X12_leave (Nat.le_refl _) a0 a1 a2 S h0 h1 h2)
-- X12_ledger
def f_X12_ledger_b57 (r20 : Int → Int → Int → Int → jSt → Option (Int × jSt)) (x0 : Int) (x1 : Int) (x2 : Int) (x3 : Int) (x4 : Int) (S : jSt) : Option (Int × jSt) :=
  flet (w32 (x3 + x4)) (fun v5 => flet (w32 (x2 + 1)) (fun v6 => r20 x0 x1 v5 v6 S))
theorem p_f_X12_ledger_b57 {G : jG} {d : Nat} {S0 : jSt} (hd0 : 3 ≤ d) {r20 : Int → Int → Int → Int → jSt → Option (Int × jSt)} (k20 : ∀ (x0 : Int) (x1 : Int) (x2 : Int) (x3 : Int) (S : jSt), (0 ≤ (x0)) → (R32 (x1)) → (R32 (x2)) → (R32 (x3)) → J G yX12_ledger cX12_ledger 4 (some .int) d S0 20 [(0, 2, x0), (1, 0, x1), (2, 0, x2), (3, 0, x3)] [] S (r20 x0 x1 x2 x3 S)) : ∀ (x0 : Int) (x1 : Int) (x2 : Int) (x3 : Int) (x4 : Int) (S : jSt), (0 ≤ (x0)) → (R32 (x1)) → (R32 (x2)) → (R32 (x3)) → (R32 (x4)) → J G yX12_ledger cX12_ledger 4 (some .int) d S0 57 [(0, 2, x0), (1, 0, x1), (3, 0, x2)] [(0, x4), (0, x3)] S (f_X12_ledger_b57 r20 x0 x1 x2 x3 x4 S) := by
  intro x0 x1 x2 x3 x4 S h0 h1 h2 h3 h4
  unfold f_X12_ledger_b57
  refine j_iadd dX12_ledger_57 ?_
  refine j_leti (w32_R _) (fun v5 hv5 => ?_)
  refine j_istore_n (lv' := [(2, 0, v5), (0, 2, x0), (1, 0, x1), (3, 0, x2)]) dX12_ledger_58 rfl (Nat.le_of_ble_eq_true rfl) rfl ?_
  refine j_iincL (q := 3) dX12_ledger_59 rfl (Nat.le_of_ble_eq_true rfl) (fun v6 hv6 => ?_)
  refine j_lv (lv' := [(3, 0, v6), (2, 0, v5), (0, 2, x0), (1, 0, x1)]) rfl ?_
  refine j_goto (tgt := 20) dX12_ledger_62 rfl ?_
  refine j_sub [2, 3, 1, 0] rfl ?_
  exact k20 x0 x1 v5 v6 S h0 h1 hv5 hv6
def f_X12_ledger_b47 (r20 : Int → Int → Int → Int → jSt → Option (Int × jSt)) (x0 : Int) (x1 : Int) (x2 : Int) (x3 : Int) (S : jSt) : Option (Int × jSt) :=
  fcallv S x0 12 (f_X12_book x0 x2 3 S) (fun v3 S4 => f_X12_ledger_b57 r20 x0 x1 x2 x3 v3 S4)
theorem p_f_X12_ledger_b47 {G : jG} {d : Nat} {S0 : jSt} (hd0 : 3 ≤ d) {r20 : Int → Int → Int → Int → jSt → Option (Int × jSt)} (k20 : ∀ (x0 : Int) (x1 : Int) (x2 : Int) (x3 : Int) (S : jSt), (0 ≤ (x0)) → (R32 (x1)) → (R32 (x2)) → (R32 (x3)) → J G yX12_ledger cX12_ledger 4 (some .int) d S0 20 [(0, 2, x0), (1, 0, x1), (2, 0, x2), (3, 0, x3)] [] S (r20 x0 x1 x2 x3 S)) : ∀ (x0 : Int) (x1 : Int) (x2 : Int) (x3 : Int) (S : jSt), (0 ≤ (x0)) → (R32 (x1)) → (R32 (x2)) → (R32 (x3)) → J G yX12_ledger cX12_ledger 4 (some .int) d S0 47 [(0, 2, x0), (1, 0, x1), (3, 0, x2)] [(0, x3)] S (f_X12_ledger_b47 r20 x0 x1 x2 x3 S) := by
  intro x0 x1 x2 x3 S h0 h1 h2 h3
  unfold f_X12_ledger_b47
  refine j_aload_n 0 dX12_ledger_47 rfl rfl ?_
  refine j_iload_n 2 dX12_ledger_48 rfl rfl ?_
  refine j_iconst dX12_ledger_49 ?_
  refine j_callV (ci := 12) (As := [(0, x2), (0, 3)]) (st := [(0, x3)]) kc_X12_book (c_X12_book x0 x2 3 S h0 h2 (j_r32 3 rfl)) rfl lm_X12_409 ki_X12_book ke_X12_book rfl (Nat.le_of_ble_eq_true rfl) (Nat.le_trans (m := 3) (Nat.le_of_ble_eq_true rfl) hd0) dX12_ledger_50 (fun (v3 : Int) (S4 : jSt) (hv3 : R32 (v3)) => ?_)
  refine j_goto (tgt := 57) dX12_ledger_53 rfl ?_
  exact p_f_X12_ledger_b57 hd0 k20 x0 x1 x2 x3 v3 S4 h0 h1 h2 h3 hv3
def f_X12_ledger_b20B (r20 : Int → Int → Int → Int → jSt → Option (Int × jSt)) (x0 : Int) (x1 : Int) (x2 : Int) (x3 : Int) (S : jSt) : Option (Int × jSt) :=
  fgetr S x0 12 0 (fun v1 => fald S v1 10 1 (fun v2 => if v2 ≤ x3 then some (x2, S) else if x1 = (-1) then f_X12_ledger_b47 r20 x0 x1 x3 x2 S else fcallv S x0 12 (f_X12_book x0 x3 2 S) (fun v7 S8 => if v7 = x1 then f_X12_ledger_b47 r20 x0 x1 x3 x2 S8 else f_X12_ledger_b57 r20 x0 x1 x3 x2 0 S8)))
theorem p_f_X12_ledger_b20B {G : jG} {d : Nat} {S0 : jSt} (hd0 : 3 ≤ d) {r20 : Int → Int → Int → Int → jSt → Option (Int × jSt)} (k20 : ∀ (x0 : Int) (x1 : Int) (x2 : Int) (x3 : Int) (S : jSt), (0 ≤ (x0)) → (R32 (x1)) → (R32 (x2)) → (R32 (x3)) → J G yX12_ledger cX12_ledger 4 (some .int) d S0 20 [(0, 2, x0), (1, 0, x1), (2, 0, x2), (3, 0, x3)] [] S (r20 x0 x1 x2 x3 S)) : ∀ (x0 : Int) (x1 : Int) (x2 : Int) (x3 : Int) (S : jSt), (0 ≤ (x0)) → (R32 (x1)) → (R32 (x2)) → (R32 (x3)) → J G yX12_ledger cX12_ledger 4 (some .int) d S0 20 [(0, 2, x0), (1, 0, x1), (2, 0, x2), (3, 0, x3)] [] S (f_X12_ledger_b20B r20 x0 x1 x2 x3 S) := by
  intro x0 x1 x2 x3 S h0 h1 h2 h3
  unfold f_X12_ledger_b20B
  refine j_iload_n 3 dX12_ledger_20 rfl rfl ?_
  refine j_aload_n 0 dX12_ledger_21 rfl rfl ?_
  refine j_getr (ci := 12) (k := 0) rfl in_X12 (Nat.le_of_ble_eq_true rfl) rfl rfl fl_X12_7 dX12_ledger_22 (fun (v1 : Int) (hv1 : 0 ≤ v1) => ?_)
  refine j_bipush dX12_ledger_25 (by decide) ?_
  refine j_iaload (j_r32 10 rfl) dX12_ledger_27 (fun (v2 : Int) (hv2 : R32 (v2)) => ?_)
  refine j_icmp_ge (tgt := 65) h3 hv2 dX12_ledger_28 rfl (fun _ => ?_) (fun _ => ?_)
  · refine j_iload_n 2 dX12_ledger_65 rfl rfl ?_
    exact j_ireturn h2 dX12_ledger_66
  · refine j_iload_n 2 dX12_ledger_31 rfl rfl ?_
    refine j_iload_n 1 dX12_ledger_32 rfl rfl ?_
    refine j_iconst dX12_ledger_33 ?_
    refine j_icmp_eq (tgt := 47) h1 (j_r32 (-1) rfl) dX12_ledger_34 rfl (fun _ => ?_) (fun _ => ?_)
    · refine j_sub [0, 1, 3] rfl ?_
      exact p_f_X12_ledger_b47 hd0 k20 x0 x1 x3 x2 S h0 h1 h3 h2
    · refine j_aload_n 0 dX12_ledger_37 rfl rfl ?_
      refine j_iload_n 3 dX12_ledger_38 rfl rfl ?_
      refine j_iconst dX12_ledger_39 ?_
      refine j_callV (ci := 12) (As := [(0, x3), (0, 2)]) (st := [(0, x2)]) kc_X12_book (c_X12_book x0 x3 2 S h0 h3 (j_r32 2 rfl)) rfl lm_X12_409 ki_X12_book ke_X12_book rfl (Nat.le_of_ble_eq_true rfl) (Nat.le_trans (m := 3) (Nat.le_of_ble_eq_true rfl) hd0) dX12_ledger_40 (fun (v7 : Int) (S8 : jSt) (hv7 : R32 (v7)) => ?_)
      refine j_iload_n 1 dX12_ledger_43 rfl rfl ?_
      refine j_icmp_ne (tgt := 56) hv7 h1 dX12_ledger_44 rfl (fun _ => ?_) (fun _ => ?_)
      · refine j_iconst dX12_ledger_56 ?_
        refine j_sub [0, 1, 3] rfl ?_
        exact p_f_X12_ledger_b57 hd0 k20 x0 x1 x3 x2 0 S8 h0 h1 h3 h2 (jZ_R jz0)
      · refine j_sub [0, 1, 3] rfl ?_
        exact p_f_X12_ledger_b47 hd0 k20 x0 x1 x3 x2 S8 h0 h1 h3 h2
def f_X12_ledger_b20 : Int → Int → Int → Int → jSt → Option (Int × jSt) := jrep (β := Int → Int → Int → Int → jSt → Option (Int × jSt)) (fun _ _ _ _ _ => none) (fun r => f_X12_ledger_b20B r) jN
theorem p_f_X12_ledger_b20 {G : jG} {d : Nat} {S0 : jSt} (hd0 : 3 ≤ d) : ∀ (x0 : Int) (x1 : Int) (x2 : Int) (x3 : Int) (S : jSt), (0 ≤ (x0)) → (R32 (x1)) → (R32 (x2)) → (R32 (x3)) → J G yX12_ledger cX12_ledger 4 (some .int) d S0 20 [(0, 2, x0), (1, 0, x1), (2, 0, x2), (3, 0, x3)] [] S (f_X12_ledger_b20  x0 x1 x2 x3 S) :=
  jrep_ind (P := fun (r : Int → Int → Int → Int → jSt → Option (Int × jSt)) => ∀ (x0 : Int) (x1 : Int) (x2 : Int) (x3 : Int) (S : jSt), (0 ≤ (x0)) → (R32 (x1)) → (R32 (x2)) → (R32 (x3)) → J G yX12_ledger cX12_ledger 4 (some .int) d S0 20 [(0, 2, x0), (1, 0, x1), (2, 0, x2), (3, 0, x3)] [] S (r x0 x1 x2 x3 S)) (by intros; exact j_none) (fun r k => p_f_X12_ledger_b20B hd0 k) jN
def f_X12_ledger_b16 (x0 : Int) (x1 : Int) (S : jSt) : Option (Int × jSt) :=
  f_X12_ledger_b20 x0 x1 0 0 S
theorem p_f_X12_ledger_b16 {G : jG} {d : Nat} {S0 : jSt} (hd0 : 3 ≤ d) : ∀ (x0 : Int) (x1 : Int) (S : jSt), (0 ≤ (x0)) → (R32 (x1)) → J G yX12_ledger cX12_ledger 4 (some .int) d S0 16 [(0, 2, x0), (1, 0, x1)] [] S (f_X12_ledger_b16  x0 x1 S) := by
  intro x0 x1 S h0 h1
  unfold f_X12_ledger_b16
  refine j_iconst dX12_ledger_16 ?_
  refine j_istore_n (lv' := [(2, 0, 0), (0, 2, x0), (1, 0, x1)]) dX12_ledger_17 rfl (Nat.le_of_ble_eq_true rfl) rfl ?_
  refine j_iconst dX12_ledger_18 ?_
  refine j_istore_n (lv' := [(3, 0, 0), (2, 0, 0), (0, 2, x0), (1, 0, x1)]) dX12_ledger_19 rfl (Nat.le_of_ble_eq_true rfl) rfl ?_
  refine j_sub [2, 3, 1, 0] rfl ?_
  exact p_f_X12_ledger_b20 hd0 x0 x1 0 0 S h0 h1 (jZ_R jz0) (jZ_R jz0)
def f_X12_ledger (a0 : Int) (a1 : Int) (S : jSt) : Option (Int × jSt) :=
  if a1 = (-1) then f_X12_ledger_b16 a0 a1 S else fcallv S a0 12 (f_X12_isBidder a0 a1 S) (fun v9 S10 => if v9 = 0 then some ((-2), S10) else f_X12_ledger_b16 a0 a1 S10)
theorem e_X12_ledger {G : jG} {d : Nat} {S0 : jSt} (hd0 : 3 ≤ d) (a0 : Int) (a1 : Int) (S : jSt) (h0 : 0 ≤ (a0)) (h1 : R32 (a1)) : J G yX12_ledger cX12_ledger 4 (some .int) d S0 0 [(0, 2, a0), (1, 0, a1)] [] S (f_X12_ledger a0 a1 S) := by
  unfold f_X12_ledger
  refine j_iload_n 1 dX12_ledger_0 rfl rfl ?_
  refine j_iconst dX12_ledger_1 ?_
  refine j_icmp_eq (tgt := 16) h1 (j_r32 (-1) rfl) dX12_ledger_2 rfl (fun _ => ?_) (fun _ => ?_)
  · exact p_f_X12_ledger_b16 hd0 a0 a1 S h0 h1
  · refine j_aload_n 0 dX12_ledger_5 rfl rfl ?_
    refine j_iload_n 1 dX12_ledger_6 rfl rfl ?_
    refine j_callV (ci := 12) (As := [(0, a1)]) (st := []) kc_X12_isBidder (c_X12_isBidder a0 a1 S h0 h1) rfl lm_X12_82 ki_X12_isBidder ke_X12_isBidder rfl (Nat.le_of_ble_eq_true rfl) (Nat.le_trans (m := 3) (Nat.le_of_ble_eq_true rfl) hd0) dX12_ledger_7 (fun (v9 : Int) (S10 : jSt) (hv9 : (v9) = 0 ∨ (v9) = 1) => ?_)
    refine j_if_ne (tgt := 16) (jZ_R hv9) dX12_ledger_10 rfl (fun _ => ?_) (fun _ => ?_)
    · exact p_f_X12_ledger_b16 hd0 a0 a1 S10 h0 h1
    · refine j_bipush dX12_ledger_13 (by decide) ?_
      exact j_ireturn (j_r32 (-2) rfl) dX12_ledger_15
theorem c_X12_ledger {G : jG} (a0 : Int) (a1 : Int) (S : jSt) (h0 : 0 ≤ (a0)) (h1 : R32 (a1)) : CT G yX12_ledger cX12_ledger 4 (some .int) 3 ([(2, a0), (0, a1)].map jval) S (f_X12_ledger a0 a1 S) := ct_of [(2, a0), (0, a1)] (by decide) rfl (Nat.le_of_ble_eq_true rfl) (e_X12_ledger (Nat.le_refl _) a0 a1 S h0 h1)
-- X12_left
def f_X12_left_b16 (x0 : Int) (S : jSt) : Option (Int × jSt) :=
  some (x0, S)
theorem p_f_X12_left_b16 {G : jG} {d : Nat} {S0 : jSt} (hd0 : 5 ≤ d) : ∀ (x0 : Int) (S : jSt), (R32 (x0)) → J G yX12_left cX12_left 2 (some .int) d S0 16 [] [(0, x0)] S (f_X12_left_b16  x0 S) := by
  intro x0 S h0
  unfold f_X12_left_b16
  exact j_ireturn h0 dX12_left_16
def f_X12_left (a0 : Int) (a1 : Int) (S : jSt) : Option (Int × jSt) :=
  fcall (f_X12_isFloor a1 S) (fun v1 S2 => if v1 = 0 then f_X12_left_b16 (-1) S2 else fcallv S2 a0 12 (f_X12_lotsAt a0 a1 S2) (fun v3 S4 => f_X12_left_b16 v3 S4))
theorem e_X12_left {G : jG} {d : Nat} {S0 : jSt} (hd0 : 5 ≤ d) (a0 : Int) (a1 : Int) (S : jSt) (h0 : 0 ≤ (a0)) (h1 : R32 (a1)) : J G yX12_left cX12_left 2 (some .int) d S0 0 [(0, 2, a0), (1, 0, a1)] [] S (f_X12_left a0 a1 S) := by
  unfold f_X12_left
  refine j_iload_n 1 dX12_left_0 rfl rfl ?_
  refine j_callS (As := [(0, a1)]) (st := []) kc_X12_isFloor (c_X12_isFloor a1 S h1) lm_X12_72 ks_X12_isFloor rfl (Nat.le_of_ble_eq_true rfl) (Nat.le_trans (m := 5) (Nat.le_of_ble_eq_true rfl) hd0) dX12_left_1 (fun (v1 : Int) (S2 : jSt) (hv1 : (v1) = 0 ∨ (v1) = 1) => ?_)
  refine j_if_eq (tgt := 15) (jZ_R hv1) dX12_left_4 rfl (fun _ => ?_) (fun _ => ?_)
  · refine j_iconst dX12_left_15 ?_
    refine j_sub [] rfl ?_
    exact p_f_X12_left_b16 hd0 (-1) S2 (j_r32 (-1) rfl)
  · refine j_aload_n 0 dX12_left_7 rfl rfl ?_
    refine j_iload_n 1 dX12_left_8 rfl rfl ?_
    refine j_callV (ci := 12) (As := [(0, a1)]) (st := []) kc_X12_lotsAt (c_X12_lotsAt a0 a1 S2 h0 h1) rfl lm_X12_406 ki_X12_lotsAt ke_X12_lotsAt rfl (Nat.le_of_ble_eq_true rfl) (Nat.le_trans (m := 5) (Nat.le_of_ble_eq_true rfl) hd0) dX12_left_9 (fun (v3 : Int) (S4 : jSt) (hv3 : R32 (v3)) => ?_)
    refine j_goto (tgt := 16) dX12_left_12 rfl ?_
    refine j_sub [] rfl ?_
    exact p_f_X12_left_b16 hd0 v3 S4 hv3
theorem c_X12_left {G : jG} (a0 : Int) (a1 : Int) (S : jSt) (h0 : 0 ≤ (a0)) (h1 : R32 (a1)) : CT G yX12_left cX12_left 2 (some .int) 5 ([(2, a0), (0, a1)].map jval) S (f_X12_left a0 a1 S) := ct_of [(2, a0), (0, a1)] (by decide) rfl (Nat.le_of_ble_eq_true rfl) (e_X12_left (Nat.le_refl _) a0 a1 S h0 h1)
-- X12_odds
def f_X12_odds_b19 (S : jSt) : Option (Int × jSt) :=
  some (0, S)
theorem p_f_X12_odds_b19 {G : jG} {d : Nat} {S0 : jSt} (hd0 : 2 ≤ d) : ∀ (S : jSt), J G yX12_odds cX12_odds 3 (some .boolean) d S0 19 [] [] S (f_X12_odds_b19   S) := by
  intro S
  unfold f_X12_odds_b19
  refine j_iconst dX12_odds_19 ?_
  exact j_zreturn jz0 dX12_odds_20
def f_X12_odds (a0 : Int) (a1 : Int) (a2 : Int) (S : jSt) : Option (Int × jSt) :=
  fcall (f_X12_isIn a1 0 5 S) (fun v1 S2 => if v1 = 0 then f_X12_odds_b19 S2 else fcall (f_X12_isIn a2 0 10 S2) (fun v3 S4 => if v3 = 0 then f_X12_odds_b19 S4 else fgetr S4 a0 12 0 (fun v5 => fast S4 v5 (w32 (147 + a1)) 1 a2 (fun S6 => some (1, S6)))))
theorem e_X12_odds {G : jG} {d : Nat} {S0 : jSt} (hd0 : 2 ≤ d) (a0 : Int) (a1 : Int) (a2 : Int) (S : jSt) (h0 : 0 ≤ (a0)) (h1 : R32 (a1)) (h2 : R32 (a2)) : J G yX12_odds cX12_odds 3 (some .boolean) d S0 0 [(0, 2, a0), (1, 0, a1), (2, 0, a2)] [] S (f_X12_odds a0 a1 a2 S) := by
  unfold f_X12_odds
  refine j_iload_n 1 dX12_odds_0 rfl rfl ?_
  refine j_iconst dX12_odds_1 ?_
  refine j_iconst dX12_odds_2 ?_
  refine j_callS (As := [(0, a1), (0, 0), (0, 5)]) (st := []) kc_X12_isIn (c_X12_isIn a1 0 5 S h1 (jZ_R jz0) (j_r32 5 rfl)) lm_X12_60 ks_X12_isIn rfl (Nat.le_of_ble_eq_true rfl) (Nat.le_trans (m := 2) (Nat.le_of_ble_eq_true rfl) hd0) dX12_odds_3 (fun (v1 : Int) (S2 : jSt) (hv1 : (v1) = 0 ∨ (v1) = 1) => ?_)
  refine j_if_eq (tgt := 19) (jZ_R hv1) dX12_odds_6 rfl (fun _ => ?_) (fun _ => ?_)
  · refine j_sub [] rfl ?_
    exact p_f_X12_odds_b19 hd0 S2
  · refine j_iload_n 2 dX12_odds_9 rfl rfl ?_
    refine j_iconst dX12_odds_10 ?_
    refine j_bipush dX12_odds_11 (by decide) ?_
    refine j_callS (As := [(0, a2), (0, 0), (0, 10)]) (st := []) kc_X12_isIn (c_X12_isIn a2 0 10 S2 h2 (jZ_R jz0) (j_r32 10 rfl)) lm_X12_60 ks_X12_isIn rfl (Nat.le_of_ble_eq_true rfl) (Nat.le_trans (m := 2) (Nat.le_of_ble_eq_true rfl) hd0) dX12_odds_13 (fun (v3 : Int) (S4 : jSt) (hv3 : (v3) = 0 ∨ (v3) = 1) => ?_)
    refine j_if_ne (tgt := 21) (jZ_R hv3) dX12_odds_16 rfl (fun _ => ?_) (fun _ => ?_)
    · refine j_aload_n 0 dX12_odds_21 rfl rfl ?_
      refine j_getr (ci := 12) (k := 0) rfl in_X12 (Nat.le_of_ble_eq_true rfl) rfl rfl fl_X12_7 dX12_odds_22 (fun (v5 : Int) (hv5 : 0 ≤ v5) => ?_)
      refine j_sipush dX12_odds_25 (by decide) ?_
      refine j_iload_n 1 dX12_odds_28 rfl rfl ?_
      refine j_iadd dX12_odds_29 ?_
      refine j_iload_n 2 dX12_odds_30 rfl rfl ?_
      refine j_iastore (w32_R _) h2 dX12_odds_31 (fun S6 => ?_)
      refine j_iconst dX12_odds_32 ?_
      exact j_zreturn jz1 dX12_odds_33
    · refine j_sub [] rfl ?_
      exact p_f_X12_odds_b19 hd0 S4
theorem c_X12_odds {G : jG} (a0 : Int) (a1 : Int) (a2 : Int) (S : jSt) (h0 : 0 ≤ (a0)) (h1 : R32 (a1)) (h2 : R32 (a2)) : CT G yX12_odds cX12_odds 3 (some .boolean) 2 ([(2, a0), (0, a1), (0, a2)].map jval) S (f_X12_odds a0 a1 a2 S) := ct_of [(2, a0), (0, a1), (0, a2)] (by decide) rfl (Nat.le_of_ble_eq_true rfl) (e_X12_odds (Nat.le_refl _) a0 a1 a2 S h0 h1 h2)
-- X12_ofBidder
def f_X12_ofBidder_b17 (S : jSt) : Option (Int × jSt) :=
  some ((-2), S)
theorem p_f_X12_ofBidder_b17 {G : jG} {d : Nat} {S0 : jSt} (hd0 : 3 ≤ d) : ∀ (S : jSt), J G yX12_ofBidder cX12_ofBidder 5 (some .int) d S0 17 [] [] S (f_X12_ofBidder_b17   S) := by
  intro S
  unfold f_X12_ofBidder_b17
  refine j_bipush dX12_ofBidder_17 (by decide) ?_
  exact j_ireturn (j_r32 (-2) rfl) dX12_ofBidder_19
def f_X12_ofBidder_b98 (x0 : Int) (S : jSt) : Option (Int × jSt) :=
  some (x0, S)
theorem p_f_X12_ofBidder_b98 {G : jG} {d : Nat} {S0 : jSt} (hd0 : 3 ≤ d) : ∀ (x0 : Int) (S : jSt), (R32 (x0)) → J G yX12_ofBidder cX12_ofBidder 5 (some .int) d S0 98 [] [(0, x0)] S (f_X12_ofBidder_b98  x0 S) := by
  intro x0 S h0
  unfold f_X12_ofBidder_b98
  exact j_ireturn h0 dX12_ofBidder_98
def f_X12_ofBidder_b63 (r25 : Int → Int → Int → Int → Int → jSt → Option (Int × jSt)) (x0 : Int) (x1 : Int) (x2 : Int) (x3 : Int) (x4 : Int) (x5 : Int) (S : jSt) : Option (Int × jSt) :=
  flet (w32 (x4 + x5)) (fun v15 => flet (w32 (x3 + 1)) (fun v16 => r25 x0 x1 x2 v15 v16 S))
theorem p_f_X12_ofBidder_b63 {G : jG} {d : Nat} {S0 : jSt} (hd0 : 3 ≤ d) {r25 : Int → Int → Int → Int → Int → jSt → Option (Int × jSt)} (k25 : ∀ (x0 : Int) (x1 : Int) (x2 : Int) (x3 : Int) (x4 : Int) (S : jSt), (0 ≤ (x0)) → (R32 (x1)) → (R32 (x2)) → (R32 (x3)) → (R32 (x4)) → J G yX12_ofBidder cX12_ofBidder 5 (some .int) d S0 25 [(0, 2, x0), (1, 0, x1), (2, 0, x2), (3, 0, x3), (4, 0, x4)] [] S (r25 x0 x1 x2 x3 x4 S)) : ∀ (x0 : Int) (x1 : Int) (x2 : Int) (x3 : Int) (x4 : Int) (x5 : Int) (S : jSt), (0 ≤ (x0)) → (R32 (x1)) → (R32 (x2)) → (R32 (x3)) → (R32 (x4)) → (R32 (x5)) → J G yX12_ofBidder cX12_ofBidder 5 (some .int) d S0 63 [(0, 2, x0), (1, 0, x1), (2, 0, x2), (4, 0, x3)] [(0, x5), (0, x4)] S (f_X12_ofBidder_b63 r25 x0 x1 x2 x3 x4 x5 S) := by
  intro x0 x1 x2 x3 x4 x5 S h0 h1 h2 h3 h4 h5
  unfold f_X12_ofBidder_b63
  refine j_iadd dX12_ofBidder_63 ?_
  refine j_leti (w32_R _) (fun v15 hv15 => ?_)
  refine j_istore_n (lv' := [(3, 0, v15), (0, 2, x0), (1, 0, x1), (2, 0, x2), (4, 0, x3)]) dX12_ofBidder_64 rfl (Nat.le_of_ble_eq_true rfl) rfl ?_
  refine j_iincL (q := 4) dX12_ofBidder_65 rfl (Nat.le_of_ble_eq_true rfl) (fun v16 hv16 => ?_)
  refine j_lv (lv' := [(4, 0, v16), (3, 0, v15), (0, 2, x0), (1, 0, x1), (2, 0, x2)]) rfl ?_
  refine j_goto (tgt := 25) dX12_ofBidder_68 rfl ?_
  refine j_sub [2, 3, 4, 1, 0] rfl ?_
  exact k25 x0 x1 x2 v15 v16 S h0 h1 h2 hv15 hv16
def f_X12_ofBidder_b25B (r25 : Int → Int → Int → Int → Int → jSt → Option (Int × jSt)) (x0 : Int) (x1 : Int) (x2 : Int) (x3 : Int) (x4 : Int) (S : jSt) : Option (Int × jSt) :=
  fgetr S x0 12 0 (fun v5 => fald S v5 0 1 (fun v6 => if v6 ≤ x4 then if x2 = 0 then fcallv S x0 12 (f_X12_own x0 x1 0 S) (fun v9 S10 => f_X12_ofBidder_b98 v9 S10) else if x2 = 1 then fcallv S x0 12 (f_X12_hasLots x0 x1 S) (fun v7 S8 => f_X12_ofBidder_b98 v7 S8) else f_X12_ofBidder_b98 x3 S else fcallv S x0 12 (f_X12_hasLots x0 x1 S) (fun v11 S12 => fcall (f_X12_has v11 x4 S12) (fun v13 S14 => if v13 = 0 then f_X12_ofBidder_b63 r25 x0 x1 x2 x4 x3 0 S14 else fcallv S14 x0 12 (f_X12_own x0 x1 (w32 (1 + x4)) S14) (fun v17 S18 => f_X12_ofBidder_b63 r25 x0 x1 x2 x4 x3 v17 S18)))))
theorem p_f_X12_ofBidder_b25B {G : jG} {d : Nat} {S0 : jSt} (hd0 : 3 ≤ d) {r25 : Int → Int → Int → Int → Int → jSt → Option (Int × jSt)} (k25 : ∀ (x0 : Int) (x1 : Int) (x2 : Int) (x3 : Int) (x4 : Int) (S : jSt), (0 ≤ (x0)) → (R32 (x1)) → (R32 (x2)) → (R32 (x3)) → (R32 (x4)) → J G yX12_ofBidder cX12_ofBidder 5 (some .int) d S0 25 [(0, 2, x0), (1, 0, x1), (2, 0, x2), (3, 0, x3), (4, 0, x4)] [] S (r25 x0 x1 x2 x3 x4 S)) : ∀ (x0 : Int) (x1 : Int) (x2 : Int) (x3 : Int) (x4 : Int) (S : jSt), (0 ≤ (x0)) → (R32 (x1)) → (R32 (x2)) → (R32 (x3)) → (R32 (x4)) → J G yX12_ofBidder cX12_ofBidder 5 (some .int) d S0 25 [(0, 2, x0), (1, 0, x1), (2, 0, x2), (3, 0, x3), (4, 0, x4)] [] S (f_X12_ofBidder_b25B r25 x0 x1 x2 x3 x4 S) := by
  intro x0 x1 x2 x3 x4 S h0 h1 h2 h3 h4
  unfold f_X12_ofBidder_b25B
  refine j_iload 4 dX12_ofBidder_25 rfl ?_
  refine j_aload_n 0 dX12_ofBidder_27 rfl rfl ?_
  refine j_getr (ci := 12) (k := 0) rfl in_X12 (Nat.le_of_ble_eq_true rfl) rfl rfl fl_X12_7 dX12_ofBidder_28 (fun (v5 : Int) (hv5 : 0 ≤ v5) => ?_)
  refine j_iconst dX12_ofBidder_31 ?_
  refine j_iaload (jZ_R jz0) dX12_ofBidder_32 (fun (v6 : Int) (hv6 : R32 (v6)) => ?_)
  refine j_icmp_ge (tgt := 71) h4 hv6 dX12_ofBidder_33 rfl (fun _ => ?_) (fun _ => ?_)
  · refine j_iload_n 2 dX12_ofBidder_71 rfl rfl ?_
    refine j_if_ne (tgt := 84) h2 dX12_ofBidder_72 rfl (fun _ => ?_) (fun _ => ?_)
    · refine j_iload_n 2 dX12_ofBidder_84 rfl rfl ?_
      refine j_iconst dX12_ofBidder_85 ?_
      refine j_icmp_ne (tgt := 97) h2 (jZ_R jz1) dX12_ofBidder_86 rfl (fun _ => ?_) (fun _ => ?_)
      · refine j_iload_n 3 dX12_ofBidder_97 rfl rfl ?_
        refine j_sub [] rfl ?_
        exact p_f_X12_ofBidder_b98 hd0 x3 S h3
      · refine j_aload_n 0 dX12_ofBidder_89 rfl rfl ?_
        refine j_iload_n 1 dX12_ofBidder_90 rfl rfl ?_
        refine j_callV (ci := 12) (As := [(0, x1)]) (st := []) kc_X12_hasLots (c_X12_hasLots x0 x1 S h0 h1) rfl lm_X12_302 ki_X12_hasLots ke_X12_hasLots rfl (Nat.le_of_ble_eq_true rfl) (Nat.le_trans (m := 3) (Nat.le_of_ble_eq_true rfl) hd0) dX12_ofBidder_91 (fun (v7 : Int) (S8 : jSt) (hv7 : R32 (v7)) => ?_)
        refine j_goto (tgt := 98) dX12_ofBidder_94 rfl ?_
        refine j_sub [] rfl ?_
        exact p_f_X12_ofBidder_b98 hd0 v7 S8 hv7
    · refine j_aload_n 0 dX12_ofBidder_75 rfl rfl ?_
      refine j_iload_n 1 dX12_ofBidder_76 rfl rfl ?_
      refine j_iconst dX12_ofBidder_77 ?_
      refine j_callV (ci := 12) (As := [(0, x1), (0, 0)]) (st := []) kc_X12_own (c_X12_own x0 x1 0 S h0 h1 (jZ_R jz0)) rfl lm_X12_299 ki_X12_own ke_X12_own rfl (Nat.le_of_ble_eq_true rfl) (Nat.le_trans (m := 3) (Nat.le_of_ble_eq_true rfl) hd0) dX12_ofBidder_78 (fun (v9 : Int) (S10 : jSt) (hv9 : R32 (v9)) => ?_)
      refine j_goto (tgt := 98) dX12_ofBidder_81 rfl ?_
      refine j_sub [] rfl ?_
      exact p_f_X12_ofBidder_b98 hd0 v9 S10 hv9
  · refine j_iload_n 3 dX12_ofBidder_36 rfl rfl ?_
    refine j_aload_n 0 dX12_ofBidder_37 rfl rfl ?_
    refine j_iload_n 1 dX12_ofBidder_38 rfl rfl ?_
    refine j_callV (ci := 12) (As := [(0, x1)]) (st := [(0, x3)]) kc_X12_hasLots (c_X12_hasLots x0 x1 S h0 h1) rfl lm_X12_302 ki_X12_hasLots ke_X12_hasLots rfl (Nat.le_of_ble_eq_true rfl) (Nat.le_trans (m := 3) (Nat.le_of_ble_eq_true rfl) hd0) dX12_ofBidder_39 (fun (v11 : Int) (S12 : jSt) (hv11 : R32 (v11)) => ?_)
    refine j_iload 4 dX12_ofBidder_42 rfl ?_
    refine j_callS (As := [(0, v11), (0, x4)]) (st := [(0, x3)]) kc_X12_has (c_X12_has v11 x4 S12 hv11 h4) lm_X12_249 ks_X12_has rfl (Nat.le_of_ble_eq_true rfl) (Nat.le_trans (m := 3) (Nat.le_of_ble_eq_true rfl) hd0) dX12_ofBidder_44 (fun (v13 : Int) (S14 : jSt) (hv13 : (v13) = 0 ∨ (v13) = 1) => ?_)
    refine j_if_eq (tgt := 62) (jZ_R hv13) dX12_ofBidder_47 rfl (fun _ => ?_) (fun _ => ?_)
    · refine j_iconst dX12_ofBidder_62 ?_
      refine j_sub [0, 1, 2, 4] rfl ?_
      exact p_f_X12_ofBidder_b63 hd0 k25 x0 x1 x2 x4 x3 0 S14 h0 h1 h2 h4 h3 (jZ_R jz0)
    · refine j_aload_n 0 dX12_ofBidder_50 rfl rfl ?_
      refine j_iload_n 1 dX12_ofBidder_51 rfl rfl ?_
      refine j_iconst dX12_ofBidder_52 ?_
      refine j_iload 4 dX12_ofBidder_53 rfl ?_
      refine j_iadd dX12_ofBidder_55 ?_
      refine j_callV (ci := 12) (As := [(0, x1), (0, w32 (1 + x4))]) (st := [(0, x3)]) kc_X12_own (c_X12_own x0 x1 (w32 (1 + x4)) S14 h0 h1 (w32_R _)) rfl lm_X12_299 ki_X12_own ke_X12_own rfl (Nat.le_of_ble_eq_true rfl) (Nat.le_trans (m := 3) (Nat.le_of_ble_eq_true rfl) hd0) dX12_ofBidder_56 (fun (v17 : Int) (S18 : jSt) (hv17 : R32 (v17)) => ?_)
      refine j_goto (tgt := 63) dX12_ofBidder_59 rfl ?_
      refine j_sub [0, 1, 2, 4] rfl ?_
      exact p_f_X12_ofBidder_b63 hd0 k25 x0 x1 x2 x4 x3 v17 S18 h0 h1 h2 h4 h3 hv17
def f_X12_ofBidder_b25 : Int → Int → Int → Int → Int → jSt → Option (Int × jSt) := jrep (β := Int → Int → Int → Int → Int → jSt → Option (Int × jSt)) (fun _ _ _ _ _ _ => none) (fun r => f_X12_ofBidder_b25B r) jN
theorem p_f_X12_ofBidder_b25 {G : jG} {d : Nat} {S0 : jSt} (hd0 : 3 ≤ d) : ∀ (x0 : Int) (x1 : Int) (x2 : Int) (x3 : Int) (x4 : Int) (S : jSt), (0 ≤ (x0)) → (R32 (x1)) → (R32 (x2)) → (R32 (x3)) → (R32 (x4)) → J G yX12_ofBidder cX12_ofBidder 5 (some .int) d S0 25 [(0, 2, x0), (1, 0, x1), (2, 0, x2), (3, 0, x3), (4, 0, x4)] [] S (f_X12_ofBidder_b25  x0 x1 x2 x3 x4 S) :=
  jrep_ind (P := fun (r : Int → Int → Int → Int → Int → jSt → Option (Int × jSt)) => ∀ (x0 : Int) (x1 : Int) (x2 : Int) (x3 : Int) (x4 : Int) (S : jSt), (0 ≤ (x0)) → (R32 (x1)) → (R32 (x2)) → (R32 (x3)) → (R32 (x4)) → J G yX12_ofBidder cX12_ofBidder 5 (some .int) d S0 25 [(0, 2, x0), (1, 0, x1), (2, 0, x2), (3, 0, x3), (4, 0, x4)] [] S (r x0 x1 x2 x3 x4 S)) (by intros; exact j_none) (fun r k => p_f_X12_ofBidder_b25B hd0 k) jN
def f_X12_ofBidder (a0 : Int) (a1 : Int) (a2 : Int) (S : jSt) : Option (Int × jSt) :=
  fcallv S a0 12 (f_X12_isBidder a0 a1 S) (fun v1 S2 => if v1 = 0 then f_X12_ofBidder_b17 S2 else fcall (f_X12_isIn a2 0 2 S2) (fun v3 S4 => if v3 = 0 then f_X12_ofBidder_b17 S4 else f_X12_ofBidder_b25 a0 a1 a2 0 0 S4))
theorem e_X12_ofBidder {G : jG} {d : Nat} {S0 : jSt} (hd0 : 3 ≤ d) (a0 : Int) (a1 : Int) (a2 : Int) (S : jSt) (h0 : 0 ≤ (a0)) (h1 : R32 (a1)) (h2 : R32 (a2)) : J G yX12_ofBidder cX12_ofBidder 5 (some .int) d S0 0 [(0, 2, a0), (1, 0, a1), (2, 0, a2)] [] S (f_X12_ofBidder a0 a1 a2 S) := by
  unfold f_X12_ofBidder
  refine j_aload_n 0 dX12_ofBidder_0 rfl rfl ?_
  refine j_iload_n 1 dX12_ofBidder_1 rfl rfl ?_
  refine j_callV (ci := 12) (As := [(0, a1)]) (st := []) kc_X12_isBidder (c_X12_isBidder a0 a1 S h0 h1) rfl lm_X12_82 ki_X12_isBidder ke_X12_isBidder rfl (Nat.le_of_ble_eq_true rfl) (Nat.le_trans (m := 3) (Nat.le_of_ble_eq_true rfl) hd0) dX12_ofBidder_2 (fun (v1 : Int) (S2 : jSt) (hv1 : (v1) = 0 ∨ (v1) = 1) => ?_)
  refine j_if_eq (tgt := 17) (jZ_R hv1) dX12_ofBidder_5 rfl (fun _ => ?_) (fun _ => ?_)
  · refine j_sub [] rfl ?_
    exact p_f_X12_ofBidder_b17 hd0 S2
  · refine j_iload_n 2 dX12_ofBidder_8 rfl rfl ?_
    refine j_iconst dX12_ofBidder_9 ?_
    refine j_iconst dX12_ofBidder_10 ?_
    refine j_callS (As := [(0, a2), (0, 0), (0, 2)]) (st := []) kc_X12_isIn (c_X12_isIn a2 0 2 S2 h2 (jZ_R jz0) (j_r32 2 rfl)) lm_X12_60 ks_X12_isIn rfl (Nat.le_of_ble_eq_true rfl) (Nat.le_trans (m := 3) (Nat.le_of_ble_eq_true rfl) hd0) dX12_ofBidder_11 (fun (v3 : Int) (S4 : jSt) (hv3 : (v3) = 0 ∨ (v3) = 1) => ?_)
    refine j_if_ne (tgt := 20) (jZ_R hv3) dX12_ofBidder_14 rfl (fun _ => ?_) (fun _ => ?_)
    · refine j_iconst dX12_ofBidder_20 ?_
      refine j_istore_n (lv' := [(3, 0, 0), (0, 2, a0), (1, 0, a1), (2, 0, a2)]) dX12_ofBidder_21 rfl (Nat.le_of_ble_eq_true rfl) rfl ?_
      refine j_iconst dX12_ofBidder_22 ?_
      refine j_istore (lv' := [(4, 0, 0), (3, 0, 0), (0, 2, a0), (1, 0, a1), (2, 0, a2)]) dX12_ofBidder_23 (Nat.le_of_ble_eq_true rfl) rfl ?_
      refine j_sub [2, 3, 4, 1, 0] rfl ?_
      exact p_f_X12_ofBidder_b25 hd0 a0 a1 a2 0 0 S4 h0 h1 h2 (jZ_R jz0) (jZ_R jz0)
    · refine j_sub [] rfl ?_
      exact p_f_X12_ofBidder_b17 hd0 S4
theorem c_X12_ofBidder {G : jG} (a0 : Int) (a1 : Int) (a2 : Int) (S : jSt) (h0 : 0 ≤ (a0)) (h1 : R32 (a1)) (h2 : R32 (a2)) : CT G yX12_ofBidder cX12_ofBidder 5 (some .int) 3 ([(2, a0), (0, a1), (0, a2)].map jval) S (f_X12_ofBidder a0 a1 a2 S) := ct_of [(2, a0), (0, a1), (0, a2)] (by decide) rfl (Nat.le_of_ble_eq_true rfl) (e_X12_ofBidder (Nat.le_refl _) a0 a1 a2 S h0 h1 h2)
-- X12_pricesOfTurn
def f_X12_pricesOfTurn_b38 (r8 : Int → Int → Int → Int → jSt → Option (Int × jSt)) (x0 : Int) (x1 : Int) (x2 : Int) (x3 : Int) (x4 : Int) (S : jSt) : Option (Int × jSt) :=
  flet (w32 (x3 + x4)) (fun v9 => flet (w32 (x2 + 1)) (fun v10 => r8 x0 x1 v9 v10 S))
theorem p_f_X12_pricesOfTurn_b38 {G : jG} {d : Nat} {S0 : jSt} (hd0 : 8 ≤ d) {r8 : Int → Int → Int → Int → jSt → Option (Int × jSt)} (k8 : ∀ (x0 : Int) (x1 : Int) (x2 : Int) (x3 : Int) (S : jSt), (0 ≤ (x0)) → (R32 (x1)) → (R32 (x2)) → (R32 (x3)) → J G yX12_pricesOfTurn cX12_pricesOfTurn 5 (some .int) d S0 8 [(0, 2, x0), (1, 0, x1), (2, 0, x2), (3, 0, x3)] [] S (r8 x0 x1 x2 x3 S)) : ∀ (x0 : Int) (x1 : Int) (x2 : Int) (x3 : Int) (x4 : Int) (S : jSt), (0 ≤ (x0)) → (R32 (x1)) → (R32 (x2)) → (R32 (x3)) → (R32 (x4)) → J G yX12_pricesOfTurn cX12_pricesOfTurn 5 (some .int) d S0 38 [(0, 2, x0), (1, 0, x1), (3, 0, x2)] [(0, x4), (0, x3)] S (f_X12_pricesOfTurn_b38 r8 x0 x1 x2 x3 x4 S) := by
  intro x0 x1 x2 x3 x4 S h0 h1 h2 h3 h4
  unfold f_X12_pricesOfTurn_b38
  refine j_iadd dX12_pricesOfTurn_38 ?_
  refine j_leti (w32_R _) (fun v9 hv9 => ?_)
  refine j_istore_n (lv' := [(2, 0, v9), (0, 2, x0), (1, 0, x1), (3, 0, x2)]) dX12_pricesOfTurn_39 rfl (Nat.le_of_ble_eq_true rfl) rfl ?_
  refine j_iincL (q := 3) dX12_pricesOfTurn_40 rfl (Nat.le_of_ble_eq_true rfl) (fun v10 hv10 => ?_)
  refine j_lv (lv' := [(3, 0, v10), (2, 0, v9), (0, 2, x0), (1, 0, x1)]) rfl ?_
  refine j_goto (tgt := 8) dX12_pricesOfTurn_43 rfl ?_
  refine j_sub [2, 3, 1, 0] rfl ?_
  exact k8 x0 x1 v9 v10 S h0 h1 hv9 hv10
def f_X12_pricesOfTurn_b8B (r8 : Int → Int → Int → Int → jSt → Option (Int × jSt)) (x0 : Int) (x1 : Int) (x2 : Int) (x3 : Int) (S : jSt) : Option (Int × jSt) :=
  if x1 ≤ x3 then fcallv S x0 12 (f_X12_putBack x0 S) (fun v3 S4 => some (x2, S4)) else fgetr S x0 12 26 (fun v5 => fald S v5 x3 1 (fun v6 => fcallv S x0 12 (f_X12_sellNow x0 v6 S) (fun v7 S8 => if v7 = (-1) then f_X12_pricesOfTurn_b38 r8 x0 x1 x3 x2 0 S8 else f_X12_pricesOfTurn_b38 r8 x0 x1 x3 x2 v7 S8)))
theorem p_f_X12_pricesOfTurn_b8B {G : jG} {d : Nat} {S0 : jSt} (hd0 : 8 ≤ d) {r8 : Int → Int → Int → Int → jSt → Option (Int × jSt)} (k8 : ∀ (x0 : Int) (x1 : Int) (x2 : Int) (x3 : Int) (S : jSt), (0 ≤ (x0)) → (R32 (x1)) → (R32 (x2)) → (R32 (x3)) → J G yX12_pricesOfTurn cX12_pricesOfTurn 5 (some .int) d S0 8 [(0, 2, x0), (1, 0, x1), (2, 0, x2), (3, 0, x3)] [] S (r8 x0 x1 x2 x3 S)) : ∀ (x0 : Int) (x1 : Int) (x2 : Int) (x3 : Int) (S : jSt), (0 ≤ (x0)) → (R32 (x1)) → (R32 (x2)) → (R32 (x3)) → J G yX12_pricesOfTurn cX12_pricesOfTurn 5 (some .int) d S0 8 [(0, 2, x0), (1, 0, x1), (2, 0, x2), (3, 0, x3)] [] S (f_X12_pricesOfTurn_b8B r8 x0 x1 x2 x3 S) := by
  intro x0 x1 x2 x3 S h0 h1 h2 h3
  unfold f_X12_pricesOfTurn_b8B
  refine j_iload_n 3 dX12_pricesOfTurn_8 rfl rfl ?_
  refine j_iload_n 1 dX12_pricesOfTurn_9 rfl rfl ?_
  refine j_icmp_ge (tgt := 46) h3 h1 dX12_pricesOfTurn_10 rfl (fun _ => ?_) (fun _ => ?_)
  · refine j_aload_n 0 dX12_pricesOfTurn_46 rfl rfl ?_
    refine j_callV (ci := 12) (As := []) (st := []) kc_X12_putBack (c_X12_putBack x0 S h0) rfl lm_X12_418 ki_X12_putBack ke_X12_putBack rfl (Nat.le_of_ble_eq_true rfl) (Nat.le_trans (m := 8) (Nat.le_of_ble_eq_true rfl) hd0) dX12_pricesOfTurn_47 (fun v3 S4 _ => ?_)
    refine j_iload_n 2 dX12_pricesOfTurn_50 rfl rfl ?_
    exact j_ireturn h2 dX12_pricesOfTurn_51
  · refine j_aload_n 0 dX12_pricesOfTurn_13 rfl rfl ?_
    refine j_aload_n 0 dX12_pricesOfTurn_14 rfl rfl ?_
    refine j_getr (ci := 12) (k := 26) rfl in_X12 (Nat.le_of_ble_eq_true rfl) rfl rfl fl_X12_50 dX12_pricesOfTurn_15 (fun (v5 : Int) (hv5 : 0 ≤ v5) => ?_)
    refine j_iload_n 3 dX12_pricesOfTurn_18 rfl rfl ?_
    refine j_iaload h3 dX12_pricesOfTurn_19 (fun (v6 : Int) (hv6 : R32 (v6)) => ?_)
    refine j_callV (ci := 12) (As := [(0, v6)]) (st := []) kc_X12_sellNow (c_X12_sellNow x0 v6 S h0 hv6) rfl lm_X12_346 ki_X12_sellNow ke_X12_sellNow rfl (Nat.le_of_ble_eq_true rfl) (Nat.le_trans (m := 8) (Nat.le_of_ble_eq_true rfl) hd0) dX12_pricesOfTurn_20 (fun (v7 : Int) (S8 : jSt) (hv7 : R32 (v7)) => ?_)
    refine j_istore (lv' := [(4, 0, v7), (0, 2, x0), (1, 0, x1), (2, 0, x2), (3, 0, x3)]) dX12_pricesOfTurn_23 (Nat.le_of_ble_eq_true rfl) rfl ?_
    refine j_iload_n 3 dX12_pricesOfTurn_25 rfl rfl ?_
    refine j_iload 0 dX12_pricesOfTurn_26 rfl ?_
    refine j_iconst dX12_pricesOfTurn_28 ?_
    refine j_icmp_ne (tgt := 36) hv7 (j_r32 (-1) rfl) dX12_pricesOfTurn_29 rfl (fun _ => ?_) (fun _ => ?_)
    · refine j_iload 0 dX12_pricesOfTurn_36 rfl ?_
      refine j_sub [1, 2, 4] rfl ?_
      exact p_f_X12_pricesOfTurn_b38 hd0 k8 x0 x1 x3 x2 v7 S8 h0 h1 h3 h2 hv7
    · refine j_iconst dX12_pricesOfTurn_32 ?_
      refine j_goto (tgt := 38) dX12_pricesOfTurn_33 rfl ?_
      refine j_sub [1, 2, 4] rfl ?_
      exact p_f_X12_pricesOfTurn_b38 hd0 k8 x0 x1 x3 x2 0 S8 h0 h1 h3 h2 (jZ_R jz0)
def f_X12_pricesOfTurn_b8 : Int → Int → Int → Int → jSt → Option (Int × jSt) := jrep (β := Int → Int → Int → Int → jSt → Option (Int × jSt)) (fun _ _ _ _ _ => none) (fun r => f_X12_pricesOfTurn_b8B r) jN
theorem p_f_X12_pricesOfTurn_b8 {G : jG} {d : Nat} {S0 : jSt} (hd0 : 8 ≤ d) : ∀ (x0 : Int) (x1 : Int) (x2 : Int) (x3 : Int) (S : jSt), (0 ≤ (x0)) → (R32 (x1)) → (R32 (x2)) → (R32 (x3)) → J G yX12_pricesOfTurn cX12_pricesOfTurn 5 (some .int) d S0 8 [(0, 2, x0), (1, 0, x1), (2, 0, x2), (3, 0, x3)] [] S (f_X12_pricesOfTurn_b8  x0 x1 x2 x3 S) :=
  jrep_ind (P := fun (r : Int → Int → Int → Int → jSt → Option (Int × jSt)) => ∀ (x0 : Int) (x1 : Int) (x2 : Int) (x3 : Int) (S : jSt), (0 ≤ (x0)) → (R32 (x1)) → (R32 (x2)) → (R32 (x3)) → J G yX12_pricesOfTurn cX12_pricesOfTurn 5 (some .int) d S0 8 [(0, 2, x0), (1, 0, x1), (2, 0, x2), (3, 0, x3)] [] S (r x0 x1 x2 x3 S)) (by intros; exact j_none) (fun r k => p_f_X12_pricesOfTurn_b8B hd0 k) jN
def f_X12_pricesOfTurn (a0 : Int) (a1 : Int) (S : jSt) : Option (Int × jSt) :=
  fcallv S a0 12 (f_X12_setAside a0 S) (fun v1 S2 => f_X12_pricesOfTurn_b8 a0 a1 0 0 S2)
theorem e_X12_pricesOfTurn {G : jG} {d : Nat} {S0 : jSt} (hd0 : 8 ≤ d) (a0 : Int) (a1 : Int) (S : jSt) (h0 : 0 ≤ (a0)) (h1 : R32 (a1)) : J G yX12_pricesOfTurn cX12_pricesOfTurn 5 (some .int) d S0 0 [(0, 2, a0), (1, 0, a1)] [] S (f_X12_pricesOfTurn a0 a1 S) := by
  unfold f_X12_pricesOfTurn
  refine j_iconst dX12_pricesOfTurn_0 ?_
  refine j_istore_n (lv' := [(2, 0, 0), (0, 2, a0), (1, 0, a1)]) dX12_pricesOfTurn_1 rfl (Nat.le_of_ble_eq_true rfl) rfl ?_
  refine j_aload_n 1 dX12_pricesOfTurn_2 rfl rfl ?_
  refine j_callV (ci := 12) (As := []) (st := []) kc_X12_setAside (c_X12_setAside a0 S h0) rfl lm_X12_415 ki_X12_setAside ke_X12_setAside rfl (Nat.le_of_ble_eq_true rfl) (Nat.le_trans (m := 8) (Nat.le_of_ble_eq_true rfl) hd0) dX12_pricesOfTurn_3 (fun v1 S2 _ => ?_)
  refine j_iconst dX12_pricesOfTurn_6 ?_
  refine j_istore_n (lv' := [(3, 0, 0), (2, 0, 0), (0, 2, a0), (1, 0, a1)]) dX12_pricesOfTurn_7 rfl (Nat.le_of_ble_eq_true rfl) rfl ?_
  refine j_sub [2, 3, 1, 0] rfl ?_
  exact p_f_X12_pricesOfTurn_b8 hd0 a0 a1 0 0 S2 h0 h1 (jZ_R jz0) (jZ_R jz0)
theorem c_X12_pricesOfTurn {G : jG} (a0 : Int) (a1 : Int) (S : jSt) (h0 : 0 ≤ (a0)) (h1 : R32 (a1)) : CT G yX12_pricesOfTurn cX12_pricesOfTurn 5 (some .int) 8 ([(2, a0), (0, a1)].map jval) S (f_X12_pricesOfTurn a0 a1 S) := ct_of [(2, a0), (0, a1)] (by decide) rfl (Nat.le_of_ble_eq_true rfl) (e_X12_pricesOfTurn (Nat.le_refl _) a0 a1 S h0 h1)
-- X12_order
def f_X12_order_b40 (S : jSt) : Option (Int × jSt) :=
  some ((-2), S)
theorem p_f_X12_order_b40 {G : jG} {d : Nat} {S0 : jSt} (hd0 : 9 ≤ d) : ∀ (S : jSt), J G yX12_order cX12_order 8 (some .int) d S0 40 [] [] S (f_X12_order_b40   S) := by
  intro S
  unfold f_X12_order_b40
  refine j_bipush dX12_order_40 (by decide) ?_
  exact j_ireturn (j_r32 (-2) rfl) dX12_order_42
def f_X12_order_b170 (x0 : Int) (S : jSt) : Option (Int × jSt) :=
  some (x0, S)
theorem p_f_X12_order_b170 {G : jG} {d : Nat} {S0 : jSt} (hd0 : 9 ≤ d) : ∀ (x0 : Int) (S : jSt), (R32 (x0)) → J G yX12_order cX12_order 8 (some .int) d S0 170 [] [(0, x0)] S (f_X12_order_b170  x0 S) := by
  intro x0 S h0
  unfold f_X12_order_b170
  exact j_ireturn h0 dX12_order_170
def f_X12_order_b144 (r92 : Int → Int → Int → Int → Int → jSt → Option (Int × jSt)) (x0 : Int) (x1 : Int) (x2 : Int) (x3 : Int) (S : jSt) : Option (Int × jSt) :=
  fcallv S x0 12 (f_X12_isNextTurn x0 x2 S) (fun v19 S20 => r92 x0 x1 x2 x3 v19 S20)
theorem p_f_X12_order_b144 {G : jG} {d : Nat} {S0 : jSt} (hd0 : 9 ≤ d) {r92 : Int → Int → Int → Int → Int → jSt → Option (Int × jSt)} (k92 : ∀ (x0 : Int) (x1 : Int) (x2 : Int) (x3 : Int) (x4 : Int) (S : jSt), (0 ≤ (x0)) → (R32 (x1)) → (R32 (x2)) → (R32 (x3)) → ((x4) = 0 ∨ (x4) = 1) → J G yX12_order cX12_order 8 (some .int) d S0 92 [(0, 2, x0), (2, 0, x1), (3, 0, x2), (4, 0, x3), (5, 0, x4)] [] S (r92 x0 x1 x2 x3 x4 S)) : ∀ (x0 : Int) (x1 : Int) (x2 : Int) (x3 : Int) (S : jSt), (0 ≤ (x0)) → (R32 (x1)) → (R32 (x2)) → (R32 (x3)) → J G yX12_order cX12_order 8 (some .int) d S0 144 [(0, 2, x0), (2, 0, x1), (3, 0, x2), (4, 0, x3)] [] S (f_X12_order_b144 r92 x0 x1 x2 x3 S) := by
  intro x0 x1 x2 x3 S h0 h1 h2 h3
  unfold f_X12_order_b144
  refine j_aload_n 0 dX12_order_144 rfl rfl ?_
  refine j_iload_n 2 dX12_order_145 rfl rfl ?_
  refine j_callV (ci := 12) (As := [(0, x2)]) (st := []) kc_X12_isNextTurn (c_X12_isNextTurn x0 x2 S h0 h2) rfl lm_X12_430 ki_X12_isNextTurn ke_X12_isNextTurn rfl (Nat.le_of_ble_eq_true rfl) (Nat.le_trans (m := 9) (Nat.le_of_ble_eq_true rfl) hd0) dX12_order_146 (fun (v19 : Int) (S20 : jSt) (hv19 : (v19) = 0 ∨ (v19) = 1) => ?_)
  refine j_istore (lv' := [(5, 0, v19), (0, 2, x0), (2, 0, x1), (3, 0, x2), (4, 0, x3)]) dX12_order_149 (Nat.le_of_ble_eq_true rfl) rfl ?_
  refine j_goto (tgt := 92) dX12_order_151 rfl ?_
  refine j_sub [1, 2, 3, 4, 0] rfl ?_
  exact k92 x0 x1 x2 x3 v19 S20 h0 h1 h2 h3 hv19
def f_X12_order_b118B (r92 : Int → Int → Int → Int → Int → jSt → Option (Int × jSt)) (r118 : Int → Int → Int → Int → Int → jSt → Option (Int × jSt)) (x0 : Int) (x1 : Int) (x2 : Int) (x3 : Int) (x4 : Int) (S : jSt) : Option (Int × jSt) :=
  if x2 ≤ x4 then f_X12_order_b144 r92 x0 x1 x2 x3 S else fgetr S x0 12 27 (fun v21 => fgetr S x0 12 26 (fun v22 => fald S v22 x4 1 (fun v23 => fast S v21 x4 1 v23 (fun S24 => flet (w32 (x4 + 1)) (fun v25 => r118 x0 x1 x2 x3 v25 S24)))))
theorem p_f_X12_order_b118B {G : jG} {d : Nat} {S0 : jSt} (hd0 : 9 ≤ d) {r92 : Int → Int → Int → Int → Int → jSt → Option (Int × jSt)} (k92 : ∀ (x0 : Int) (x1 : Int) (x2 : Int) (x3 : Int) (x4 : Int) (S : jSt), (0 ≤ (x0)) → (R32 (x1)) → (R32 (x2)) → (R32 (x3)) → ((x4) = 0 ∨ (x4) = 1) → J G yX12_order cX12_order 8 (some .int) d S0 92 [(0, 2, x0), (2, 0, x1), (3, 0, x2), (4, 0, x3), (5, 0, x4)] [] S (r92 x0 x1 x2 x3 x4 S)) {r118 : Int → Int → Int → Int → Int → jSt → Option (Int × jSt)} (k118 : ∀ (x0 : Int) (x1 : Int) (x2 : Int) (x3 : Int) (x4 : Int) (S : jSt), (0 ≤ (x0)) → (R32 (x1)) → (R32 (x2)) → (R32 (x3)) → (R32 (x4)) → J G yX12_order cX12_order 8 (some .int) d S0 118 [(0, 2, x0), (2, 0, x1), (3, 0, x2), (4, 0, x3), (7, 0, x4)] [] S (r118 x0 x1 x2 x3 x4 S)) : ∀ (x0 : Int) (x1 : Int) (x2 : Int) (x3 : Int) (x4 : Int) (S : jSt), (0 ≤ (x0)) → (R32 (x1)) → (R32 (x2)) → (R32 (x3)) → (R32 (x4)) → J G yX12_order cX12_order 8 (some .int) d S0 118 [(0, 2, x0), (2, 0, x1), (3, 0, x2), (4, 0, x3), (7, 0, x4)] [] S (f_X12_order_b118B r92 r118 x0 x1 x2 x3 x4 S) := by
  intro x0 x1 x2 x3 x4 S h0 h1 h2 h3 h4
  unfold f_X12_order_b118B
  refine j_iload 4 dX12_order_118 rfl ?_
  refine j_iload_n 2 dX12_order_120 rfl rfl ?_
  refine j_icmp_ge (tgt := 144) h4 h2 dX12_order_121 rfl (fun _ => ?_) (fun _ => ?_)
  · refine j_sub [0, 1, 2, 3] rfl ?_
    exact p_f_X12_order_b144 hd0 k92 x0 x1 x2 x3 S h0 h1 h2 h3
  · refine j_aload_n 0 dX12_order_124 rfl rfl ?_
    refine j_getr (ci := 12) (k := 27) rfl in_X12 (Nat.le_of_ble_eq_true rfl) rfl rfl fl_X12_53 dX12_order_125 (fun (v21 : Int) (hv21 : 0 ≤ v21) => ?_)
    refine j_iload 4 dX12_order_128 rfl ?_
    refine j_aload_n 0 dX12_order_130 rfl rfl ?_
    refine j_getr (ci := 12) (k := 26) rfl in_X12 (Nat.le_of_ble_eq_true rfl) rfl rfl fl_X12_50 dX12_order_131 (fun (v22 : Int) (hv22 : 0 ≤ v22) => ?_)
    refine j_iload 4 dX12_order_134 rfl ?_
    refine j_iaload h4 dX12_order_136 (fun (v23 : Int) (hv23 : R32 (v23)) => ?_)
    refine j_iastore h4 hv23 dX12_order_137 (fun S24 => ?_)
    refine j_iincL (q := 4) dX12_order_138 rfl (Nat.le_of_ble_eq_true rfl) (fun v25 hv25 => ?_)
    refine j_lv (lv' := [(7, 0, v25), (0, 2, x0), (2, 0, x1), (3, 0, x2), (4, 0, x3)]) rfl ?_
    refine j_goto (tgt := 118) dX12_order_141 rfl ?_
    refine j_sub [1, 2, 3, 4, 0] rfl ?_
    exact k118 x0 x1 x2 x3 v25 S24 h0 h1 h2 h3 hv25
def f_X12_order_b118 (r92 : Int → Int → Int → Int → Int → jSt → Option (Int × jSt)) : Int → Int → Int → Int → Int → jSt → Option (Int × jSt) := jrep (β := Int → Int → Int → Int → Int → jSt → Option (Int × jSt)) (fun _ _ _ _ _ _ => none) (fun r => f_X12_order_b118B r92 r) jN
theorem p_f_X12_order_b118 {G : jG} {d : Nat} {S0 : jSt} (hd0 : 9 ≤ d) {r92 : Int → Int → Int → Int → Int → jSt → Option (Int × jSt)} (k92 : ∀ (x0 : Int) (x1 : Int) (x2 : Int) (x3 : Int) (x4 : Int) (S : jSt), (0 ≤ (x0)) → (R32 (x1)) → (R32 (x2)) → (R32 (x3)) → ((x4) = 0 ∨ (x4) = 1) → J G yX12_order cX12_order 8 (some .int) d S0 92 [(0, 2, x0), (2, 0, x1), (3, 0, x2), (4, 0, x3), (5, 0, x4)] [] S (r92 x0 x1 x2 x3 x4 S)) : ∀ (x0 : Int) (x1 : Int) (x2 : Int) (x3 : Int) (x4 : Int) (S : jSt), (0 ≤ (x0)) → (R32 (x1)) → (R32 (x2)) → (R32 (x3)) → (R32 (x4)) → J G yX12_order cX12_order 8 (some .int) d S0 118 [(0, 2, x0), (2, 0, x1), (3, 0, x2), (4, 0, x3), (7, 0, x4)] [] S (f_X12_order_b118 r92 x0 x1 x2 x3 x4 S) :=
  jrep_ind (P := fun (r : Int → Int → Int → Int → Int → jSt → Option (Int × jSt)) => ∀ (x0 : Int) (x1 : Int) (x2 : Int) (x3 : Int) (x4 : Int) (S : jSt), (0 ≤ (x0)) → (R32 (x1)) → (R32 (x2)) → (R32 (x3)) → (R32 (x4)) → J G yX12_order cX12_order 8 (some .int) d S0 118 [(0, 2, x0), (2, 0, x1), (3, 0, x2), (4, 0, x3), (7, 0, x4)] [] S (r x0 x1 x2 x3 x4 S)) (by intros; exact j_none) (fun r k => p_f_X12_order_b118B hd0 k92 k) jN
def f_X12_order_b92B (r92 : Int → Int → Int → Int → Int → jSt → Option (Int × jSt)) (x0 : Int) (x1 : Int) (x2 : Int) (x3 : Int) (x4 : Int) (S : jSt) : Option (Int × jSt) :=
  if x4 = 0 then if x1 = (-1) then f_X12_order_b170 x3 S else fgetr S x0 12 27 (fun v15 => fald S v15 x1 1 (fun v16 => f_X12_order_b170 v16 S)) else fcallv S x0 12 (f_X12_pricesOfTurn x0 x2 S) (fun v17 S18 => if v17 ≤ x3 then f_X12_order_b144 r92 x0 x1 x2 x3 S18 else f_X12_order_b118 r92 x0 x1 x2 v17 0 S18)
theorem p_f_X12_order_b92B {G : jG} {d : Nat} {S0 : jSt} (hd0 : 9 ≤ d) {r92 : Int → Int → Int → Int → Int → jSt → Option (Int × jSt)} (k92 : ∀ (x0 : Int) (x1 : Int) (x2 : Int) (x3 : Int) (x4 : Int) (S : jSt), (0 ≤ (x0)) → (R32 (x1)) → (R32 (x2)) → (R32 (x3)) → ((x4) = 0 ∨ (x4) = 1) → J G yX12_order cX12_order 8 (some .int) d S0 92 [(0, 2, x0), (2, 0, x1), (3, 0, x2), (4, 0, x3), (5, 0, x4)] [] S (r92 x0 x1 x2 x3 x4 S)) : ∀ (x0 : Int) (x1 : Int) (x2 : Int) (x3 : Int) (x4 : Int) (S : jSt), (0 ≤ (x0)) → (R32 (x1)) → (R32 (x2)) → (R32 (x3)) → ((x4) = 0 ∨ (x4) = 1) → J G yX12_order cX12_order 8 (some .int) d S0 92 [(0, 2, x0), (2, 0, x1), (3, 0, x2), (4, 0, x3), (5, 0, x4)] [] S (f_X12_order_b92B r92 x0 x1 x2 x3 x4 S) := by
  intro x0 x1 x2 x3 x4 S h0 h1 h2 h3 h4
  unfold f_X12_order_b92B
  refine j_iload 4 dX12_order_92 rfl ?_
  refine j_if_eq (tgt := 154) (jZ_R h4) dX12_order_94 rfl (fun _ => ?_) (fun _ => ?_)
  · refine j_iload_n 1 dX12_order_154 rfl rfl ?_
    refine j_iconst dX12_order_155 ?_
    refine j_icmp_ne (tgt := 164) h1 (j_r32 (-1) rfl) dX12_order_156 rfl (fun _ => ?_) (fun _ => ?_)
    · refine j_aload_n 0 dX12_order_164 rfl rfl ?_
      refine j_getr (ci := 12) (k := 27) rfl in_X12 (Nat.le_of_ble_eq_true rfl) rfl rfl fl_X12_53 dX12_order_165 (fun (v15 : Int) (hv15 : 0 ≤ v15) => ?_)
      refine j_iload_n 1 dX12_order_168 rfl rfl ?_
      refine j_iaload h1 dX12_order_169 (fun (v16 : Int) (hv16 : R32 (v16)) => ?_)
      refine j_sub [] rfl ?_
      exact p_f_X12_order_b170 hd0 v16 S hv16
    · refine j_iload 3 dX12_order_159 rfl ?_
      refine j_goto (tgt := 170) dX12_order_161 rfl ?_
      refine j_sub [] rfl ?_
      exact p_f_X12_order_b170 hd0 x3 S h3
  · refine j_aload_n 0 dX12_order_97 rfl rfl ?_
    refine j_iload_n 2 dX12_order_98 rfl rfl ?_
    refine j_callV (ci := 12) (As := [(0, x2)]) (st := []) kc_X12_pricesOfTurn (c_X12_pricesOfTurn x0 x2 S h0 h2) rfl lm_X12_427 ki_X12_pricesOfTurn ke_X12_pricesOfTurn rfl (Nat.le_of_ble_eq_true rfl) (Nat.le_trans (m := 9) (Nat.le_of_ble_eq_true rfl) hd0) dX12_order_99 (fun (v17 : Int) (S18 : jSt) (hv17 : R32 (v17)) => ?_)
    refine j_istore (lv' := [(6, 0, v17), (0, 2, x0), (2, 0, x1), (3, 0, x2), (4, 0, x3), (5, 0, x4)]) dX12_order_102 (Nat.le_of_ble_eq_true rfl) rfl ?_
    refine j_iload 0 dX12_order_104 rfl ?_
    refine j_iload 4 dX12_order_106 rfl ?_
    refine j_icmp_le (tgt := 144) hv17 h3 dX12_order_108 rfl (fun _ => ?_) (fun _ => ?_)
    · refine j_sub [1, 2, 3, 4] rfl ?_
      exact p_f_X12_order_b144 hd0 k92 x0 x1 x2 x3 S18 h0 h1 h2 h3
    · refine j_iload 0 dX12_order_111 rfl ?_
      refine j_istore (lv' := [(4, 0, v17), (6, 0, v17), (0, 2, x0), (2, 0, x1), (3, 0, x2), (5, 0, x4)]) dX12_order_113 (Nat.le_of_ble_eq_true rfl) rfl ?_
      refine j_iconst dX12_order_115 ?_
      refine j_istore (lv' := [(7, 0, 0), (4, 0, v17), (6, 0, v17), (0, 2, x0), (2, 0, x1), (3, 0, x2), (5, 0, x4)]) dX12_order_116 (Nat.le_of_ble_eq_true rfl) rfl ?_
      refine j_sub [3, 4, 5, 1, 0] rfl ?_
      exact p_f_X12_order_b118 hd0 k92 x0 x1 x2 v17 0 S18 h0 h1 h2 hv17 (jZ_R jz0)
def f_X12_order_b92 : Int → Int → Int → Int → Int → jSt → Option (Int × jSt) := jrep (β := Int → Int → Int → Int → Int → jSt → Option (Int × jSt)) (fun _ _ _ _ _ _ => none) (fun r => f_X12_order_b92B r) jN
theorem p_f_X12_order_b92 {G : jG} {d : Nat} {S0 : jSt} (hd0 : 9 ≤ d) : ∀ (x0 : Int) (x1 : Int) (x2 : Int) (x3 : Int) (x4 : Int) (S : jSt), (0 ≤ (x0)) → (R32 (x1)) → (R32 (x2)) → (R32 (x3)) → ((x4) = 0 ∨ (x4) = 1) → J G yX12_order cX12_order 8 (some .int) d S0 92 [(0, 2, x0), (2, 0, x1), (3, 0, x2), (4, 0, x3), (5, 0, x4)] [] S (f_X12_order_b92  x0 x1 x2 x3 x4 S) :=
  jrep_ind (P := fun (r : Int → Int → Int → Int → Int → jSt → Option (Int × jSt)) => ∀ (x0 : Int) (x1 : Int) (x2 : Int) (x3 : Int) (x4 : Int) (S : jSt), (0 ≤ (x0)) → (R32 (x1)) → (R32 (x2)) → (R32 (x3)) → ((x4) = 0 ∨ (x4) = 1) → J G yX12_order cX12_order 8 (some .int) d S0 92 [(0, 2, x0), (2, 0, x1), (3, 0, x2), (4, 0, x3), (5, 0, x4)] [] S (r x0 x1 x2 x3 x4 S)) (by intros; exact j_none) (fun r k => p_f_X12_order_b92B hd0 k) jN
def f_X12_order_b74 (r45 : Int → Int → Int → Int → jSt → Option (Int × jSt)) (x0 : Int) (x1 : Int) (x2 : Int) (x3 : Int) (S : jSt) : Option (Int × jSt) :=
  flet (w32 (x3 + 1)) (fun v28 => r45 x0 x1 x2 v28 S)
theorem p_f_X12_order_b74 {G : jG} {d : Nat} {S0 : jSt} (hd0 : 9 ≤ d) {r45 : Int → Int → Int → Int → jSt → Option (Int × jSt)} (k45 : ∀ (x0 : Int) (x1 : Int) (x2 : Int) (x3 : Int) (S : jSt), (0 ≤ (x0)) → (R32 (x1)) → (R32 (x2)) → (R32 (x3)) → J G yX12_order cX12_order 8 (some .int) d S0 45 [(0, 2, x0), (1, 0, x1), (2, 0, x2), (3, 0, x3)] [] S (r45 x0 x1 x2 x3 S)) : ∀ (x0 : Int) (x1 : Int) (x2 : Int) (x3 : Int) (S : jSt), (0 ≤ (x0)) → (R32 (x1)) → (R32 (x2)) → (R32 (x3)) → J G yX12_order cX12_order 8 (some .int) d S0 74 [(0, 2, x0), (1, 0, x1), (2, 0, x2), (3, 0, x3)] [] S (f_X12_order_b74 r45 x0 x1 x2 x3 S) := by
  intro x0 x1 x2 x3 S h0 h1 h2 h3
  unfold f_X12_order_b74
  refine j_iincL (q := 3) dX12_order_74 rfl (Nat.le_of_ble_eq_true rfl) (fun v28 hv28 => ?_)
  refine j_lv (lv' := [(3, 0, v28), (0, 2, x0), (1, 0, x1), (2, 0, x2)]) rfl ?_
  refine j_goto (tgt := 45) dX12_order_77 rfl ?_
  refine j_sub [1, 2, 3, 0] rfl ?_
  exact k45 x0 x1 x2 v28 S h0 h1 h2 hv28
def f_X12_order_b45B (r45 : Int → Int → Int → Int → jSt → Option (Int × jSt)) (x0 : Int) (x1 : Int) (x2 : Int) (x3 : Int) (S : jSt) : Option (Int × jSt) :=
  fgetr S x0 12 0 (fun v11 => fald S v11 0 1 (fun v12 => if v12 ≤ x3 then fcallv S x0 12 (f_X12_layTurn x0 x1 S) (fun v13 S14 => f_X12_order_b92 x0 x2 v13 (-1) 1 S14) else fcall (f_X12_has x1 x3 S) (fun v26 S27 => if v26 = 0 then f_X12_order_b74 r45 x0 x1 x2 x3 S27 else fcallv S27 x0 12 (f_X12_isInHouse x0 x3 S27) (fun v29 S30 => if v29 = 0 then some ((-2), S30) else f_X12_order_b74 r45 x0 x1 x2 x3 S30))))
theorem p_f_X12_order_b45B {G : jG} {d : Nat} {S0 : jSt} (hd0 : 9 ≤ d) {r45 : Int → Int → Int → Int → jSt → Option (Int × jSt)} (k45 : ∀ (x0 : Int) (x1 : Int) (x2 : Int) (x3 : Int) (S : jSt), (0 ≤ (x0)) → (R32 (x1)) → (R32 (x2)) → (R32 (x3)) → J G yX12_order cX12_order 8 (some .int) d S0 45 [(0, 2, x0), (1, 0, x1), (2, 0, x2), (3, 0, x3)] [] S (r45 x0 x1 x2 x3 S)) : ∀ (x0 : Int) (x1 : Int) (x2 : Int) (x3 : Int) (S : jSt), (0 ≤ (x0)) → (R32 (x1)) → (R32 (x2)) → (R32 (x3)) → J G yX12_order cX12_order 8 (some .int) d S0 45 [(0, 2, x0), (1, 0, x1), (2, 0, x2), (3, 0, x3)] [] S (f_X12_order_b45B r45 x0 x1 x2 x3 S) := by
  intro x0 x1 x2 x3 S h0 h1 h2 h3
  unfold f_X12_order_b45B
  refine j_iload_n 3 dX12_order_45 rfl rfl ?_
  refine j_aload_n 0 dX12_order_46 rfl rfl ?_
  refine j_getr (ci := 12) (k := 0) rfl in_X12 (Nat.le_of_ble_eq_true rfl) rfl rfl fl_X12_7 dX12_order_47 (fun (v11 : Int) (hv11 : 0 ≤ v11) => ?_)
  refine j_iconst dX12_order_50 ?_
  refine j_iaload (jZ_R jz0) dX12_order_51 (fun (v12 : Int) (hv12 : R32 (v12)) => ?_)
  refine j_icmp_ge (tgt := 80) h3 hv12 dX12_order_52 rfl (fun _ => ?_) (fun _ => ?_)
  · refine j_aload_n 0 dX12_order_80 rfl rfl ?_
    refine j_iload_n 1 dX12_order_81 rfl rfl ?_
    refine j_callV (ci := 12) (As := [(0, x1)]) (st := []) kc_X12_layTurn (c_X12_layTurn x0 x1 S h0 h1) rfl lm_X12_424 ki_X12_layTurn ke_X12_layTurn rfl (Nat.le_of_ble_eq_true rfl) (Nat.le_trans (m := 9) (Nat.le_of_ble_eq_true rfl) hd0) dX12_order_82 (fun (v13 : Int) (S14 : jSt) (hv13 : R32 (v13)) => ?_)
    refine j_istore_n (lv' := [(3, 0, v13), (0, 2, x0), (1, 0, x1), (2, 0, x2)]) dX12_order_85 rfl (Nat.le_of_ble_eq_true rfl) rfl ?_
    refine j_iconst dX12_order_86 ?_
    refine j_istore (lv' := [(4, 0, (-1)), (3, 0, v13), (0, 2, x0), (1, 0, x1), (2, 0, x2)]) dX12_order_87 (Nat.le_of_ble_eq_true rfl) rfl ?_
    refine j_iconst dX12_order_89 ?_
    refine j_istore (lv' := [(5, 0, 1), (4, 0, (-1)), (3, 0, v13), (0, 2, x0), (1, 0, x1), (2, 0, x2)]) dX12_order_90 (Nat.le_of_ble_eq_true rfl) rfl ?_
    refine j_sub [3, 5, 2, 1, 0] rfl ?_
    exact p_f_X12_order_b92 hd0 x0 x2 v13 (-1) 1 S14 h0 h2 hv13 (j_r32 (-1) rfl) jz1
  · refine j_iload_n 1 dX12_order_55 rfl rfl ?_
    refine j_iload_n 3 dX12_order_56 rfl rfl ?_
    refine j_callS (As := [(0, x1), (0, x3)]) (st := []) kc_X12_has (c_X12_has x1 x3 S h1 h3) lm_X12_249 ks_X12_has rfl (Nat.le_of_ble_eq_true rfl) (Nat.le_trans (m := 9) (Nat.le_of_ble_eq_true rfl) hd0) dX12_order_57 (fun (v26 : Int) (S27 : jSt) (hv26 : (v26) = 0 ∨ (v26) = 1) => ?_)
    refine j_if_eq (tgt := 74) (jZ_R hv26) dX12_order_60 rfl (fun _ => ?_) (fun _ => ?_)
    · exact p_f_X12_order_b74 hd0 k45 x0 x1 x2 x3 S27 h0 h1 h2 h3
    · refine j_aload_n 0 dX12_order_63 rfl rfl ?_
      refine j_iload_n 3 dX12_order_64 rfl rfl ?_
      refine j_callV (ci := 12) (As := [(0, x3)]) (st := []) kc_X12_isInHouse (c_X12_isInHouse x0 x3 S27 h0 h3) rfl lm_X12_337 ki_X12_isInHouse ke_X12_isInHouse rfl (Nat.le_of_ble_eq_true rfl) (Nat.le_trans (m := 9) (Nat.le_of_ble_eq_true rfl) hd0) dX12_order_65 (fun (v29 : Int) (S30 : jSt) (hv29 : (v29) = 0 ∨ (v29) = 1) => ?_)
      refine j_if_ne (tgt := 74) (jZ_R hv29) dX12_order_68 rfl (fun _ => ?_) (fun _ => ?_)
      · exact p_f_X12_order_b74 hd0 k45 x0 x1 x2 x3 S30 h0 h1 h2 h3
      · refine j_bipush dX12_order_71 (by decide) ?_
        exact j_ireturn (j_r32 (-2) rfl) dX12_order_73
def f_X12_order_b45 : Int → Int → Int → Int → jSt → Option (Int × jSt) := jrep (β := Int → Int → Int → Int → jSt → Option (Int × jSt)) (fun _ _ _ _ _ => none) (fun r => f_X12_order_b45B r) jN
theorem p_f_X12_order_b45 {G : jG} {d : Nat} {S0 : jSt} (hd0 : 9 ≤ d) : ∀ (x0 : Int) (x1 : Int) (x2 : Int) (x3 : Int) (S : jSt), (0 ≤ (x0)) → (R32 (x1)) → (R32 (x2)) → (R32 (x3)) → J G yX12_order cX12_order 8 (some .int) d S0 45 [(0, 2, x0), (1, 0, x1), (2, 0, x2), (3, 0, x3)] [] S (f_X12_order_b45  x0 x1 x2 x3 S) :=
  jrep_ind (P := fun (r : Int → Int → Int → Int → jSt → Option (Int × jSt)) => ∀ (x0 : Int) (x1 : Int) (x2 : Int) (x3 : Int) (S : jSt), (0 ≤ (x0)) → (R32 (x1)) → (R32 (x2)) → (R32 (x3)) → J G yX12_order cX12_order 8 (some .int) d S0 45 [(0, 2, x0), (1, 0, x1), (2, 0, x2), (3, 0, x3)] [] S (r x0 x1 x2 x3 S)) (by intros; exact j_none) (fun r k => p_f_X12_order_b45B hd0 k) jN
def f_X12_order (a0 : Int) (a1 : Int) (a2 : Int) (S : jSt) : Option (Int × jSt) :=
  fgetr S a0 12 0 (fun v1 => fald S v1 0 1 (fun v2 => fcall (f_X12_isIn a1 1 (w32 ((ishl32 1 v2) - 1)) S) (fun v3 S4 => if v3 = 0 then f_X12_order_b40 S4 else fcall (f_X12_bits a1 S4) (fun v5 S6 => if 5 < v5 then f_X12_order_b40 S6 else fcall (f_X12_bits a1 S6) (fun v7 S8 => fcall (f_X12_isIn a2 (-1) (w32 (v7 - 1)) S8) (fun v9 S10 => if v9 = 0 then f_X12_order_b40 S10 else f_X12_order_b45 a0 a1 a2 0 S10))))))
theorem e_X12_order {G : jG} {d : Nat} {S0 : jSt} (hd0 : 9 ≤ d) (a0 : Int) (a1 : Int) (a2 : Int) (S : jSt) (h0 : 0 ≤ (a0)) (h1 : R32 (a1)) (h2 : R32 (a2)) : J G yX12_order cX12_order 8 (some .int) d S0 0 [(0, 2, a0), (1, 0, a1), (2, 0, a2)] [] S (f_X12_order a0 a1 a2 S) := by
  unfold f_X12_order
  refine j_iload_n 1 dX12_order_0 rfl rfl ?_
  refine j_iconst dX12_order_1 ?_
  refine j_iconst dX12_order_2 ?_
  refine j_aload_n 0 dX12_order_3 rfl rfl ?_
  refine j_getr (ci := 12) (k := 0) rfl in_X12 (Nat.le_of_ble_eq_true rfl) rfl rfl fl_X12_7 dX12_order_4 (fun (v1 : Int) (hv1 : 0 ≤ v1) => ?_)
  refine j_iconst dX12_order_7 ?_
  refine j_iaload (jZ_R jz0) dX12_order_8 (fun (v2 : Int) (hv2 : R32 (v2)) => ?_)
  refine j_ishl dX12_order_9 ?_
  refine j_iconst dX12_order_10 ?_
  refine j_isub dX12_order_11 ?_
  refine j_callS (As := [(0, a1), (0, 1), (0, w32 ((ishl32 1 v2) - 1))]) (st := []) kc_X12_isIn (c_X12_isIn a1 1 (w32 ((ishl32 1 v2) - 1)) S h1 (jZ_R jz1) (w32_R _)) lm_X12_60 ks_X12_isIn rfl (Nat.le_of_ble_eq_true rfl) (Nat.le_trans (m := 9) (Nat.le_of_ble_eq_true rfl) hd0) dX12_order_12 (fun (v3 : Int) (S4 : jSt) (hv3 : (v3) = 0 ∨ (v3) = 1) => ?_)
  refine j_if_eq (tgt := 40) (jZ_R hv3) dX12_order_15 rfl (fun _ => ?_) (fun _ => ?_)
  · refine j_sub [] rfl ?_
    exact p_f_X12_order_b40 hd0 S4
  · refine j_iload_n 1 dX12_order_18 rfl rfl ?_
    refine j_callS (As := [(0, a1)]) (st := []) kc_X12_bits (c_X12_bits a1 S4 h1) lm_X12_305 ks_X12_bits rfl (Nat.le_of_ble_eq_true rfl) (Nat.le_trans (m := 9) (Nat.le_of_ble_eq_true rfl) hd0) dX12_order_19 (fun (v5 : Int) (S6 : jSt) (hv5 : R32 (v5)) => ?_)
    refine j_iconst dX12_order_22 ?_
    refine j_icmp_gt (tgt := 40) hv5 (j_r32 5 rfl) dX12_order_23 rfl (fun _ => ?_) (fun _ => ?_)
    · refine j_sub [] rfl ?_
      exact p_f_X12_order_b40 hd0 S6
    · refine j_iload_n 2 dX12_order_26 rfl rfl ?_
      refine j_iconst dX12_order_27 ?_
      refine j_iload_n 1 dX12_order_28 rfl rfl ?_
      refine j_callS (As := [(0, a1)]) (st := [(0, (-1)), (0, a2)]) kc_X12_bits (c_X12_bits a1 S6 h1) lm_X12_305 ks_X12_bits rfl (Nat.le_of_ble_eq_true rfl) (Nat.le_trans (m := 9) (Nat.le_of_ble_eq_true rfl) hd0) dX12_order_29 (fun (v7 : Int) (S8 : jSt) (hv7 : R32 (v7)) => ?_)
      refine j_iconst dX12_order_32 ?_
      refine j_isub dX12_order_33 ?_
      refine j_callS (As := [(0, a2), (0, (-1)), (0, w32 (v7 - 1))]) (st := []) kc_X12_isIn (c_X12_isIn a2 (-1) (w32 (v7 - 1)) S8 h2 (j_r32 (-1) rfl) (w32_R _)) lm_X12_60 ks_X12_isIn rfl (Nat.le_of_ble_eq_true rfl) (Nat.le_trans (m := 9) (Nat.le_of_ble_eq_true rfl) hd0) dX12_order_34 (fun (v9 : Int) (S10 : jSt) (hv9 : (v9) = 0 ∨ (v9) = 1) => ?_)
      refine j_if_ne (tgt := 43) (jZ_R hv9) dX12_order_37 rfl (fun _ => ?_) (fun _ => ?_)
      · refine j_iconst dX12_order_43 ?_
        refine j_istore_n (lv' := [(3, 0, 0), (0, 2, a0), (1, 0, a1), (2, 0, a2)]) dX12_order_44 rfl (Nat.le_of_ble_eq_true rfl) rfl ?_
        refine j_sub [1, 2, 3, 0] rfl ?_
        exact p_f_X12_order_b45 hd0 a0 a1 a2 0 S10 h0 h1 h2 (jZ_R jz0)
      · refine j_sub [] rfl ?_
        exact p_f_X12_order_b40 hd0 S10
theorem c_X12_order {G : jG} (a0 : Int) (a1 : Int) (a2 : Int) (S : jSt) (h0 : 0 ≤ (a0)) (h1 : R32 (a1)) (h2 : R32 (a2)) : CT G yX12_order cX12_order 8 (some .int) 9 ([(2, a0), (0, a1), (0, a2)].map jval) S (f_X12_order a0 a1 a2 S) := ct_of [(2, a0), (0, a1), (0, a2)] (by decide) rfl (Nat.le_of_ble_eq_true rfl) (e_X12_order (Nat.le_refl _) a0 a1 a2 S h0 h1 h2)
-- X12_pays
def f_X12_pays_b78 (r21 : Int → Int → Int → Int → Int → jSt → Option (Int × jSt)) (x0 : Int) (x1 : Int) (x2 : Int) (x3 : Int) (x4 : Int) (x5 : Int) (S : jSt) : Option (Int × jSt) :=
  flet (w32 (x4 + x5)) (fun v13 => flet (w32 (x3 + 1)) (fun v14 => r21 x0 x1 x2 v13 v14 S))
theorem p_f_X12_pays_b78 {G : jG} {d : Nat} {S0 : jSt} (hd0 : 4 ≤ d) {r21 : Int → Int → Int → Int → Int → jSt → Option (Int × jSt)} (k21 : ∀ (x0 : Int) (x1 : Int) (x2 : Int) (x3 : Int) (x4 : Int) (S : jSt), (0 ≤ (x0)) → (R32 (x1)) → (R32 (x2)) → (R32 (x3)) → (R32 (x4)) → J G yX12_pays cX12_pays 5 (some .int) d S0 21 [(0, 2, x0), (1, 0, x1), (2, 0, x2), (3, 0, x3), (4, 0, x4)] [] S (r21 x0 x1 x2 x3 x4 S)) : ∀ (x0 : Int) (x1 : Int) (x2 : Int) (x3 : Int) (x4 : Int) (x5 : Int) (S : jSt), (0 ≤ (x0)) → (R32 (x1)) → (R32 (x2)) → (R32 (x3)) → (R32 (x4)) → (R32 (x5)) → J G yX12_pays cX12_pays 5 (some .int) d S0 78 [(0, 2, x0), (1, 0, x1), (2, 0, x2), (4, 0, x3)] [(0, x5), (0, x4)] S (f_X12_pays_b78 r21 x0 x1 x2 x3 x4 x5 S) := by
  intro x0 x1 x2 x3 x4 x5 S h0 h1 h2 h3 h4 h5
  unfold f_X12_pays_b78
  refine j_iadd dX12_pays_78 ?_
  refine j_leti (w32_R _) (fun v13 hv13 => ?_)
  refine j_istore_n (lv' := [(3, 0, v13), (0, 2, x0), (1, 0, x1), (2, 0, x2), (4, 0, x3)]) dX12_pays_79 rfl (Nat.le_of_ble_eq_true rfl) rfl ?_
  refine j_iincL (q := 4) dX12_pays_80 rfl (Nat.le_of_ble_eq_true rfl) (fun v14 hv14 => ?_)
  refine j_lv (lv' := [(4, 0, v14), (3, 0, v13), (0, 2, x0), (1, 0, x1), (2, 0, x2)]) rfl ?_
  refine j_goto (tgt := 21) dX12_pays_83 rfl ?_
  refine j_sub [2, 3, 4, 1, 0] rfl ?_
  exact k21 x0 x1 x2 v13 v14 S h0 h1 h2 hv13 hv14
def f_X12_pays_b77 (r21 : Int → Int → Int → Int → Int → jSt → Option (Int × jSt)) (x0 : Int) (x1 : Int) (x2 : Int) (x3 : Int) (x4 : Int) (S : jSt) : Option (Int × jSt) :=
  f_X12_pays_b78 r21 x0 x1 x2 x3 x4 0 S
theorem p_f_X12_pays_b77 {G : jG} {d : Nat} {S0 : jSt} (hd0 : 4 ≤ d) {r21 : Int → Int → Int → Int → Int → jSt → Option (Int × jSt)} (k21 : ∀ (x0 : Int) (x1 : Int) (x2 : Int) (x3 : Int) (x4 : Int) (S : jSt), (0 ≤ (x0)) → (R32 (x1)) → (R32 (x2)) → (R32 (x3)) → (R32 (x4)) → J G yX12_pays cX12_pays 5 (some .int) d S0 21 [(0, 2, x0), (1, 0, x1), (2, 0, x2), (3, 0, x3), (4, 0, x4)] [] S (r21 x0 x1 x2 x3 x4 S)) : ∀ (x0 : Int) (x1 : Int) (x2 : Int) (x3 : Int) (x4 : Int) (S : jSt), (0 ≤ (x0)) → (R32 (x1)) → (R32 (x2)) → (R32 (x3)) → (R32 (x4)) → J G yX12_pays cX12_pays 5 (some .int) d S0 77 [(0, 2, x0), (1, 0, x1), (2, 0, x2), (4, 0, x3)] [(0, x4)] S (f_X12_pays_b77 r21 x0 x1 x2 x3 x4 S) := by
  intro x0 x1 x2 x3 x4 S h0 h1 h2 h3 h4
  unfold f_X12_pays_b77
  refine j_iconst dX12_pays_77 ?_
  exact p_f_X12_pays_b78 hd0 k21 x0 x1 x2 x3 x4 0 S h0 h1 h2 h3 h4 (jZ_R jz0)
def f_X12_pays_b21B (r21 : Int → Int → Int → Int → Int → jSt → Option (Int × jSt)) (x0 : Int) (x1 : Int) (x2 : Int) (x3 : Int) (x4 : Int) (S : jSt) : Option (Int × jSt) :=
  fgetr S x0 12 0 (fun v5 => fald S v5 5 1 (fun v6 => if v6 ≤ x4 then fcallv S x0 12 (f_X12_bestSet x0 x1 S) (fun v7 S8 => fcallv S8 x0 12 (f_X12_pricesOf x0 v7 x1 S8) (fun v9 S10 => some (w32 (v9 - x3), S10))) else fcall (f_X12_has x2 x4 S) (fun v11 S12 => if v11 = 0 then f_X12_pays_b77 r21 x0 x1 x2 x4 x3 S12 else fgetr S12 x0 12 0 (fun v15 => fald S12 v15 (w32 (153 + (w32 (3 * x4)))) 1 (fun v16 => if v16 = x1 then f_X12_pays_b77 r21 x0 x1 x2 x4 x3 S12 else fgetr S12 x0 12 0 (fun v17 => fald S12 v17 (w32 ((w32 (153 + (w32 (3 * x4)))) + 2)) 1 (fun v18 => f_X12_pays_b78 r21 x0 x1 x2 x4 x3 v18 S12)))))))
theorem p_f_X12_pays_b21B {G : jG} {d : Nat} {S0 : jSt} (hd0 : 4 ≤ d) {r21 : Int → Int → Int → Int → Int → jSt → Option (Int × jSt)} (k21 : ∀ (x0 : Int) (x1 : Int) (x2 : Int) (x3 : Int) (x4 : Int) (S : jSt), (0 ≤ (x0)) → (R32 (x1)) → (R32 (x2)) → (R32 (x3)) → (R32 (x4)) → J G yX12_pays cX12_pays 5 (some .int) d S0 21 [(0, 2, x0), (1, 0, x1), (2, 0, x2), (3, 0, x3), (4, 0, x4)] [] S (r21 x0 x1 x2 x3 x4 S)) : ∀ (x0 : Int) (x1 : Int) (x2 : Int) (x3 : Int) (x4 : Int) (S : jSt), (0 ≤ (x0)) → (R32 (x1)) → (R32 (x2)) → (R32 (x3)) → (R32 (x4)) → J G yX12_pays cX12_pays 5 (some .int) d S0 21 [(0, 2, x0), (1, 0, x1), (2, 0, x2), (3, 0, x3), (4, 0, x4)] [] S (f_X12_pays_b21B r21 x0 x1 x2 x3 x4 S) := by
  intro x0 x1 x2 x3 x4 S h0 h1 h2 h3 h4
  unfold f_X12_pays_b21B
  refine j_iload 4 dX12_pays_21 rfl ?_
  refine j_aload_n 0 dX12_pays_23 rfl rfl ?_
  refine j_getr (ci := 12) (k := 0) rfl in_X12 (Nat.le_of_ble_eq_true rfl) rfl rfl fl_X12_7 dX12_pays_24 (fun (v5 : Int) (hv5 : 0 ≤ v5) => ?_)
  refine j_iconst dX12_pays_27 ?_
  refine j_iaload (j_r32 5 rfl) dX12_pays_28 (fun (v6 : Int) (hv6 : R32 (v6)) => ?_)
  refine j_icmp_ge (tgt := 86) h4 hv6 dX12_pays_29 rfl (fun _ => ?_) (fun _ => ?_)
  · refine j_aload_n 0 dX12_pays_86 rfl rfl ?_
    refine j_aload_n 0 dX12_pays_87 rfl rfl ?_
    refine j_iload_n 1 dX12_pays_88 rfl rfl ?_
    refine j_callV (ci := 12) (As := [(0, x1)]) (st := [(2, x0)]) kc_X12_bestSet (c_X12_bestSet x0 x1 S h0 h1) rfl lm_X12_436 ki_X12_bestSet ke_X12_bestSet rfl (Nat.le_of_ble_eq_true rfl) (Nat.le_trans (m := 4) (Nat.le_of_ble_eq_true rfl) hd0) dX12_pays_89 (fun (v7 : Int) (S8 : jSt) (hv7 : R32 (v7)) => ?_)
    refine j_iload_n 1 dX12_pays_92 rfl rfl ?_
    refine j_callV (ci := 12) (As := [(0, v7), (0, x1)]) (st := []) kc_X12_pricesOf (c_X12_pricesOf x0 v7 x1 S8 h0 hv7 h1) rfl lm_X12_433 ki_X12_pricesOf ke_X12_pricesOf rfl (Nat.le_of_ble_eq_true rfl) (Nat.le_trans (m := 4) (Nat.le_of_ble_eq_true rfl) hd0) dX12_pays_93 (fun (v9 : Int) (S10 : jSt) (hv9 : R32 (v9)) => ?_)
    refine j_iload_n 3 dX12_pays_96 rfl rfl ?_
    refine j_isub dX12_pays_97 ?_
    exact j_ireturn (w32_R _) dX12_pays_98
  · refine j_iload_n 3 dX12_pays_32 rfl rfl ?_
    refine j_iload_n 2 dX12_pays_33 rfl rfl ?_
    refine j_iload 4 dX12_pays_34 rfl ?_
    refine j_callS (As := [(0, x2), (0, x4)]) (st := [(0, x3)]) kc_X12_has (c_X12_has x2 x4 S h2 h4) lm_X12_249 ks_X12_has rfl (Nat.le_of_ble_eq_true rfl) (Nat.le_trans (m := 4) (Nat.le_of_ble_eq_true rfl) hd0) dX12_pays_36 (fun (v11 : Int) (S12 : jSt) (hv11 : (v11) = 0 ∨ (v11) = 1) => ?_)
    refine j_if_eq (tgt := 77) (jZ_R hv11) dX12_pays_39 rfl (fun _ => ?_) (fun _ => ?_)
    · refine j_sub [0, 1, 2, 4] rfl ?_
      exact p_f_X12_pays_b77 hd0 k21 x0 x1 x2 x4 x3 S12 h0 h1 h2 h4 h3
    · refine j_aload_n 0 dX12_pays_42 rfl rfl ?_
      refine j_getr (ci := 12) (k := 0) rfl in_X12 (Nat.le_of_ble_eq_true rfl) rfl rfl fl_X12_7 dX12_pays_43 (fun (v15 : Int) (hv15 : 0 ≤ v15) => ?_)
      refine j_sipush dX12_pays_46 (by decide) ?_
      refine j_iconst dX12_pays_49 ?_
      refine j_iload 4 dX12_pays_50 rfl ?_
      refine j_imul dX12_pays_52 ?_
      refine j_iadd dX12_pays_53 ?_
      refine j_iaload (w32_R _) dX12_pays_54 (fun (v16 : Int) (hv16 : R32 (v16)) => ?_)
      refine j_iload_n 1 dX12_pays_55 rfl rfl ?_
      refine j_icmp_eq (tgt := 77) hv16 h1 dX12_pays_56 rfl (fun _ => ?_) (fun _ => ?_)
      · refine j_sub [0, 1, 2, 4] rfl ?_
        exact p_f_X12_pays_b77 hd0 k21 x0 x1 x2 x4 x3 S12 h0 h1 h2 h4 h3
      · refine j_aload_n 0 dX12_pays_59 rfl rfl ?_
        refine j_getr (ci := 12) (k := 0) rfl in_X12 (Nat.le_of_ble_eq_true rfl) rfl rfl fl_X12_7 dX12_pays_60 (fun (v17 : Int) (hv17 : 0 ≤ v17) => ?_)
        refine j_sipush dX12_pays_63 (by decide) ?_
        refine j_iconst dX12_pays_66 ?_
        refine j_iload 4 dX12_pays_67 rfl ?_
        refine j_imul dX12_pays_69 ?_
        refine j_iadd dX12_pays_70 ?_
        refine j_iconst dX12_pays_71 ?_
        refine j_iadd dX12_pays_72 ?_
        refine j_iaload (w32_R _) dX12_pays_73 (fun (v18 : Int) (hv18 : R32 (v18)) => ?_)
        refine j_goto (tgt := 78) dX12_pays_74 rfl ?_
        refine j_sub [0, 1, 2, 4] rfl ?_
        exact p_f_X12_pays_b78 hd0 k21 x0 x1 x2 x4 x3 v18 S12 h0 h1 h2 h4 h3 hv18
def f_X12_pays_b21 : Int → Int → Int → Int → Int → jSt → Option (Int × jSt) := jrep (β := Int → Int → Int → Int → Int → jSt → Option (Int × jSt)) (fun _ _ _ _ _ _ => none) (fun r => f_X12_pays_b21B r) jN
theorem p_f_X12_pays_b21 {G : jG} {d : Nat} {S0 : jSt} (hd0 : 4 ≤ d) : ∀ (x0 : Int) (x1 : Int) (x2 : Int) (x3 : Int) (x4 : Int) (S : jSt), (0 ≤ (x0)) → (R32 (x1)) → (R32 (x2)) → (R32 (x3)) → (R32 (x4)) → J G yX12_pays cX12_pays 5 (some .int) d S0 21 [(0, 2, x0), (1, 0, x1), (2, 0, x2), (3, 0, x3), (4, 0, x4)] [] S (f_X12_pays_b21  x0 x1 x2 x3 x4 S) :=
  jrep_ind (P := fun (r : Int → Int → Int → Int → Int → jSt → Option (Int × jSt)) => ∀ (x0 : Int) (x1 : Int) (x2 : Int) (x3 : Int) (x4 : Int) (S : jSt), (0 ≤ (x0)) → (R32 (x1)) → (R32 (x2)) → (R32 (x3)) → (R32 (x4)) → J G yX12_pays cX12_pays 5 (some .int) d S0 21 [(0, 2, x0), (1, 0, x1), (2, 0, x2), (3, 0, x3), (4, 0, x4)] [] S (r x0 x1 x2 x3 x4 S)) (by intros; exact j_none) (fun r k => p_f_X12_pays_b21B hd0 k) jN
def f_X12_pays (a0 : Int) (a1 : Int) (S : jSt) : Option (Int × jSt) :=
  fcallv S a0 12 (f_X12_isBidder a0 a1 S) (fun v1 S2 => if v1 = 0 then some ((-1), S2) else fcallv S2 a0 12 (f_X12_bestSet a0 (-1) S2) (fun v3 S4 => f_X12_pays_b21 a0 a1 v3 0 0 S4))
theorem e_X12_pays {G : jG} {d : Nat} {S0 : jSt} (hd0 : 4 ≤ d) (a0 : Int) (a1 : Int) (S : jSt) (h0 : 0 ≤ (a0)) (h1 : R32 (a1)) : J G yX12_pays cX12_pays 5 (some .int) d S0 0 [(0, 2, a0), (1, 0, a1)] [] S (f_X12_pays a0 a1 S) := by
  unfold f_X12_pays
  refine j_aload_n 0 dX12_pays_0 rfl rfl ?_
  refine j_iload_n 1 dX12_pays_1 rfl rfl ?_
  refine j_callV (ci := 12) (As := [(0, a1)]) (st := []) kc_X12_isBidder (c_X12_isBidder a0 a1 S h0 h1) rfl lm_X12_82 ki_X12_isBidder ke_X12_isBidder rfl (Nat.le_of_ble_eq_true rfl) (Nat.le_trans (m := 4) (Nat.le_of_ble_eq_true rfl) hd0) dX12_pays_2 (fun (v1 : Int) (S2 : jSt) (hv1 : (v1) = 0 ∨ (v1) = 1) => ?_)
  refine j_if_ne (tgt := 10) (jZ_R hv1) dX12_pays_5 rfl (fun _ => ?_) (fun _ => ?_)
  · refine j_aload_n 0 dX12_pays_10 rfl rfl ?_
    refine j_iconst dX12_pays_11 ?_
    refine j_callV (ci := 12) (As := [(0, (-1))]) (st := []) kc_X12_bestSet (c_X12_bestSet a0 (-1) S2 h0 (j_r32 (-1) rfl)) rfl lm_X12_436 ki_X12_bestSet ke_X12_bestSet rfl (Nat.le_of_ble_eq_true rfl) (Nat.le_trans (m := 4) (Nat.le_of_ble_eq_true rfl) hd0) dX12_pays_12 (fun (v3 : Int) (S4 : jSt) (hv3 : R32 (v3)) => ?_)
    refine j_istore_n (lv' := [(2, 0, v3), (0, 2, a0), (1, 0, a1)]) dX12_pays_15 rfl (Nat.le_of_ble_eq_true rfl) rfl ?_
    refine j_iconst dX12_pays_16 ?_
    refine j_istore_n (lv' := [(3, 0, 0), (2, 0, v3), (0, 2, a0), (1, 0, a1)]) dX12_pays_17 rfl (Nat.le_of_ble_eq_true rfl) rfl ?_
    refine j_iconst dX12_pays_18 ?_
    refine j_istore (lv' := [(4, 0, 0), (3, 0, 0), (2, 0, v3), (0, 2, a0), (1, 0, a1)]) dX12_pays_19 (Nat.le_of_ble_eq_true rfl) rfl ?_
    refine j_sub [3, 4, 2, 1, 0] rfl ?_
    exact p_f_X12_pays_b21 hd0 a0 a1 v3 0 0 S4 h0 h1 hv3 (jZ_R jz0) (jZ_R jz0)
  · refine j_iconst dX12_pays_8 ?_
    exact j_ireturn (j_r32 (-1) rfl) dX12_pays_9
theorem c_X12_pays {G : jG} (a0 : Int) (a1 : Int) (S : jSt) (h0 : 0 ≤ (a0)) (h1 : R32 (a1)) : CT G yX12_pays cX12_pays 5 (some .int) 4 ([(2, a0), (0, a1)].map jval) S (f_X12_pays a0 a1 S) := ct_of [(2, a0), (0, a1)] (by decide) rfl (Nat.le_of_ble_eq_true rfl) (e_X12_pays (Nat.le_refl _) a0 a1 S h0 h1)
-- X12_played
def f_X12_played_b21B (r21 : Int → Int → Int → jSt → Option (Int × jSt)) (x0 : Int) (x1 : Int) (x2 : Int) (S : jSt) : Option (Int × jSt) :=
  fgetr S x0 12 2 (fun v5 => fald S v5 (w32 (705 * x1)) 1 (fun v6 => if v6 ≤ x2 then some ((-1), S) else fcallv S x0 12 (f_X12_isPlayed x0 (w32 ((w32 ((w32 (705 * x1)) + 1)) + (w32 (4 * x2)))) S) (fun v7 S8 => if v7 = 0 then some (x2, S8) else flet (w32 (x2 + 1)) (fun v9 => r21 x0 x1 v9 S8))))
theorem p_f_X12_played_b21B {G : jG} {d : Nat} {S0 : jSt} (hd0 : 12 ≤ d) {r21 : Int → Int → Int → jSt → Option (Int × jSt)} (k21 : ∀ (x0 : Int) (x1 : Int) (x2 : Int) (S : jSt), (0 ≤ (x0)) → (R32 (x1)) → (R32 (x2)) → J G yX12_played cX12_played 3 (some .int) d S0 21 [(0, 2, x0), (1, 0, x1), (2, 0, x2)] [] S (r21 x0 x1 x2 S)) : ∀ (x0 : Int) (x1 : Int) (x2 : Int) (S : jSt), (0 ≤ (x0)) → (R32 (x1)) → (R32 (x2)) → J G yX12_played cX12_played 3 (some .int) d S0 21 [(0, 2, x0), (1, 0, x1), (2, 0, x2)] [] S (f_X12_played_b21B r21 x0 x1 x2 S) := by
  intro x0 x1 x2 S h0 h1 h2
  unfold f_X12_played_b21B
  refine j_iload_n 2 dX12_played_21 rfl rfl ?_
  refine j_aload_n 0 dX12_played_22 rfl rfl ?_
  refine j_getr (ci := 12) (k := 2) rfl in_X12 (Nat.le_of_ble_eq_true rfl) rfl rfl fl_X12_16 dX12_played_23 (fun (v5 : Int) (hv5 : 0 ≤ v5) => ?_)
  refine j_sipush dX12_played_26 (by decide) ?_
  refine j_iload_n 1 dX12_played_29 rfl rfl ?_
  refine j_imul dX12_played_30 ?_
  refine j_iaload (w32_R _) dX12_played_31 (fun (v6 : Int) (hv6 : R32 (v6)) => ?_)
  refine j_icmp_ge (tgt := 61) h2 hv6 dX12_played_32 rfl (fun _ => ?_) (fun _ => ?_)
  · refine j_iconst dX12_played_61 ?_
    exact j_ireturn (j_r32 (-1) rfl) dX12_played_62
  · refine j_aload_n 0 dX12_played_35 rfl rfl ?_
    refine j_sipush dX12_played_36 (by decide) ?_
    refine j_iload_n 1 dX12_played_39 rfl rfl ?_
    refine j_imul dX12_played_40 ?_
    refine j_iconst dX12_played_41 ?_
    refine j_iadd dX12_played_42 ?_
    refine j_iconst dX12_played_43 ?_
    refine j_iload_n 2 dX12_played_44 rfl rfl ?_
    refine j_imul dX12_played_45 ?_
    refine j_iadd dX12_played_46 ?_
    refine j_callV (ci := 12) (As := [(0, w32 ((w32 ((w32 (705 * x1)) + 1)) + (w32 (4 * x2))))]) (st := []) kc_X12_isPlayed (c_X12_isPlayed x0 (w32 ((w32 ((w32 (705 * x1)) + 1)) + (w32 (4 * x2)))) S h0 (w32_R _)) rfl lm_X12_400 ki_X12_isPlayed ke_X12_isPlayed rfl (Nat.le_of_ble_eq_true rfl) (Nat.le_trans (m := 12) (Nat.le_of_ble_eq_true rfl) hd0) dX12_played_47 (fun (v7 : Int) (S8 : jSt) (hv7 : (v7) = 0 ∨ (v7) = 1) => ?_)
    refine j_if_ne (tgt := 55) (jZ_R hv7) dX12_played_50 rfl (fun _ => ?_) (fun _ => ?_)
    · refine j_iincL (q := 2) dX12_played_55 rfl (Nat.le_of_ble_eq_true rfl) (fun v9 hv9 => ?_)
      refine j_lv (lv' := [(2, 0, v9), (0, 2, x0), (1, 0, x1)]) rfl ?_
      refine j_goto (tgt := 21) dX12_played_58 rfl ?_
      refine j_sub [1, 2, 0] rfl ?_
      exact k21 x0 x1 v9 S8 h0 h1 hv9
    · refine j_iload_n 2 dX12_played_53 rfl rfl ?_
      exact j_ireturn h2 dX12_played_54
def f_X12_played_b21 : Int → Int → Int → jSt → Option (Int × jSt) := jrep (β := Int → Int → Int → jSt → Option (Int × jSt)) (fun _ _ _ _ => none) (fun r => f_X12_played_b21B r) jN
theorem p_f_X12_played_b21 {G : jG} {d : Nat} {S0 : jSt} (hd0 : 12 ≤ d) : ∀ (x0 : Int) (x1 : Int) (x2 : Int) (S : jSt), (0 ≤ (x0)) → (R32 (x1)) → (R32 (x2)) → J G yX12_played cX12_played 3 (some .int) d S0 21 [(0, 2, x0), (1, 0, x1), (2, 0, x2)] [] S (f_X12_played_b21  x0 x1 x2 S) :=
  jrep_ind (P := fun (r : Int → Int → Int → jSt → Option (Int × jSt)) => ∀ (x0 : Int) (x1 : Int) (x2 : Int) (S : jSt), (0 ≤ (x0)) → (R32 (x1)) → (R32 (x2)) → J G yX12_played cX12_played 3 (some .int) d S0 21 [(0, 2, x0), (1, 0, x1), (2, 0, x2)] [] S (r x0 x1 x2 S)) (by intros; exact j_none) (fun r k => p_f_X12_played_b21B hd0 k) jN
def f_X12_played (a0 : Int) (a1 : Int) (S : jSt) : Option (Int × jSt) :=
  fgetr S a0 12 0 (fun v1 => fald S v1 2 1 (fun v2 => fcall (f_X12_isIn a1 0 (w32 (v2 - 1)) S) (fun v3 S4 => if v3 = 0 then some ((-2), S4) else f_X12_played_b21 a0 a1 0 S4)))
theorem e_X12_played {G : jG} {d : Nat} {S0 : jSt} (hd0 : 12 ≤ d) (a0 : Int) (a1 : Int) (S : jSt) (h0 : 0 ≤ (a0)) (h1 : R32 (a1)) : J G yX12_played cX12_played 3 (some .int) d S0 0 [(0, 2, a0), (1, 0, a1)] [] S (f_X12_played a0 a1 S) := by
  unfold f_X12_played
  refine j_iload_n 1 dX12_played_0 rfl rfl ?_
  refine j_iconst dX12_played_1 ?_
  refine j_aload_n 0 dX12_played_2 rfl rfl ?_
  refine j_getr (ci := 12) (k := 0) rfl in_X12 (Nat.le_of_ble_eq_true rfl) rfl rfl fl_X12_7 dX12_played_3 (fun (v1 : Int) (hv1 : 0 ≤ v1) => ?_)
  refine j_iconst dX12_played_6 ?_
  refine j_iaload (j_r32 2 rfl) dX12_played_7 (fun (v2 : Int) (hv2 : R32 (v2)) => ?_)
  refine j_iconst dX12_played_8 ?_
  refine j_isub dX12_played_9 ?_
  refine j_callS (As := [(0, a1), (0, 0), (0, w32 (v2 - 1))]) (st := []) kc_X12_isIn (c_X12_isIn a1 0 (w32 (v2 - 1)) S h1 (jZ_R jz0) (w32_R _)) lm_X12_60 ks_X12_isIn rfl (Nat.le_of_ble_eq_true rfl) (Nat.le_trans (m := 12) (Nat.le_of_ble_eq_true rfl) hd0) dX12_played_10 (fun (v3 : Int) (S4 : jSt) (hv3 : (v3) = 0 ∨ (v3) = 1) => ?_)
  refine j_if_ne (tgt := 19) (jZ_R hv3) dX12_played_13 rfl (fun _ => ?_) (fun _ => ?_)
  · refine j_iconst dX12_played_19 ?_
    refine j_istore_n (lv' := [(2, 0, 0), (0, 2, a0), (1, 0, a1)]) dX12_played_20 rfl (Nat.le_of_ble_eq_true rfl) rfl ?_
    refine j_sub [1, 2, 0] rfl ?_
    exact p_f_X12_played_b21 hd0 a0 a1 0 S4 h0 h1 (jZ_R jz0)
  · refine j_bipush dX12_played_16 (by decide) ?_
    exact j_ireturn (j_r32 (-2) rfl) dX12_played_18
theorem c_X12_played {G : jG} (a0 : Int) (a1 : Int) (S : jSt) (h0 : 0 ≤ (a0)) (h1 : R32 (a1)) : CT G yX12_played cX12_played 3 (some .int) 12 ([(2, a0), (0, a1)].map jval) S (f_X12_played a0 a1 S) := ct_of [(2, a0), (0, a1)] (by decide) rfl (Nat.le_of_ble_eq_true rfl) (e_X12_played (Nat.le_refl _) a0 a1 S h0 h1)
-- X12_readText
def f_X12_readText_b43B (r43 : Int → jSt → Option (Int × jSt)) (x0 : Int) (S : jSt) : Option (Int × jSt) :=
  fget S x0 12 9 (fun v12 => if v12 = 0 then some (0, S) else fcallv S x0 12 (f_X12_clause x0 S) (fun v13 S14 => if v13 = 0 then r43 x0 S14 else some (v13, S14)))
theorem p_f_X12_readText_b43B {G : jG} {d : Nat} {S0 : jSt} (hd0 : 12 ≤ d) {r43 : Int → jSt → Option (Int × jSt)} (k43 : ∀ (x0 : Int) (S : jSt), (0 ≤ (x0)) → J G yX12_readText cX12_readText 2 (some .int) d S0 43 [(0, 2, x0)] [] S (r43 x0 S)) : ∀ (x0 : Int) (S : jSt), (0 ≤ (x0)) → J G yX12_readText cX12_readText 2 (some .int) d S0 43 [(0, 2, x0)] [] S (f_X12_readText_b43B r43 x0 S) := by
  intro x0 S h0
  unfold f_X12_readText_b43B
  refine j_aload_n 0 dX12_readText_43 rfl rfl ?_
  refine j_get (ci := 12) (k := 9) (t := 0) rfl in_X12 (Nat.le_of_ble_eq_true rfl) rfl rfl fl_X12_102 dX12_readText_44 (fun (v12 : Int) (hv12 : R32 (v12)) => ?_)
  refine j_if_eq (tgt := 64) hv12 dX12_readText_47 rfl (fun _ => ?_) (fun _ => ?_)
  · refine j_iconst dX12_readText_64 ?_
    exact j_ireturn (jZ_R jz0) dX12_readText_65
  · refine j_aload_n 0 dX12_readText_50 rfl rfl ?_
    refine j_callV (ci := 12) (As := []) (st := []) kc_X12_clause (c_X12_clause x0 S h0) rfl lm_X12_256 ki_X12_clause ke_X12_clause rfl (Nat.le_of_ble_eq_true rfl) (Nat.le_trans (m := 12) (Nat.le_of_ble_eq_true rfl) hd0) dX12_readText_51 (fun (v13 : Int) (S14 : jSt) (hv13 : R32 (v13)) => ?_)
    refine j_istore_n (lv' := [(1, 0, v13), (0, 2, x0)]) dX12_readText_54 rfl (Nat.le_of_ble_eq_true rfl) rfl ?_
    refine j_iload_n 0 dX12_readText_55 rfl rfl ?_
    refine j_if_eq (tgt := 61) hv13 dX12_readText_56 rfl (fun _ => ?_) (fun _ => ?_)
    · refine j_goto (tgt := 43) dX12_readText_61 rfl ?_
      refine j_sub [1] rfl ?_
      exact k43 x0 S14 h0
    · refine j_iload_n 0 dX12_readText_59 rfl rfl ?_
      exact j_ireturn hv13 dX12_readText_60
def f_X12_readText_b43 : Int → jSt → Option (Int × jSt) := jrep (β := Int → jSt → Option (Int × jSt)) (fun _ _ => none) (fun r => f_X12_readText_b43B r) jN
theorem p_f_X12_readText_b43 {G : jG} {d : Nat} {S0 : jSt} (hd0 : 12 ≤ d) : ∀ (x0 : Int) (S : jSt), (0 ≤ (x0)) → J G yX12_readText cX12_readText 2 (some .int) d S0 43 [(0, 2, x0)] [] S (f_X12_readText_b43  x0 S) :=
  jrep_ind (P := fun (r : Int → jSt → Option (Int × jSt)) => ∀ (x0 : Int) (S : jSt), (0 ≤ (x0)) → J G yX12_readText cX12_readText 2 (some .int) d S0 43 [(0, 2, x0)] [] S (r x0 S)) (by intros; exact j_none) (fun r k => p_f_X12_readText_b43B hd0 k) jN
def f_X12_readText (a0 : Int) (S : jSt) : Option (Int × jSt) :=
  fgetr S a0 12 0 (fun v1 => fald S v1 2 1 (fun v2 => fput S a0 12 12 (w32 (705 * v2)) (fun S3 => fgetr S3 a0 12 2 (fun v4 => fget S3 a0 12 12 (fun v5 => fast S3 v4 v5 1 0 (fun S6 => fput S6 a0 12 13 0 (fun S7 => fput S7 a0 12 19 0 (fun S8 => fput S8 a0 12 7 0 (fun S9 => fcallv S9 a0 12 (f_X12_nextToken a0 S9) (fun v10 S11 => f_X12_readText_b43 a0 S11))))))))))
theorem e_X12_readText {G : jG} {d : Nat} {S0 : jSt} (hd0 : 12 ≤ d) (a0 : Int) (S : jSt) (h0 : 0 ≤ (a0)) : J G yX12_readText cX12_readText 2 (some .int) d S0 0 [(0, 2, a0)] [] S (f_X12_readText a0 S) := by
  unfold f_X12_readText
  refine j_aload_n 0 dX12_readText_0 rfl rfl ?_
  refine j_sipush dX12_readText_1 (by decide) ?_
  refine j_aload_n 0 dX12_readText_4 rfl rfl ?_
  refine j_getr (ci := 12) (k := 0) rfl in_X12 (Nat.le_of_ble_eq_true rfl) rfl rfl fl_X12_7 dX12_readText_5 (fun (v1 : Int) (hv1 : 0 ≤ v1) => ?_)
  refine j_iconst dX12_readText_8 ?_
  refine j_iaload (j_r32 2 rfl) dX12_readText_9 (fun (v2 : Int) (hv2 : R32 (v2)) => ?_)
  refine j_imul dX12_readText_10 ?_
  refine j_puti (ci := 12) (k := 12) (ty0 := tyX12) rfl in_X12 (Nat.le_of_ble_eq_true rfl) rfl tyX12_ok nmX12 rfl rfl (by decide +kernel) (w32_R _) fl_X12_140 dX12_readText_11 (fun S3 => ?_)
  refine j_aload_n 0 dX12_readText_14 rfl rfl ?_
  refine j_getr (ci := 12) (k := 2) rfl in_X12 (Nat.le_of_ble_eq_true rfl) rfl rfl fl_X12_16 dX12_readText_15 (fun (v4 : Int) (hv4 : 0 ≤ v4) => ?_)
  refine j_aload_n 0 dX12_readText_18 rfl rfl ?_
  refine j_get (ci := 12) (k := 12) (t := 0) rfl in_X12 (Nat.le_of_ble_eq_true rfl) rfl rfl fl_X12_140 dX12_readText_19 (fun (v5 : Int) (hv5 : R32 (v5)) => ?_)
  refine j_iconst dX12_readText_22 ?_
  refine j_iastore hv5 (jZ_R jz0) dX12_readText_23 (fun S6 => ?_)
  refine j_aload_n 0 dX12_readText_24 rfl rfl ?_
  refine j_iconst dX12_readText_25 ?_
  refine j_puti (ci := 12) (k := 13) (ty0 := tyX12) rfl in_X12 (Nat.le_of_ble_eq_true rfl) rfl tyX12_ok nmX12 rfl rfl (by decide +kernel) (jZ_R jz0) fl_X12_143 dX12_readText_26 (fun S7 => ?_)
  refine j_aload_n 0 dX12_readText_29 rfl rfl ?_
  refine j_iconst dX12_readText_30 ?_
  refine j_puti (ci := 12) (k := 19) (ty0 := tyX12) rfl in_X12 (Nat.le_of_ble_eq_true rfl) rfl tyX12_ok nmX12 rfl rfl (by decide +kernel) (jZ_R jz0) fl_X12_246 dX12_readText_31 (fun S8 => ?_)
  refine j_aload_n 0 dX12_readText_34 rfl rfl ?_
  refine j_iconst dX12_readText_35 ?_
  refine j_puti (ci := 12) (k := 7) (ty0 := tyX12) rfl in_X12 (Nat.le_of_ble_eq_true rfl) rfl tyX12_ok nmX12 rfl rfl (by decide +kernel) (jZ_R jz0) fl_X12_92 dX12_readText_36 (fun S9 => ?_)
  refine j_aload_n 0 dX12_readText_39 rfl rfl ?_
  refine j_callV (ci := 12) (As := []) (st := []) kc_X12_nextToken (c_X12_nextToken a0 S9 h0) rfl lm_X12_170 ki_X12_nextToken ke_X12_nextToken rfl (Nat.le_of_ble_eq_true rfl) (Nat.le_trans (m := 12) (Nat.le_of_ble_eq_true rfl) hd0) dX12_readText_40 (fun v10 S11 _ => ?_)
  exact p_f_X12_readText_b43 hd0 a0 S11 h0
theorem c_X12_readText {G : jG} (a0 : Int) (S : jSt) (h0 : 0 ≤ (a0)) : CT G yX12_readText cX12_readText 2 (some .int) 12 ([(2, a0)].map jval) S (f_X12_readText a0 S) := ct_of [(2, a0)] (by decide) rfl (Nat.le_of_ble_eq_true rfl) (e_X12_readText (Nat.le_refl _) a0 S h0)
-- X12_richest
def f_X12_richest_b36 (r4 : Int → Int → Int → jSt → Option (Int × jSt)) (x0 : Int) (x1 : Int) (x2 : Int) (S : jSt) : Option (Int × jSt) :=
  flet (w32 (x2 + 1)) (fun v3 => r4 x0 x1 v3 S)
theorem p_f_X12_richest_b36 {G : jG} {d : Nat} {S0 : jSt} (hd0 : 2 ≤ d) {r4 : Int → Int → Int → jSt → Option (Int × jSt)} (k4 : ∀ (x0 : Int) (x1 : Int) (x2 : Int) (S : jSt), (0 ≤ (x0)) → (R32 (x1)) → (R32 (x2)) → J G yX12_richest cX12_richest 3 (some .int) d S0 4 [(0, 2, x0), (1, 0, x1), (2, 0, x2)] [] S (r4 x0 x1 x2 S)) : ∀ (x0 : Int) (x1 : Int) (x2 : Int) (S : jSt), (0 ≤ (x0)) → (R32 (x1)) → (R32 (x2)) → J G yX12_richest cX12_richest 3 (some .int) d S0 36 [(0, 2, x0), (1, 0, x1), (2, 0, x2)] [] S (f_X12_richest_b36 r4 x0 x1 x2 S) := by
  intro x0 x1 x2 S h0 h1 h2
  unfold f_X12_richest_b36
  refine j_iincL (q := 2) dX12_richest_36 rfl (Nat.le_of_ble_eq_true rfl) (fun v3 hv3 => ?_)
  refine j_lv (lv' := [(2, 0, v3), (0, 2, x0), (1, 0, x1)]) rfl ?_
  refine j_goto (tgt := 4) dX12_richest_39 rfl ?_
  refine j_sub [1, 2, 0] rfl ?_
  exact k4 x0 x1 v3 S h0 h1 hv3
def f_X12_richest_b34 (r4 : Int → Int → Int → jSt → Option (Int × jSt)) (x0 : Int) (x1 : Int) (S : jSt) : Option (Int × jSt) :=
  f_X12_richest_b36 r4 x0 x1 x1 S
theorem p_f_X12_richest_b34 {G : jG} {d : Nat} {S0 : jSt} (hd0 : 2 ≤ d) {r4 : Int → Int → Int → jSt → Option (Int × jSt)} (k4 : ∀ (x0 : Int) (x1 : Int) (x2 : Int) (S : jSt), (0 ≤ (x0)) → (R32 (x1)) → (R32 (x2)) → J G yX12_richest cX12_richest 3 (some .int) d S0 4 [(0, 2, x0), (1, 0, x1), (2, 0, x2)] [] S (r4 x0 x1 x2 S)) : ∀ (x0 : Int) (x1 : Int) (S : jSt), (0 ≤ (x0)) → (R32 (x1)) → J G yX12_richest cX12_richest 3 (some .int) d S0 34 [(0, 2, x0), (2, 0, x1)] [] S (f_X12_richest_b34 r4 x0 x1 S) := by
  intro x0 x1 S h0 h1
  unfold f_X12_richest_b34
  refine j_iload_n 1 dX12_richest_34 rfl rfl ?_
  refine j_istore_n (lv' := [(1, 0, x1), (0, 2, x0), (2, 0, x1)]) dX12_richest_35 rfl (Nat.le_of_ble_eq_true rfl) rfl ?_
  refine j_sub [1, 0, 2] rfl ?_
  exact p_f_X12_richest_b36 hd0 k4 x0 x1 x1 S h0 h1 h1
def f_X12_richest_b4B (r4 : Int → Int → Int → jSt → Option (Int × jSt)) (x0 : Int) (x1 : Int) (x2 : Int) (S : jSt) : Option (Int × jSt) :=
  fgetr S x0 12 0 (fun v1 => fald S v1 1 1 (fun v2 => if v2 ≤ x2 then some (x1, S) else if x1 = (-1) then f_X12_richest_b34 r4 x0 x2 S else fcallv S x0 12 (f_X12_own x0 x2 0 S) (fun v4 S5 => fcallv S5 x0 12 (f_X12_own x0 x1 0 S5) (fun v6 S7 => if v4 ≤ v6 then f_X12_richest_b36 r4 x0 x1 x2 S7 else f_X12_richest_b34 r4 x0 x2 S7))))
theorem p_f_X12_richest_b4B {G : jG} {d : Nat} {S0 : jSt} (hd0 : 2 ≤ d) {r4 : Int → Int → Int → jSt → Option (Int × jSt)} (k4 : ∀ (x0 : Int) (x1 : Int) (x2 : Int) (S : jSt), (0 ≤ (x0)) → (R32 (x1)) → (R32 (x2)) → J G yX12_richest cX12_richest 3 (some .int) d S0 4 [(0, 2, x0), (1, 0, x1), (2, 0, x2)] [] S (r4 x0 x1 x2 S)) : ∀ (x0 : Int) (x1 : Int) (x2 : Int) (S : jSt), (0 ≤ (x0)) → (R32 (x1)) → (R32 (x2)) → J G yX12_richest cX12_richest 3 (some .int) d S0 4 [(0, 2, x0), (1, 0, x1), (2, 0, x2)] [] S (f_X12_richest_b4B r4 x0 x1 x2 S) := by
  intro x0 x1 x2 S h0 h1 h2
  unfold f_X12_richest_b4B
  refine j_iload_n 2 dX12_richest_4 rfl rfl ?_
  refine j_aload_n 0 dX12_richest_5 rfl rfl ?_
  refine j_getr (ci := 12) (k := 0) rfl in_X12 (Nat.le_of_ble_eq_true rfl) rfl rfl fl_X12_7 dX12_richest_6 (fun (v1 : Int) (hv1 : 0 ≤ v1) => ?_)
  refine j_iconst dX12_richest_9 ?_
  refine j_iaload (jZ_R jz1) dX12_richest_10 (fun (v2 : Int) (hv2 : R32 (v2)) => ?_)
  refine j_icmp_ge (tgt := 42) h2 hv2 dX12_richest_11 rfl (fun _ => ?_) (fun _ => ?_)
  · refine j_iload_n 1 dX12_richest_42 rfl rfl ?_
    exact j_ireturn h1 dX12_richest_43
  · refine j_iload_n 1 dX12_richest_14 rfl rfl ?_
    refine j_iconst dX12_richest_15 ?_
    refine j_icmp_eq (tgt := 34) h1 (j_r32 (-1) rfl) dX12_richest_16 rfl (fun _ => ?_) (fun _ => ?_)
    · refine j_sub [0, 2] rfl ?_
      exact p_f_X12_richest_b34 hd0 k4 x0 x2 S h0 h2
    · refine j_aload_n 0 dX12_richest_19 rfl rfl ?_
      refine j_iload_n 2 dX12_richest_20 rfl rfl ?_
      refine j_iconst dX12_richest_21 ?_
      refine j_callV (ci := 12) (As := [(0, x2), (0, 0)]) (st := []) kc_X12_own (c_X12_own x0 x2 0 S h0 h2 (jZ_R jz0)) rfl lm_X12_299 ki_X12_own ke_X12_own rfl (Nat.le_of_ble_eq_true rfl) (Nat.le_trans (m := 2) (Nat.le_of_ble_eq_true rfl) hd0) dX12_richest_22 (fun (v4 : Int) (S5 : jSt) (hv4 : R32 (v4)) => ?_)
      refine j_aload_n 0 dX12_richest_25 rfl rfl ?_
      refine j_iload_n 1 dX12_richest_26 rfl rfl ?_
      refine j_iconst dX12_richest_27 ?_
      refine j_callV (ci := 12) (As := [(0, x1), (0, 0)]) (st := [(0, v4)]) kc_X12_own (c_X12_own x0 x1 0 S5 h0 h1 (jZ_R jz0)) rfl lm_X12_299 ki_X12_own ke_X12_own rfl (Nat.le_of_ble_eq_true rfl) (Nat.le_trans (m := 2) (Nat.le_of_ble_eq_true rfl) hd0) dX12_richest_28 (fun (v6 : Int) (S7 : jSt) (hv6 : R32 (v6)) => ?_)
      refine j_icmp_le (tgt := 36) hv4 hv6 dX12_richest_31 rfl (fun _ => ?_) (fun _ => ?_)
      · exact p_f_X12_richest_b36 hd0 k4 x0 x1 x2 S7 h0 h1 h2
      · refine j_sub [0, 2] rfl ?_
        exact p_f_X12_richest_b34 hd0 k4 x0 x2 S7 h0 h2
def f_X12_richest_b4 : Int → Int → Int → jSt → Option (Int × jSt) := jrep (β := Int → Int → Int → jSt → Option (Int × jSt)) (fun _ _ _ _ => none) (fun r => f_X12_richest_b4B r) jN
theorem p_f_X12_richest_b4 {G : jG} {d : Nat} {S0 : jSt} (hd0 : 2 ≤ d) : ∀ (x0 : Int) (x1 : Int) (x2 : Int) (S : jSt), (0 ≤ (x0)) → (R32 (x1)) → (R32 (x2)) → J G yX12_richest cX12_richest 3 (some .int) d S0 4 [(0, 2, x0), (1, 0, x1), (2, 0, x2)] [] S (f_X12_richest_b4  x0 x1 x2 S) :=
  jrep_ind (P := fun (r : Int → Int → Int → jSt → Option (Int × jSt)) => ∀ (x0 : Int) (x1 : Int) (x2 : Int) (S : jSt), (0 ≤ (x0)) → (R32 (x1)) → (R32 (x2)) → J G yX12_richest cX12_richest 3 (some .int) d S0 4 [(0, 2, x0), (1, 0, x1), (2, 0, x2)] [] S (r x0 x1 x2 S)) (by intros; exact j_none) (fun r k => p_f_X12_richest_b4B hd0 k) jN
def f_X12_richest (a0 : Int) (S : jSt) : Option (Int × jSt) :=
  f_X12_richest_b4 a0 (-1) 0 S
theorem e_X12_richest {G : jG} {d : Nat} {S0 : jSt} (hd0 : 2 ≤ d) (a0 : Int) (S : jSt) (h0 : 0 ≤ (a0)) : J G yX12_richest cX12_richest 3 (some .int) d S0 0 [(0, 2, a0)] [] S (f_X12_richest a0 S) := by
  unfold f_X12_richest
  refine j_iconst dX12_richest_0 ?_
  refine j_istore_n (lv' := [(1, 0, (-1)), (0, 2, a0)]) dX12_richest_1 rfl (Nat.le_of_ble_eq_true rfl) rfl ?_
  refine j_iconst dX12_richest_2 ?_
  refine j_istore_n (lv' := [(2, 0, 0), (1, 0, (-1)), (0, 2, a0)]) dX12_richest_3 rfl (Nat.le_of_ble_eq_true rfl) rfl ?_
  refine j_sub [2, 1, 0] rfl ?_
  exact p_f_X12_richest_b4 hd0 a0 (-1) 0 S h0 (j_r32 (-1) rfl) (jZ_R jz0)
theorem c_X12_richest {G : jG} (a0 : Int) (S : jSt) (h0 : 0 ≤ (a0)) : CT G yX12_richest cX12_richest 3 (some .int) 2 ([(2, a0)].map jval) S (f_X12_richest a0 S) := ct_of [(2, a0)] (by decide) rfl (Nat.le_of_ble_eq_true rfl) (e_X12_richest (Nat.le_refl _) a0 S h0)
-- X12_said
def f_X12_said_b45 (S : jSt) : Option (Int × jSt) :=
  some ((-2), S)
theorem p_f_X12_said_b45 {G : jG} {d : Nat} {S0 : jSt} (hd0 : 3 ≤ d) : ∀ (S : jSt), J G yX12_said cX12_said 3 (some .int) d S0 45 [] [] S (f_X12_said_b45   S) := by
  intro S
  unfold f_X12_said_b45
  refine j_bipush dX12_said_45 (by decide) ?_
  exact j_ireturn (j_r32 (-2) rfl) dX12_said_47
def f_X12_said (a0 : Int) (a1 : Int) (a2 : Int) (S : jSt) : Option (Int × jSt) :=
  if a1 = (-1) then fgetr S a0 12 0 (fun v20 => fast S v20 6 1 0 (fun S21 => some (0, S21))) else fcallv S a0 12 (f_X12_isLot a0 a1 S) (fun v1 S2 => if v1 = 0 then f_X12_said_b45 S2 else fcall (f_X12_isIn a2 0 10 S2) (fun v3 S4 => if v3 = 0 then f_X12_said_b45 S4 else fgetr S4 a0 12 0 (fun v5 => fald S4 v5 6 1 (fun v6 => if v6 = 8 then f_X12_said_b45 S4 else fgetr S4 a0 12 0 (fun v7 => fgetr S4 a0 12 0 (fun v8 => fald S4 v8 6 1 (fun v9 => fast S4 v7 (w32 (177 + (w32 (2 * v9)))) 1 a1 (fun S10 => fgetr S10 a0 12 0 (fun v11 => fgetr S10 a0 12 0 (fun v12 => fald S10 v12 6 1 (fun v13 => fast S10 v11 (w32 ((w32 (177 + (w32 (2 * v13)))) + 1)) 1 a2 (fun S14 => fgetr S14 a0 12 0 (fun v15 => fald S14 v15 6 1 (fun v16 => fast S14 v15 6 1 (w32 (v16 + 1)) (fun S17 => fgetr S17 a0 12 0 (fun v18 => fald S17 v18 6 1 (fun v19 => some (v19, S17))))))))))))))))))
theorem e_X12_said {G : jG} {d : Nat} {S0 : jSt} (hd0 : 3 ≤ d) (a0 : Int) (a1 : Int) (a2 : Int) (S : jSt) (h0 : 0 ≤ (a0)) (h1 : R32 (a1)) (h2 : R32 (a2)) : J G yX12_said cX12_said 3 (some .int) d S0 0 [(0, 2, a0), (1, 0, a1), (2, 0, a2)] [] S (f_X12_said a0 a1 a2 S) := by
  unfold f_X12_said
  refine j_iload_n 1 dX12_said_0 rfl rfl ?_
  refine j_iconst dX12_said_1 ?_
  refine j_icmp_ne (tgt := 15) h1 (j_r32 (-1) rfl) dX12_said_2 rfl (fun _ => ?_) (fun _ => ?_)
  · refine j_aload_n 0 dX12_said_15 rfl rfl ?_
    refine j_iload_n 1 dX12_said_16 rfl rfl ?_
    refine j_callV (ci := 12) (As := [(0, a1)]) (st := []) kc_X12_isLot (c_X12_isLot a0 a1 S h0 h1) rfl lm_X12_64 ki_X12_isLot ke_X12_isLot rfl (Nat.le_of_ble_eq_true rfl) (Nat.le_trans (m := 3) (Nat.le_of_ble_eq_true rfl) hd0) dX12_said_17 (fun (v1 : Int) (S2 : jSt) (hv1 : (v1) = 0 ∨ (v1) = 1) => ?_)
    refine j_if_eq (tgt := 45) (jZ_R hv1) dX12_said_20 rfl (fun _ => ?_) (fun _ => ?_)
    · refine j_sub [] rfl ?_
      exact p_f_X12_said_b45 hd0 S2
    · refine j_iload_n 2 dX12_said_23 rfl rfl ?_
      refine j_iconst dX12_said_24 ?_
      refine j_bipush dX12_said_25 (by decide) ?_
      refine j_callS (As := [(0, a2), (0, 0), (0, 10)]) (st := []) kc_X12_isIn (c_X12_isIn a2 0 10 S2 h2 (jZ_R jz0) (j_r32 10 rfl)) lm_X12_60 ks_X12_isIn rfl (Nat.le_of_ble_eq_true rfl) (Nat.le_trans (m := 3) (Nat.le_of_ble_eq_true rfl) hd0) dX12_said_27 (fun (v3 : Int) (S4 : jSt) (hv3 : (v3) = 0 ∨ (v3) = 1) => ?_)
      refine j_if_eq (tgt := 45) (jZ_R hv3) dX12_said_30 rfl (fun _ => ?_) (fun _ => ?_)
      · refine j_sub [] rfl ?_
        exact p_f_X12_said_b45 hd0 S4
      · refine j_aload_n 0 dX12_said_33 rfl rfl ?_
        refine j_getr (ci := 12) (k := 0) rfl in_X12 (Nat.le_of_ble_eq_true rfl) rfl rfl fl_X12_7 dX12_said_34 (fun (v5 : Int) (hv5 : 0 ≤ v5) => ?_)
        refine j_bipush dX12_said_37 (by decide) ?_
        refine j_iaload (j_r32 6 rfl) dX12_said_39 (fun (v6 : Int) (hv6 : R32 (v6)) => ?_)
        refine j_bipush dX12_said_40 (by decide) ?_
        refine j_icmp_ne (tgt := 48) hv6 (j_r32 8 rfl) dX12_said_42 rfl (fun _ => ?_) (fun _ => ?_)
        · refine j_aload_n 0 dX12_said_48 rfl rfl ?_
          refine j_getr (ci := 12) (k := 0) rfl in_X12 (Nat.le_of_ble_eq_true rfl) rfl rfl fl_X12_7 dX12_said_49 (fun (v7 : Int) (hv7 : 0 ≤ v7) => ?_)
          refine j_sipush dX12_said_52 (by decide) ?_
          refine j_iconst dX12_said_55 ?_
          refine j_aload_n 0 dX12_said_56 rfl rfl ?_
          refine j_getr (ci := 12) (k := 0) rfl in_X12 (Nat.le_of_ble_eq_true rfl) rfl rfl fl_X12_7 dX12_said_57 (fun (v8 : Int) (hv8 : 0 ≤ v8) => ?_)
          refine j_bipush dX12_said_60 (by decide) ?_
          refine j_iaload (j_r32 6 rfl) dX12_said_62 (fun (v9 : Int) (hv9 : R32 (v9)) => ?_)
          refine j_imul dX12_said_63 ?_
          refine j_iadd dX12_said_64 ?_
          refine j_iload_n 1 dX12_said_65 rfl rfl ?_
          refine j_iastore (w32_R _) h1 dX12_said_66 (fun S10 => ?_)
          refine j_aload_n 0 dX12_said_67 rfl rfl ?_
          refine j_getr (ci := 12) (k := 0) rfl in_X12 (Nat.le_of_ble_eq_true rfl) rfl rfl fl_X12_7 dX12_said_68 (fun (v11 : Int) (hv11 : 0 ≤ v11) => ?_)
          refine j_sipush dX12_said_71 (by decide) ?_
          refine j_iconst dX12_said_74 ?_
          refine j_aload_n 0 dX12_said_75 rfl rfl ?_
          refine j_getr (ci := 12) (k := 0) rfl in_X12 (Nat.le_of_ble_eq_true rfl) rfl rfl fl_X12_7 dX12_said_76 (fun (v12 : Int) (hv12 : 0 ≤ v12) => ?_)
          refine j_bipush dX12_said_79 (by decide) ?_
          refine j_iaload (j_r32 6 rfl) dX12_said_81 (fun (v13 : Int) (hv13 : R32 (v13)) => ?_)
          refine j_imul dX12_said_82 ?_
          refine j_iadd dX12_said_83 ?_
          refine j_iconst dX12_said_84 ?_
          refine j_iadd dX12_said_85 ?_
          refine j_iload_n 2 dX12_said_86 rfl rfl ?_
          refine j_iastore (w32_R _) h2 dX12_said_87 (fun S14 => ?_)
          refine j_aload_n 0 dX12_said_88 rfl rfl ?_
          refine j_getr (ci := 12) (k := 0) rfl in_X12 (Nat.le_of_ble_eq_true rfl) rfl rfl fl_X12_7 dX12_said_89 (fun (v15 : Int) (hv15 : 0 ≤ v15) => ?_)
          refine j_bipush dX12_said_92 (by decide) ?_
          refine j_dup2 dX12_said_94 (fun h => nomatch h) (fun h => nomatch h) ?_
          refine j_iaload (j_r32 6 rfl) dX12_said_95 (fun (v16 : Int) (hv16 : R32 (v16)) => ?_)
          refine j_iconst dX12_said_96 ?_
          refine j_iadd dX12_said_97 ?_
          refine j_iastore (j_r32 6 rfl) (w32_R _) dX12_said_98 (fun S17 => ?_)
          refine j_aload_n 0 dX12_said_99 rfl rfl ?_
          refine j_getr (ci := 12) (k := 0) rfl in_X12 (Nat.le_of_ble_eq_true rfl) rfl rfl fl_X12_7 dX12_said_100 (fun (v18 : Int) (hv18 : 0 ≤ v18) => ?_)
          refine j_bipush dX12_said_103 (by decide) ?_
          refine j_iaload (j_r32 6 rfl) dX12_said_105 (fun (v19 : Int) (hv19 : R32 (v19)) => ?_)
          exact j_ireturn hv19 dX12_said_106
        · refine j_sub [] rfl ?_
          exact p_f_X12_said_b45 hd0 S4
  · refine j_aload_n 0 dX12_said_5 rfl rfl ?_
    refine j_getr (ci := 12) (k := 0) rfl in_X12 (Nat.le_of_ble_eq_true rfl) rfl rfl fl_X12_7 dX12_said_6 (fun (v20 : Int) (hv20 : 0 ≤ v20) => ?_)
    refine j_bipush dX12_said_9 (by decide) ?_
    refine j_iconst dX12_said_11 ?_
    refine j_iastore (j_r32 6 rfl) (jZ_R jz0) dX12_said_12 (fun S21 => ?_)
    refine j_iconst dX12_said_13 ?_
    exact j_ireturn (jZ_R jz0) dX12_said_14
theorem c_X12_said {G : jG} (a0 : Int) (a1 : Int) (a2 : Int) (S : jSt) (h0 : 0 ≤ (a0)) (h1 : R32 (a1)) (h2 : R32 (a2)) : CT G yX12_said cX12_said 3 (some .int) 3 ([(2, a0), (0, a1), (0, a2)].map jval) S (f_X12_said a0 a1 a2 S) := ct_of [(2, a0), (0, a1), (0, a2)] (by decide) rfl (Nat.le_of_ble_eq_true rfl) (e_X12_said (Nat.le_refl _) a0 a1 a2 S h0 h1 h2)
-- X12_stair
def f_X12_stair_b36 (S : jSt) : Option (Int × jSt) :=
  some (0, S)
theorem p_f_X12_stair_b36 {G : jG} {d : Nat} {S0 : jSt} (hd0 : 3 ≤ d) : ∀ (S : jSt), J G yX12_stair cX12_stair 3 (some .boolean) d S0 36 [] [] S (f_X12_stair_b36   S) := by
  intro S
  unfold f_X12_stair_b36
  refine j_iconst dX12_stair_36 ?_
  exact j_zreturn jz0 dX12_stair_37
def f_X12_stair (a0 : Int) (a1 : Int) (a2 : Int) (S : jSt) : Option (Int × jSt) :=
  fcall (f_X12_isFloor a1 S) (fun v1 S2 => if v1 = 0 then f_X12_stair_b36 S2 else fcall (f_X12_isFloor a2 S2) (fun v3 S4 => if v3 = 0 then f_X12_stair_b36 S4 else if a1 = a2 then f_X12_stair_b36 S4 else fgetr S4 a0 12 0 (fun v5 => fald S4 v5 (w32 (141 + a1)) 1 (fun v6 => fcall (f_X12_has v6 a2 S4) (fun v7 S8 => if v7 = 0 then fcallv S8 a0 12 (f_X12_turnStair a0 a1 a2 S8) (fun v9 S10 => some (1, S10)) else f_X12_stair_b36 S8)))))
theorem e_X12_stair {G : jG} {d : Nat} {S0 : jSt} (hd0 : 3 ≤ d) (a0 : Int) (a1 : Int) (a2 : Int) (S : jSt) (h0 : 0 ≤ (a0)) (h1 : R32 (a1)) (h2 : R32 (a2)) : J G yX12_stair cX12_stair 3 (some .boolean) d S0 0 [(0, 2, a0), (1, 0, a1), (2, 0, a2)] [] S (f_X12_stair a0 a1 a2 S) := by
  unfold f_X12_stair
  refine j_iload_n 1 dX12_stair_0 rfl rfl ?_
  refine j_callS (As := [(0, a1)]) (st := []) kc_X12_isFloor (c_X12_isFloor a1 S h1) lm_X12_72 ks_X12_isFloor rfl (Nat.le_of_ble_eq_true rfl) (Nat.le_trans (m := 3) (Nat.le_of_ble_eq_true rfl) hd0) dX12_stair_1 (fun (v1 : Int) (S2 : jSt) (hv1 : (v1) = 0 ∨ (v1) = 1) => ?_)
  refine j_if_eq (tgt := 36) (jZ_R hv1) dX12_stair_4 rfl (fun _ => ?_) (fun _ => ?_)
  · refine j_sub [] rfl ?_
    exact p_f_X12_stair_b36 hd0 S2
  · refine j_iload_n 2 dX12_stair_7 rfl rfl ?_
    refine j_callS (As := [(0, a2)]) (st := []) kc_X12_isFloor (c_X12_isFloor a2 S2 h2) lm_X12_72 ks_X12_isFloor rfl (Nat.le_of_ble_eq_true rfl) (Nat.le_trans (m := 3) (Nat.le_of_ble_eq_true rfl) hd0) dX12_stair_8 (fun (v3 : Int) (S4 : jSt) (hv3 : (v3) = 0 ∨ (v3) = 1) => ?_)
    refine j_if_eq (tgt := 36) (jZ_R hv3) dX12_stair_11 rfl (fun _ => ?_) (fun _ => ?_)
    · refine j_sub [] rfl ?_
      exact p_f_X12_stair_b36 hd0 S4
    · refine j_iload_n 1 dX12_stair_14 rfl rfl ?_
      refine j_iload_n 2 dX12_stair_15 rfl rfl ?_
      refine j_icmp_eq (tgt := 36) h1 h2 dX12_stair_16 rfl (fun _ => ?_) (fun _ => ?_)
      · refine j_sub [] rfl ?_
        exact p_f_X12_stair_b36 hd0 S4
      · refine j_aload_n 0 dX12_stair_19 rfl rfl ?_
        refine j_getr (ci := 12) (k := 0) rfl in_X12 (Nat.le_of_ble_eq_true rfl) rfl rfl fl_X12_7 dX12_stair_20 (fun (v5 : Int) (hv5 : 0 ≤ v5) => ?_)
        refine j_sipush dX12_stair_23 (by decide) ?_
        refine j_iload_n 1 dX12_stair_26 rfl rfl ?_
        refine j_iadd dX12_stair_27 ?_
        refine j_iaload (w32_R _) dX12_stair_28 (fun (v6 : Int) (hv6 : R32 (v6)) => ?_)
        refine j_iload_n 2 dX12_stair_29 rfl rfl ?_
        refine j_callS (As := [(0, v6), (0, a2)]) (st := []) kc_X12_has (c_X12_has v6 a2 S4 hv6 h2) lm_X12_249 ks_X12_has rfl (Nat.le_of_ble_eq_true rfl) (Nat.le_trans (m := 3) (Nat.le_of_ble_eq_true rfl) hd0) dX12_stair_30 (fun (v7 : Int) (S8 : jSt) (hv7 : (v7) = 0 ∨ (v7) = 1) => ?_)
        refine j_if_eq (tgt := 38) (jZ_R hv7) dX12_stair_33 rfl (fun _ => ?_) (fun _ => ?_)
        · refine j_aload_n 0 dX12_stair_38 rfl rfl ?_
          refine j_iload_n 1 dX12_stair_39 rfl rfl ?_
          refine j_iload_n 2 dX12_stair_40 rfl rfl ?_
          refine j_callV (ci := 12) (As := [(0, a1), (0, a2)]) (st := []) kc_X12_turnStair (c_X12_turnStair a0 a1 a2 S8 h0 h1 h2) rfl lm_X12_445 ki_X12_turnStair ke_X12_turnStair rfl (Nat.le_of_ble_eq_true rfl) (Nat.le_trans (m := 3) (Nat.le_of_ble_eq_true rfl) hd0) dX12_stair_41 (fun v9 S10 _ => ?_)
          refine j_iconst dX12_stair_44 ?_
          exact j_zreturn jz1 dX12_stair_45
        · refine j_sub [] rfl ?_
          exact p_f_X12_stair_b36 hd0 S8
theorem c_X12_stair {G : jG} (a0 : Int) (a1 : Int) (a2 : Int) (S : jSt) (h0 : 0 ≤ (a0)) (h1 : R32 (a1)) (h2 : R32 (a2)) : CT G yX12_stair cX12_stair 3 (some .boolean) 3 ([(2, a0), (0, a1), (0, a2)].map jval) S (f_X12_stair a0 a1 a2 S) := ct_of [(2, a0), (0, a1), (0, a2)] (by decide) rfl (Nat.le_of_ble_eq_true rfl) (e_X12_stair (Nat.le_refl _) a0 a1 a2 S h0 h1 h2)
-- X12_takes
def f_X12_takes_b26 (S : jSt) : Option (Int × jSt) :=
  some ((-1), S)
theorem p_f_X12_takes_b26 {G : jG} {d : Nat} {S0 : jSt} (hd0 : 3 ≤ d) : ∀ (S : jSt), J G yX12_takes cX12_takes 3 (some .int) d S0 26 [] [] S (f_X12_takes_b26   S) := by
  intro S
  unfold f_X12_takes_b26
  refine j_iconst dX12_takes_26 ?_
  exact j_ireturn (j_r32 (-1) rfl) dX12_takes_27
def f_X12_takes_b53 (x0 : Int) (S : jSt) : Option (Int × jSt) :=
  some (x0, S)
theorem p_f_X12_takes_b53 {G : jG} {d : Nat} {S0 : jSt} (hd0 : 3 ≤ d) : ∀ (x0 : Int) (S : jSt), ((x0) = 0 ∨ (x0) = 1) → J G yX12_takes cX12_takes 3 (some .int) d S0 53 [] [(0, x0)] S (f_X12_takes_b53  x0 S) := by
  intro x0 S h0
  unfold f_X12_takes_b53
  exact j_ireturn (jZ_R h0) dX12_takes_53
def f_X12_takes (a0 : Int) (a1 : Int) (a2 : Int) (S : jSt) : Option (Int × jSt) :=
  fcall (f_X12_isIn a1 0 6 S) (fun v1 S2 => if v1 = 0 then f_X12_takes_b26 S2 else fcall (f_X12_isIn a2 0 5 S2) (fun v3 S4 => if v3 = 0 then f_X12_takes_b26 S4 else fcallv S4 a0 12 (f_X12_isTen a0 S4) (fun v5 S6 => if v5 = 0 then f_X12_takes_b26 S6 else fcall (f_X12_tens a1 S6) (fun v7 S8 => fcallv S8 a0 12 (f_X12_meanOf a0 a1 S8) (fun v9 S10 => if (w64 ((w64 (10 * a2)) * v7)) < v9 then f_X12_takes_b53 0 S10 else f_X12_takes_b53 1 S10)))))
theorem e_X12_takes {G : jG} {d : Nat} {S0 : jSt} (hd0 : 3 ≤ d) (a0 : Int) (a1 : Int) (a2 : Int) (S : jSt) (h0 : 0 ≤ (a0)) (h1 : R32 (a1)) (h2 : R32 (a2)) : J G yX12_takes cX12_takes 3 (some .int) d S0 0 [(0, 2, a0), (1, 0, a1), (2, 0, a2)] [] S (f_X12_takes a0 a1 a2 S) := by
  unfold f_X12_takes
  refine j_iload_n 1 dX12_takes_0 rfl rfl ?_
  refine j_iconst dX12_takes_1 ?_
  refine j_bipush dX12_takes_2 (by decide) ?_
  refine j_callS (As := [(0, a1), (0, 0), (0, 6)]) (st := []) kc_X12_isIn (c_X12_isIn a1 0 6 S h1 (jZ_R jz0) (j_r32 6 rfl)) lm_X12_60 ks_X12_isIn rfl (Nat.le_of_ble_eq_true rfl) (Nat.le_trans (m := 3) (Nat.le_of_ble_eq_true rfl) hd0) dX12_takes_4 (fun (v1 : Int) (S2 : jSt) (hv1 : (v1) = 0 ∨ (v1) = 1) => ?_)
  refine j_if_eq (tgt := 26) (jZ_R hv1) dX12_takes_7 rfl (fun _ => ?_) (fun _ => ?_)
  · refine j_sub [] rfl ?_
    exact p_f_X12_takes_b26 hd0 S2
  · refine j_iload_n 2 dX12_takes_10 rfl rfl ?_
    refine j_iconst dX12_takes_11 ?_
    refine j_iconst dX12_takes_12 ?_
    refine j_callS (As := [(0, a2), (0, 0), (0, 5)]) (st := []) kc_X12_isIn (c_X12_isIn a2 0 5 S2 h2 (jZ_R jz0) (j_r32 5 rfl)) lm_X12_60 ks_X12_isIn rfl (Nat.le_of_ble_eq_true rfl) (Nat.le_trans (m := 3) (Nat.le_of_ble_eq_true rfl) hd0) dX12_takes_13 (fun (v3 : Int) (S4 : jSt) (hv3 : (v3) = 0 ∨ (v3) = 1) => ?_)
    refine j_if_eq (tgt := 26) (jZ_R hv3) dX12_takes_16 rfl (fun _ => ?_) (fun _ => ?_)
    · refine j_sub [] rfl ?_
      exact p_f_X12_takes_b26 hd0 S4
    · refine j_aload_n 0 dX12_takes_19 rfl rfl ?_
      refine j_callV (ci := 12) (As := []) (st := []) kc_X12_isTen (c_X12_isTen a0 S4 h0) rfl lm_X12_460 ki_X12_isTen ke_X12_isTen rfl (Nat.le_of_ble_eq_true rfl) (Nat.le_trans (m := 3) (Nat.le_of_ble_eq_true rfl) hd0) dX12_takes_20 (fun (v5 : Int) (S6 : jSt) (hv5 : (v5) = 0 ∨ (v5) = 1) => ?_)
      refine j_if_ne (tgt := 28) (jZ_R hv5) dX12_takes_23 rfl (fun _ => ?_) (fun _ => ?_)
      · refine j_ldc2 cn_X12_454 dX12_takes_28 ?_
        refine j_iload_n 2 dX12_takes_31 rfl rfl ?_
        refine j_i2l h2 dX12_takes_32 ?_
        refine j_lmul dX12_takes_33 ?_
        refine j_iload_n 1 dX12_takes_34 rfl rfl ?_
        refine j_callS (As := [(0, a1)]) (st := [(1, w64 (10 * a2))]) kc_X12_tens (c_X12_tens a1 S6 h1) lm_X12_456 ks_X12_tens rfl (Nat.le_of_ble_eq_true rfl) (Nat.le_trans (m := 3) (Nat.le_of_ble_eq_true rfl) hd0) dX12_takes_35 (fun (v7 : Int) (S8 : jSt) (hv7 : R64 (v7)) => ?_)
        refine j_lmul dX12_takes_38 ?_
        refine j_aload_n 0 dX12_takes_39 rfl rfl ?_
        refine j_iload_n 1 dX12_takes_40 rfl rfl ?_
        refine j_callV (ci := 12) (As := [(0, a1)]) (st := [(1, w64 ((w64 (10 * a2)) * v7))]) kc_X12_meanOf (c_X12_meanOf a0 a1 S8 h0 h1) rfl lm_X12_465 ki_X12_meanOf ke_X12_meanOf rfl (Nat.le_of_ble_eq_true rfl) (Nat.le_trans (m := 3) (Nat.le_of_ble_eq_true rfl) hd0) dX12_takes_41 (fun (v9 : Int) (S10 : jSt) (hv9 : R64 (v9)) => ?_)
        refine j_lcmp_lt (tgt := 52) (w64_R _) hv9 dX12_takes_44 dX12_takes_45 rfl (fun _ => ?_) (fun _ => ?_)
        · refine j_iconst dX12_takes_52 ?_
          refine j_sub [] rfl ?_
          exact p_f_X12_takes_b53 hd0 0 S10 jz0
        · refine j_iconst dX12_takes_48 ?_
          refine j_goto (tgt := 53) dX12_takes_49 rfl ?_
          refine j_sub [] rfl ?_
          exact p_f_X12_takes_b53 hd0 1 S10 jz1
      · refine j_sub [] rfl ?_
        exact p_f_X12_takes_b26 hd0 S6
theorem c_X12_takes {G : jG} (a0 : Int) (a1 : Int) (a2 : Int) (S : jSt) (h0 : 0 ≤ (a0)) (h1 : R32 (a1)) (h2 : R32 (a2)) : CT G yX12_takes cX12_takes 3 (some .int) 3 ([(2, a0), (0, a1), (0, a2)].map jval) S (f_X12_takes a0 a1 a2 S) := ct_of [(2, a0), (0, a1), (0, a2)] (by decide) rfl (Nat.le_of_ble_eq_true rfl) (e_X12_takes (Nat.le_refl _) a0 a1 a2 S h0 h1 h2)
-- X12_text
def f_X12_text_b36 (x0 : Int) (x1 : Int) (x2 : Int) (S : jSt) : Option (Int × jSt) :=
  fput S x1 12 6 x2 (fun S8 => fput S8 x0 12 4 0 (fun S9 => fget S9 x0 12 5 (fun v10 => if v10 = 0 then fgetr S9 x0 12 0 (fun v11 => fald S9 v11 2 1 (fun v12 => fast S9 v11 2 1 (w32 (v12 + 1)) (fun S13 => fgetr S13 x0 12 0 (fun v14 => fald S13 v14 2 1 (fun v15 => some (w32 (v15 - 1), S13)))))) else some ((-1), S9))))
theorem p_f_X12_text_b36 {G : jG} {d : Nat} {S0 : jSt} (hd0 : 13 ≤ d) : ∀ (x0 : Int) (x1 : Int) (x2 : Int) (S : jSt), (0 ≤ (x0)) → (0 ≤ (x1)) → (R32 (x2)) → J G yX12_text cX12_text 1 (some .int) d S0 36 [(0, 2, x0)] [(0, x2), (2, x1)] S (f_X12_text_b36  x0 x1 x2 S) := by
  intro x0 x1 x2 S h0 h1 h2
  unfold f_X12_text_b36
  refine j_puti (ci := 12) (k := 6) (ty0 := tyX12) rfl in_X12 (Nat.le_of_ble_eq_true rfl) rfl tyX12_ok nmX12 rfl rfl (by decide +kernel) h2 fl_X12_26 dX12_text_36 (fun S8 => ?_)
  refine j_aload_n 0 dX12_text_39 rfl rfl ?_
  refine j_iconst dX12_text_40 ?_
  refine j_puti (ci := 12) (k := 4) (ty0 := tyX12) rfl in_X12 (Nat.le_of_ble_eq_true rfl) rfl tyX12_ok nmX12 rfl rfl (by decide +kernel) (jZ_R jz0) fl_X12_85 dX12_text_41 (fun S9 => ?_)
  refine j_aload_n 0 dX12_text_44 rfl rfl ?_
  refine j_get (ci := 12) (k := 5) (t := 0) rfl in_X12 (Nat.le_of_ble_eq_true rfl) rfl rfl fl_X12_22 dX12_text_45 (fun (v10 : Int) (hv10 : R32 (v10)) => ?_)
  refine j_if_eq (tgt := 53) hv10 dX12_text_48 rfl (fun _ => ?_) (fun _ => ?_)
  · refine j_aload_n 0 dX12_text_53 rfl rfl ?_
    refine j_getr (ci := 12) (k := 0) rfl in_X12 (Nat.le_of_ble_eq_true rfl) rfl rfl fl_X12_7 dX12_text_54 (fun (v11 : Int) (hv11 : 0 ≤ v11) => ?_)
    refine j_iconst dX12_text_57 ?_
    refine j_dup2 dX12_text_58 (fun h => nomatch h) (fun h => nomatch h) ?_
    refine j_iaload (j_r32 2 rfl) dX12_text_59 (fun (v12 : Int) (hv12 : R32 (v12)) => ?_)
    refine j_iconst dX12_text_60 ?_
    refine j_iadd dX12_text_61 ?_
    refine j_iastore (j_r32 2 rfl) (w32_R _) dX12_text_62 (fun S13 => ?_)
    refine j_aload_n 0 dX12_text_63 rfl rfl ?_
    refine j_getr (ci := 12) (k := 0) rfl in_X12 (Nat.le_of_ble_eq_true rfl) rfl rfl fl_X12_7 dX12_text_64 (fun (v14 : Int) (hv14 : 0 ≤ v14) => ?_)
    refine j_iconst dX12_text_67 ?_
    refine j_iaload (j_r32 2 rfl) dX12_text_68 (fun (v15 : Int) (hv15 : R32 (v15)) => ?_)
    refine j_iconst dX12_text_69 ?_
    refine j_isub dX12_text_70 ?_
    exact j_ireturn (w32_R _) dX12_text_71
  · refine j_iconst dX12_text_51 ?_
    exact j_ireturn (j_r32 (-1) rfl) dX12_text_52
def f_X12_text (a0 : Int) (S : jSt) : Option (Int × jSt) :=
  fgetr S a0 12 0 (fun v1 => fald S v1 2 1 (fun v2 => if v2 = 4 then some ((-1), S) else fcallv S a0 12 (f_X12_readText a0 S) (fun v3 S4 => fput S4 a0 12 5 v3 (fun S5 => fget S5 a0 12 5 (fun v6 => if v6 = 0 then f_X12_text_b36 a0 a0 (-1) S5 else fget S5 a0 12 8 (fun v7 => f_X12_text_b36 a0 a0 v7 S5))))))
theorem e_X12_text {G : jG} {d : Nat} {S0 : jSt} (hd0 : 13 ≤ d) (a0 : Int) (S : jSt) (h0 : 0 ≤ (a0)) : J G yX12_text cX12_text 1 (some .int) d S0 0 [(0, 2, a0)] [] S (f_X12_text a0 S) := by
  unfold f_X12_text
  refine j_aload_n 0 dX12_text_0 rfl rfl ?_
  refine j_getr (ci := 12) (k := 0) rfl in_X12 (Nat.le_of_ble_eq_true rfl) rfl rfl fl_X12_7 dX12_text_1 (fun (v1 : Int) (hv1 : 0 ≤ v1) => ?_)
  refine j_iconst dX12_text_4 ?_
  refine j_iaload (j_r32 2 rfl) dX12_text_5 (fun (v2 : Int) (hv2 : R32 (v2)) => ?_)
  refine j_iconst dX12_text_6 ?_
  refine j_icmp_ne (tgt := 12) hv2 (j_r32 4 rfl) dX12_text_7 rfl (fun _ => ?_) (fun _ => ?_)
  · refine j_aload_n 0 dX12_text_12 rfl rfl ?_
    refine j_aload_n 0 dX12_text_13 rfl rfl ?_
    refine j_callV (ci := 12) (As := []) (st := [(2, a0)]) kc_X12_readText (c_X12_readText a0 S h0) rfl lm_X12_259 ki_X12_readText ke_X12_readText rfl (Nat.le_of_ble_eq_true rfl) (Nat.le_trans (m := 13) (Nat.le_of_ble_eq_true rfl) hd0) dX12_text_14 (fun (v3 : Int) (S4 : jSt) (hv3 : R32 (v3)) => ?_)
    refine j_puti (ci := 12) (k := 5) (ty0 := tyX12) rfl in_X12 (Nat.le_of_ble_eq_true rfl) rfl tyX12_ok nmX12 rfl rfl (by decide +kernel) hv3 fl_X12_22 dX12_text_17 (fun S5 => ?_)
    refine j_aload_n 0 dX12_text_20 rfl rfl ?_
    refine j_aload_n 0 dX12_text_21 rfl rfl ?_
    refine j_get (ci := 12) (k := 5) (t := 0) rfl in_X12 (Nat.le_of_ble_eq_true rfl) rfl rfl fl_X12_22 dX12_text_22 (fun (v6 : Int) (hv6 : R32 (v6)) => ?_)
    refine j_if_ne (tgt := 32) hv6 dX12_text_25 rfl (fun _ => ?_) (fun _ => ?_)
    · refine j_aload_n 0 dX12_text_32 rfl rfl ?_
      refine j_get (ci := 12) (k := 8) (t := 0) rfl in_X12 (Nat.le_of_ble_eq_true rfl) rfl rfl fl_X12_99 dX12_text_33 (fun (v7 : Int) (hv7 : R32 (v7)) => ?_)
      exact p_f_X12_text_b36 hd0 a0 a0 v7 S5 h0 h0 hv7
    · refine j_iconst dX12_text_28 ?_
      refine j_goto (tgt := 36) dX12_text_29 rfl ?_
      exact p_f_X12_text_b36 hd0 a0 a0 (-1) S5 h0 h0 (j_r32 (-1) rfl)
  · refine j_iconst dX12_text_10 ?_
    exact j_ireturn (j_r32 (-1) rfl) dX12_text_11
theorem c_X12_text {G : jG} (a0 : Int) (S : jSt) (h0 : 0 ≤ (a0)) : CT G yX12_text cX12_text 1 (some .int) 13 ([(2, a0)].map jval) S (f_X12_text a0 S) := ct_of [(2, a0)] (by decide) rfl (Nat.le_of_ble_eq_true rfl) (e_X12_text (Nat.le_refl _) a0 S h0)
-- X12_undo
def f_X12_undo_b250B (r250 : Int → Int → Int → jSt → Option (Int × jSt)) (x0 : Int) (x1 : Int) (x2 : Int) (S : jSt) : Option (Int × jSt) :=
  if 60 ≤ x2 then fgetr S x0 12 0 (fun v13 => fald S v13 4 1 (fun v14 => some (v14, S))) else fgetr S x0 12 0 (fun v15 => fgetr S x0 12 0 (fun v16 => fald S v16 (w32 ((w32 (x1 + 95)) + x2)) 1 (fun v17 => fast S v15 (w32 (4843 + x2)) 1 v17 (fun S18 => flet (w32 (x2 + 1)) (fun v19 => r250 x0 x1 v19 S18)))))
theorem p_f_X12_undo_b250B {G : jG} {d : Nat} {S0 : jSt} (hd0 : 2 ≤ d) {r250 : Int → Int → Int → jSt → Option (Int × jSt)} (k250 : ∀ (x0 : Int) (x1 : Int) (x2 : Int) (S : jSt), (0 ≤ (x0)) → (R32 (x1)) → (R32 (x2)) → J G yX12_undo cX12_undo 4 (some .int) d S0 250 [(0, 2, x0), (1, 0, x1), (2, 0, x2)] [] S (r250 x0 x1 x2 S)) : ∀ (x0 : Int) (x1 : Int) (x2 : Int) (S : jSt), (0 ≤ (x0)) → (R32 (x1)) → (R32 (x2)) → J G yX12_undo cX12_undo 4 (some .int) d S0 250 [(0, 2, x0), (1, 0, x1), (2, 0, x2)] [] S (f_X12_undo_b250B r250 x0 x1 x2 S) := by
  intro x0 x1 x2 S h0 h1 h2
  unfold f_X12_undo_b250B
  refine j_iload_n 2 dX12_undo_250 rfl rfl ?_
  refine j_bipush dX12_undo_251 (by decide) ?_
  refine j_icmp_ge (tgt := 283) h2 (j_r32 60 rfl) dX12_undo_253 rfl (fun _ => ?_) (fun _ => ?_)
  · refine j_aload_n 0 dX12_undo_283 rfl rfl ?_
    refine j_getr (ci := 12) (k := 0) rfl in_X12 (Nat.le_of_ble_eq_true rfl) rfl rfl fl_X12_7 dX12_undo_284 (fun (v13 : Int) (hv13 : 0 ≤ v13) => ?_)
    refine j_iconst dX12_undo_287 ?_
    refine j_iaload (j_r32 4 rfl) dX12_undo_288 (fun (v14 : Int) (hv14 : R32 (v14)) => ?_)
    exact j_ireturn hv14 dX12_undo_289
  · refine j_aload_n 0 dX12_undo_256 rfl rfl ?_
    refine j_getr (ci := 12) (k := 0) rfl in_X12 (Nat.le_of_ble_eq_true rfl) rfl rfl fl_X12_7 dX12_undo_257 (fun (v15 : Int) (hv15 : 0 ≤ v15) => ?_)
    refine j_sipush dX12_undo_260 (by decide) ?_
    refine j_iload_n 2 dX12_undo_263 rfl rfl ?_
    refine j_iadd dX12_undo_264 ?_
    refine j_aload_n 0 dX12_undo_265 rfl rfl ?_
    refine j_getr (ci := 12) (k := 0) rfl in_X12 (Nat.le_of_ble_eq_true rfl) rfl rfl fl_X12_7 dX12_undo_266 (fun (v16 : Int) (hv16 : 0 ≤ v16) => ?_)
    refine j_iload_n 1 dX12_undo_269 rfl rfl ?_
    refine j_bipush dX12_undo_270 (by decide) ?_
    refine j_iadd dX12_undo_272 ?_
    refine j_iload_n 2 dX12_undo_273 rfl rfl ?_
    refine j_iadd dX12_undo_274 ?_
    refine j_iaload (w32_R _) dX12_undo_275 (fun (v17 : Int) (hv17 : R32 (v17)) => ?_)
    refine j_iastore (w32_R _) hv17 dX12_undo_276 (fun S18 => ?_)
    refine j_iincL (q := 2) dX12_undo_277 rfl (Nat.le_of_ble_eq_true rfl) (fun v19 hv19 => ?_)
    refine j_lv (lv' := [(2, 0, v19), (0, 2, x0), (1, 0, x1)]) rfl ?_
    refine j_goto (tgt := 250) dX12_undo_280 rfl ?_
    refine j_sub [1, 2, 0] rfl ?_
    exact k250 x0 x1 v19 S18 h0 h1 hv19
def f_X12_undo_b250 : Int → Int → Int → jSt → Option (Int × jSt) := jrep (β := Int → Int → Int → jSt → Option (Int × jSt)) (fun _ _ _ _ => none) (fun r => f_X12_undo_b250B r) jN
theorem p_f_X12_undo_b250 {G : jG} {d : Nat} {S0 : jSt} (hd0 : 2 ≤ d) : ∀ (x0 : Int) (x1 : Int) (x2 : Int) (S : jSt), (0 ≤ (x0)) → (R32 (x1)) → (R32 (x2)) → J G yX12_undo cX12_undo 4 (some .int) d S0 250 [(0, 2, x0), (1, 0, x1), (2, 0, x2)] [] S (f_X12_undo_b250  x0 x1 x2 S) :=
  jrep_ind (P := fun (r : Int → Int → Int → jSt → Option (Int × jSt)) => ∀ (x0 : Int) (x1 : Int) (x2 : Int) (S : jSt), (0 ≤ (x0)) → (R32 (x1)) → (R32 (x2)) → J G yX12_undo cX12_undo 4 (some .int) d S0 250 [(0, 2, x0), (1, 0, x1), (2, 0, x2)] [] S (r x0 x1 x2 S)) (by intros; exact j_none) (fun r k => p_f_X12_undo_b250B hd0 k) jN
def f_X12_undo_b242 (r159 : Int → Int → Int → jSt → Option (Int × jSt)) (x0 : Int) (x1 : Int) (x2 : Int) (S : jSt) : Option (Int × jSt) :=
  flet (w32 (x2 + 1)) (fun v22 => r159 x0 x1 v22 S)
theorem p_f_X12_undo_b242 {G : jG} {d : Nat} {S0 : jSt} (hd0 : 2 ≤ d) {r159 : Int → Int → Int → jSt → Option (Int × jSt)} (k159 : ∀ (x0 : Int) (x1 : Int) (x2 : Int) (S : jSt), (0 ≤ (x0)) → (R32 (x1)) → (R32 (x2)) → J G yX12_undo cX12_undo 4 (some .int) d S0 159 [(0, 2, x0), (1, 0, x1), (2, 0, x2)] [] S (r159 x0 x1 x2 S)) : ∀ (x0 : Int) (x1 : Int) (x2 : Int) (S : jSt), (0 ≤ (x0)) → (R32 (x1)) → (R32 (x2)) → J G yX12_undo cX12_undo 4 (some .int) d S0 242 [(0, 2, x0), (1, 0, x1), (2, 0, x2)] [] S (f_X12_undo_b242 r159 x0 x1 x2 S) := by
  intro x0 x1 x2 S h0 h1 h2
  unfold f_X12_undo_b242
  refine j_iincL (q := 2) dX12_undo_242 rfl (Nat.le_of_ble_eq_true rfl) (fun v22 hv22 => ?_)
  refine j_lv (lv' := [(2, 0, v22), (0, 2, x0), (1, 0, x1)]) rfl ?_
  refine j_goto (tgt := 159) dX12_undo_245 rfl ?_
  refine j_sub [1, 2, 0] rfl ?_
  exact k159 x0 x1 v22 S h0 h1 hv22
def f_X12_undo_b196B (r159 : Int → Int → Int → jSt → Option (Int × jSt)) (r196 : Int → Int → Int → Int → jSt → Option (Int × jSt)) (x0 : Int) (x1 : Int) (x2 : Int) (x3 : Int) (S : jSt) : Option (Int × jSt) :=
  if 13 ≤ x3 then f_X12_undo_b242 r159 x0 x1 x2 S else fgetr S x0 12 0 (fun v23 => fald S v23 (w32 (x1 + 1)) 1 (fun v24 => if v24 ≤ x2 then f_X12_undo_b242 r159 x0 x1 x2 S else fgetr S x0 12 0 (fun v25 => fald S v25 (w32 ((w32 ((w32 (x1 + 30)) + (w32 (13 * x2)))) + x3)) 1 (fun v26 => fcallv S x0 12 (f_X12_lay x0 x2 x3 v26 S) (fun v27 S28 => flet (w32 (x3 + 1)) (fun v29 => r196 x0 x1 x2 v29 S28))))))
theorem p_f_X12_undo_b196B {G : jG} {d : Nat} {S0 : jSt} (hd0 : 2 ≤ d) {r159 : Int → Int → Int → jSt → Option (Int × jSt)} (k159 : ∀ (x0 : Int) (x1 : Int) (x2 : Int) (S : jSt), (0 ≤ (x0)) → (R32 (x1)) → (R32 (x2)) → J G yX12_undo cX12_undo 4 (some .int) d S0 159 [(0, 2, x0), (1, 0, x1), (2, 0, x2)] [] S (r159 x0 x1 x2 S)) {r196 : Int → Int → Int → Int → jSt → Option (Int × jSt)} (k196 : ∀ (x0 : Int) (x1 : Int) (x2 : Int) (x3 : Int) (S : jSt), (0 ≤ (x0)) → (R32 (x1)) → (R32 (x2)) → (R32 (x3)) → J G yX12_undo cX12_undo 4 (some .int) d S0 196 [(0, 2, x0), (1, 0, x1), (2, 0, x2), (3, 0, x3)] [] S (r196 x0 x1 x2 x3 S)) : ∀ (x0 : Int) (x1 : Int) (x2 : Int) (x3 : Int) (S : jSt), (0 ≤ (x0)) → (R32 (x1)) → (R32 (x2)) → (R32 (x3)) → J G yX12_undo cX12_undo 4 (some .int) d S0 196 [(0, 2, x0), (1, 0, x1), (2, 0, x2), (3, 0, x3)] [] S (f_X12_undo_b196B r159 r196 x0 x1 x2 x3 S) := by
  intro x0 x1 x2 x3 S h0 h1 h2 h3
  unfold f_X12_undo_b196B
  refine j_iload_n 3 dX12_undo_196 rfl rfl ?_
  refine j_bipush dX12_undo_197 (by decide) ?_
  refine j_icmp_ge (tgt := 242) h3 (j_r32 13 rfl) dX12_undo_199 rfl (fun _ => ?_) (fun _ => ?_)
  · refine j_sub [0, 1, 2] rfl ?_
    exact p_f_X12_undo_b242 hd0 k159 x0 x1 x2 S h0 h1 h2
  · refine j_iload_n 2 dX12_undo_202 rfl rfl ?_
    refine j_aload_n 0 dX12_undo_203 rfl rfl ?_
    refine j_getr (ci := 12) (k := 0) rfl in_X12 (Nat.le_of_ble_eq_true rfl) rfl rfl fl_X12_7 dX12_undo_204 (fun (v23 : Int) (hv23 : 0 ≤ v23) => ?_)
    refine j_iload_n 1 dX12_undo_207 rfl rfl ?_
    refine j_iconst dX12_undo_208 ?_
    refine j_iadd dX12_undo_209 ?_
    refine j_iaload (w32_R _) dX12_undo_210 (fun (v24 : Int) (hv24 : R32 (v24)) => ?_)
    refine j_icmp_ge (tgt := 242) h2 hv24 dX12_undo_211 rfl (fun _ => ?_) (fun _ => ?_)
    · refine j_sub [0, 1, 2] rfl ?_
      exact p_f_X12_undo_b242 hd0 k159 x0 x1 x2 S h0 h1 h2
    · refine j_aload_n 0 dX12_undo_214 rfl rfl ?_
      refine j_iload_n 2 dX12_undo_215 rfl rfl ?_
      refine j_iload_n 3 dX12_undo_216 rfl rfl ?_
      refine j_aload_n 0 dX12_undo_217 rfl rfl ?_
      refine j_getr (ci := 12) (k := 0) rfl in_X12 (Nat.le_of_ble_eq_true rfl) rfl rfl fl_X12_7 dX12_undo_218 (fun (v25 : Int) (hv25 : 0 ≤ v25) => ?_)
      refine j_iload_n 1 dX12_undo_221 rfl rfl ?_
      refine j_bipush dX12_undo_222 (by decide) ?_
      refine j_iadd dX12_undo_224 ?_
      refine j_bipush dX12_undo_225 (by decide) ?_
      refine j_iload_n 2 dX12_undo_227 rfl rfl ?_
      refine j_imul dX12_undo_228 ?_
      refine j_iadd dX12_undo_229 ?_
      refine j_iload_n 3 dX12_undo_230 rfl rfl ?_
      refine j_iadd dX12_undo_231 ?_
      refine j_iaload (w32_R _) dX12_undo_232 (fun (v26 : Int) (hv26 : R32 (v26)) => ?_)
      refine j_callV (ci := 12) (As := [(0, x2), (0, x3), (0, v26)]) (st := []) kc_X12_lay (c_X12_lay x0 x2 x3 v26 S h0 h2 h3 hv26) rfl lm_X12_79 ki_X12_lay ke_X12_lay rfl (Nat.le_of_ble_eq_true rfl) (Nat.le_trans (m := 2) (Nat.le_of_ble_eq_true rfl) hd0) dX12_undo_233 (fun v27 S28 _ => ?_)
      refine j_iincL (q := 3) dX12_undo_236 rfl (Nat.le_of_ble_eq_true rfl) (fun v29 hv29 => ?_)
      refine j_lv (lv' := [(3, 0, v29), (0, 2, x0), (1, 0, x1), (2, 0, x2)]) rfl ?_
      refine j_goto (tgt := 196) dX12_undo_239 rfl ?_
      refine j_sub [1, 2, 3, 0] rfl ?_
      exact k196 x0 x1 x2 v29 S28 h0 h1 h2 hv29
def f_X12_undo_b196 (r159 : Int → Int → Int → jSt → Option (Int × jSt)) : Int → Int → Int → Int → jSt → Option (Int × jSt) := jrep (β := Int → Int → Int → Int → jSt → Option (Int × jSt)) (fun _ _ _ _ _ => none) (fun r => f_X12_undo_b196B r159 r) jN
theorem p_f_X12_undo_b196 {G : jG} {d : Nat} {S0 : jSt} (hd0 : 2 ≤ d) {r159 : Int → Int → Int → jSt → Option (Int × jSt)} (k159 : ∀ (x0 : Int) (x1 : Int) (x2 : Int) (S : jSt), (0 ≤ (x0)) → (R32 (x1)) → (R32 (x2)) → J G yX12_undo cX12_undo 4 (some .int) d S0 159 [(0, 2, x0), (1, 0, x1), (2, 0, x2)] [] S (r159 x0 x1 x2 S)) : ∀ (x0 : Int) (x1 : Int) (x2 : Int) (x3 : Int) (S : jSt), (0 ≤ (x0)) → (R32 (x1)) → (R32 (x2)) → (R32 (x3)) → J G yX12_undo cX12_undo 4 (some .int) d S0 196 [(0, 2, x0), (1, 0, x1), (2, 0, x2), (3, 0, x3)] [] S (f_X12_undo_b196 r159 x0 x1 x2 x3 S) :=
  jrep_ind (P := fun (r : Int → Int → Int → Int → jSt → Option (Int × jSt)) => ∀ (x0 : Int) (x1 : Int) (x2 : Int) (x3 : Int) (S : jSt), (0 ≤ (x0)) → (R32 (x1)) → (R32 (x2)) → (R32 (x3)) → J G yX12_undo cX12_undo 4 (some .int) d S0 196 [(0, 2, x0), (1, 0, x1), (2, 0, x2), (3, 0, x3)] [] S (r x0 x1 x2 x3 S)) (by intros; exact j_none) (fun r k => p_f_X12_undo_b196B hd0 k159 k) jN
def f_X12_undo_b194 (r159 : Int → Int → Int → jSt → Option (Int × jSt)) (x0 : Int) (x1 : Int) (x2 : Int) (S : jSt) : Option (Int × jSt) :=
  f_X12_undo_b196 r159 x0 x1 x2 0 S
theorem p_f_X12_undo_b194 {G : jG} {d : Nat} {S0 : jSt} (hd0 : 2 ≤ d) {r159 : Int → Int → Int → jSt → Option (Int × jSt)} (k159 : ∀ (x0 : Int) (x1 : Int) (x2 : Int) (S : jSt), (0 ≤ (x0)) → (R32 (x1)) → (R32 (x2)) → J G yX12_undo cX12_undo 4 (some .int) d S0 159 [(0, 2, x0), (1, 0, x1), (2, 0, x2)] [] S (r159 x0 x1 x2 S)) : ∀ (x0 : Int) (x1 : Int) (x2 : Int) (S : jSt), (0 ≤ (x0)) → (R32 (x1)) → (R32 (x2)) → J G yX12_undo cX12_undo 4 (some .int) d S0 194 [(0, 2, x0), (1, 0, x1), (2, 0, x2)] [] S (f_X12_undo_b194 r159 x0 x1 x2 S) := by
  intro x0 x1 x2 S h0 h1 h2
  unfold f_X12_undo_b194
  refine j_iconst dX12_undo_194 ?_
  refine j_istore_n (lv' := [(3, 0, 0), (0, 2, x0), (1, 0, x1), (2, 0, x2)]) dX12_undo_195 rfl (Nat.le_of_ble_eq_true rfl) rfl ?_
  refine j_sub [1, 2, 3, 0] rfl ?_
  exact p_f_X12_undo_b196 hd0 k159 x0 x1 x2 0 S h0 h1 h2 (jZ_R jz0)
def f_X12_undo_b159B (r159 : Int → Int → Int → jSt → Option (Int × jSt)) (x0 : Int) (x1 : Int) (x2 : Int) (S : jSt) : Option (Int × jSt) :=
  fgetr S x0 12 0 (fun v11 => fald S v11 1 1 (fun v12 => if v12 ≤ x2 then f_X12_undo_b250 x0 x1 0 S else fgetr S x0 12 0 (fun v20 => fald S v20 (w32 (x1 + 1)) 1 (fun v21 => if x2 < v21 then f_X12_undo_b194 r159 x0 x1 x2 S else fcallv S x0 12 (f_X12_own x0 x2 13 S) (fun v30 S31 => fcallv S31 x0 12 (f_X12_lay x0 x2 0 v30 S31) (fun v32 S33 => f_X12_undo_b194 r159 x0 x1 x2 S33))))))
theorem p_f_X12_undo_b159B {G : jG} {d : Nat} {S0 : jSt} (hd0 : 2 ≤ d) {r159 : Int → Int → Int → jSt → Option (Int × jSt)} (k159 : ∀ (x0 : Int) (x1 : Int) (x2 : Int) (S : jSt), (0 ≤ (x0)) → (R32 (x1)) → (R32 (x2)) → J G yX12_undo cX12_undo 4 (some .int) d S0 159 [(0, 2, x0), (1, 0, x1), (2, 0, x2)] [] S (r159 x0 x1 x2 S)) : ∀ (x0 : Int) (x1 : Int) (x2 : Int) (S : jSt), (0 ≤ (x0)) → (R32 (x1)) → (R32 (x2)) → J G yX12_undo cX12_undo 4 (some .int) d S0 159 [(0, 2, x0), (1, 0, x1), (2, 0, x2)] [] S (f_X12_undo_b159B r159 x0 x1 x2 S) := by
  intro x0 x1 x2 S h0 h1 h2
  unfold f_X12_undo_b159B
  refine j_iload_n 2 dX12_undo_159 rfl rfl ?_
  refine j_aload_n 0 dX12_undo_160 rfl rfl ?_
  refine j_getr (ci := 12) (k := 0) rfl in_X12 (Nat.le_of_ble_eq_true rfl) rfl rfl fl_X12_7 dX12_undo_161 (fun (v11 : Int) (hv11 : 0 ≤ v11) => ?_)
  refine j_iconst dX12_undo_164 ?_
  refine j_iaload (jZ_R jz1) dX12_undo_165 (fun (v12 : Int) (hv12 : R32 (v12)) => ?_)
  refine j_icmp_ge (tgt := 248) h2 hv12 dX12_undo_166 rfl (fun _ => ?_) (fun _ => ?_)
  · refine j_iconst dX12_undo_248 ?_
    refine j_istore_n (lv' := [(2, 0, 0), (0, 2, x0), (1, 0, x1)]) dX12_undo_249 rfl (Nat.le_of_ble_eq_true rfl) rfl ?_
    refine j_sub [1, 2, 0] rfl ?_
    exact p_f_X12_undo_b250 hd0 x0 x1 0 S h0 h1 (jZ_R jz0)
  · refine j_iload_n 2 dX12_undo_169 rfl rfl ?_
    refine j_aload_n 0 dX12_undo_170 rfl rfl ?_
    refine j_getr (ci := 12) (k := 0) rfl in_X12 (Nat.le_of_ble_eq_true rfl) rfl rfl fl_X12_7 dX12_undo_171 (fun (v20 : Int) (hv20 : 0 ≤ v20) => ?_)
    refine j_iload_n 1 dX12_undo_174 rfl rfl ?_
    refine j_iconst dX12_undo_175 ?_
    refine j_iadd dX12_undo_176 ?_
    refine j_iaload (w32_R _) dX12_undo_177 (fun (v21 : Int) (hv21 : R32 (v21)) => ?_)
    refine j_icmp_lt (tgt := 194) h2 hv21 dX12_undo_178 rfl (fun _ => ?_) (fun _ => ?_)
    · exact p_f_X12_undo_b194 hd0 k159 x0 x1 x2 S h0 h1 h2
    · refine j_aload_n 0 dX12_undo_181 rfl rfl ?_
      refine j_iload_n 2 dX12_undo_182 rfl rfl ?_
      refine j_iconst dX12_undo_183 ?_
      refine j_aload_n 0 dX12_undo_184 rfl rfl ?_
      refine j_iload_n 2 dX12_undo_185 rfl rfl ?_
      refine j_bipush dX12_undo_186 (by decide) ?_
      refine j_callV (ci := 12) (As := [(0, x2), (0, 13)]) (st := [(0, 0), (0, x2), (2, x0)]) kc_X12_own (c_X12_own x0 x2 13 S h0 h2 (j_r32 13 rfl)) rfl lm_X12_299 ki_X12_own ke_X12_own rfl (Nat.le_of_ble_eq_true rfl) (Nat.le_trans (m := 2) (Nat.le_of_ble_eq_true rfl) hd0) dX12_undo_188 (fun (v30 : Int) (S31 : jSt) (hv30 : R32 (v30)) => ?_)
      refine j_callV (ci := 12) (As := [(0, x2), (0, 0), (0, v30)]) (st := []) kc_X12_lay (c_X12_lay x0 x2 0 v30 S31 h0 h2 (jZ_R jz0) hv30) rfl lm_X12_79 ki_X12_lay ke_X12_lay rfl (Nat.le_of_ble_eq_true rfl) (Nat.le_trans (m := 2) (Nat.le_of_ble_eq_true rfl) hd0) dX12_undo_191 (fun v32 S33 _ => ?_)
      exact p_f_X12_undo_b194 hd0 k159 x0 x1 x2 S33 h0 h1 h2
def f_X12_undo_b159 : Int → Int → Int → jSt → Option (Int × jSt) := jrep (β := Int → Int → Int → jSt → Option (Int × jSt)) (fun _ _ _ _ => none) (fun r => f_X12_undo_b159B r) jN
theorem p_f_X12_undo_b159 {G : jG} {d : Nat} {S0 : jSt} (hd0 : 2 ≤ d) : ∀ (x0 : Int) (x1 : Int) (x2 : Int) (S : jSt), (0 ≤ (x0)) → (R32 (x1)) → (R32 (x2)) → J G yX12_undo cX12_undo 4 (some .int) d S0 159 [(0, 2, x0), (1, 0, x1), (2, 0, x2)] [] S (f_X12_undo_b159  x0 x1 x2 S) :=
  jrep_ind (P := fun (r : Int → Int → Int → jSt → Option (Int × jSt)) => ∀ (x0 : Int) (x1 : Int) (x2 : Int) (S : jSt), (0 ≤ (x0)) → (R32 (x1)) → (R32 (x2)) → J G yX12_undo cX12_undo 4 (some .int) d S0 159 [(0, 2, x0), (1, 0, x1), (2, 0, x2)] [] S (r x0 x1 x2 S)) (by intros; exact j_none) (fun r k => p_f_X12_undo_b159B hd0 k) jN
def f_X12_undo_b148 (r70 : Int → Int → Int → jSt → Option (Int × jSt)) (x0 : Int) (x1 : Int) (x2 : Int) (x3 : Int) (x4 : Int) (x5 : Int) (x6 : Int) (S : jSt) : Option (Int × jSt) :=
  fcallv S x3 12 (f_X12_put x3 x4 x5 x6 S) (fun v42 S43 => flet (w32 (x2 + 1)) (fun v44 => r70 x0 x1 v44 S43))
theorem p_f_X12_undo_b148 {G : jG} {d : Nat} {S0 : jSt} (hd0 : 2 ≤ d) {r70 : Int → Int → Int → jSt → Option (Int × jSt)} (k70 : ∀ (x0 : Int) (x1 : Int) (x2 : Int) (S : jSt), (0 ≤ (x0)) → (R32 (x1)) → (R32 (x2)) → J G yX12_undo cX12_undo 4 (some .int) d S0 70 [(0, 2, x0), (1, 0, x1), (2, 0, x2)] [] S (r70 x0 x1 x2 S)) : ∀ (x0 : Int) (x1 : Int) (x2 : Int) (x3 : Int) (x4 : Int) (x5 : Int) (x6 : Int) (S : jSt), (0 ≤ (x0)) → (R32 (x1)) → (R32 (x2)) → (0 ≤ (x3)) → (R32 (x4)) → ((x5) = 0 ∨ (x5) = 1) → (R32 (x6)) → J G yX12_undo cX12_undo 4 (some .int) d S0 148 [(0, 2, x0), (1, 0, x1), (2, 0, x2)] [(0, x6), (0, x5), (0, x4), (2, x3)] S (f_X12_undo_b148 r70 x0 x1 x2 x3 x4 x5 x6 S) := by
  intro x0 x1 x2 x3 x4 x5 x6 S h0 h1 h2 h3 h4 h5 h6
  unfold f_X12_undo_b148
  refine j_callV (ci := 12) (As := [(0, x4), (0, x5), (0, x6)]) (st := []) kc_X12_put (c_X12_put x3 x4 x5 x6 S h3 h4 (jZ_R h5) h6) rfl lm_X12_75 ki_X12_put ke_X12_put rfl (Nat.le_of_ble_eq_true rfl) (Nat.le_trans (m := 2) (Nat.le_of_ble_eq_true rfl) hd0) dX12_undo_148 (fun v42 S43 _ => ?_)
  refine j_iincL (q := 2) dX12_undo_151 rfl (Nat.le_of_ble_eq_true rfl) (fun v44 hv44 => ?_)
  refine j_lv (lv' := [(2, 0, v44), (0, 2, x0), (1, 0, x1)]) rfl ?_
  refine j_goto (tgt := 70) dX12_undo_154 rfl ?_
  refine j_sub [1, 2, 0] rfl ?_
  exact k70 x0 x1 v44 S43 h0 h1 hv44
def f_X12_undo_b115 (r70 : Int → Int → Int → jSt → Option (Int × jSt)) (x0 : Int) (x1 : Int) (x2 : Int) (x3 : Int) (x4 : Int) (x5 : Int) (x6 : Int) (S : jSt) : Option (Int × jSt) :=
  fcallv S x3 12 (f_X12_put x3 x4 x5 x6 S) (fun v38 S39 => fgetr S39 x0 12 0 (fun v40 => fald S39 v40 x1 1 (fun v41 => if v41 ≤ x2 then f_X12_undo_b148 r70 x0 x1 x2 x0 x2 1 0 S39 else fgetr S39 x0 12 0 (fun v45 => fald S39 v45 (w32 ((w32 (x1 + 7)) + (w32 (2 * x2)))) 1 (fun v46 => f_X12_undo_b148 r70 x0 x1 x2 x0 x2 1 v46 S39)))))
theorem p_f_X12_undo_b115 {G : jG} {d : Nat} {S0 : jSt} (hd0 : 2 ≤ d) {r70 : Int → Int → Int → jSt → Option (Int × jSt)} (k70 : ∀ (x0 : Int) (x1 : Int) (x2 : Int) (S : jSt), (0 ≤ (x0)) → (R32 (x1)) → (R32 (x2)) → J G yX12_undo cX12_undo 4 (some .int) d S0 70 [(0, 2, x0), (1, 0, x1), (2, 0, x2)] [] S (r70 x0 x1 x2 S)) : ∀ (x0 : Int) (x1 : Int) (x2 : Int) (x3 : Int) (x4 : Int) (x5 : Int) (x6 : Int) (S : jSt), (0 ≤ (x0)) → (R32 (x1)) → (R32 (x2)) → (0 ≤ (x3)) → (R32 (x4)) → ((x5) = 0 ∨ (x5) = 1) → (R32 (x6)) → J G yX12_undo cX12_undo 4 (some .int) d S0 115 [(0, 2, x0), (1, 0, x1), (2, 0, x2)] [(0, x6), (0, x5), (0, x4), (2, x3)] S (f_X12_undo_b115 r70 x0 x1 x2 x3 x4 x5 x6 S) := by
  intro x0 x1 x2 x3 x4 x5 x6 S h0 h1 h2 h3 h4 h5 h6
  unfold f_X12_undo_b115
  refine j_callV (ci := 12) (As := [(0, x4), (0, x5), (0, x6)]) (st := []) kc_X12_put (c_X12_put x3 x4 x5 x6 S h3 h4 (jZ_R h5) h6) rfl lm_X12_75 ki_X12_put ke_X12_put rfl (Nat.le_of_ble_eq_true rfl) (Nat.le_trans (m := 2) (Nat.le_of_ble_eq_true rfl) hd0) dX12_undo_115 (fun v38 S39 _ => ?_)
  refine j_aload_n 0 dX12_undo_118 rfl rfl ?_
  refine j_iload_n 2 dX12_undo_119 rfl rfl ?_
  refine j_iconst dX12_undo_120 ?_
  refine j_iload_n 2 dX12_undo_121 rfl rfl ?_
  refine j_aload_n 0 dX12_undo_122 rfl rfl ?_
  refine j_getr (ci := 12) (k := 0) rfl in_X12 (Nat.le_of_ble_eq_true rfl) rfl rfl fl_X12_7 dX12_undo_123 (fun (v40 : Int) (hv40 : 0 ≤ v40) => ?_)
  refine j_iload_n 1 dX12_undo_126 rfl rfl ?_
  refine j_iaload h1 dX12_undo_127 (fun (v41 : Int) (hv41 : R32 (v41)) => ?_)
  refine j_icmp_ge (tgt := 147) h2 hv41 dX12_undo_128 rfl (fun _ => ?_) (fun _ => ?_)
  · refine j_iconst dX12_undo_147 ?_
    exact p_f_X12_undo_b148 hd0 k70 x0 x1 x2 x0 x2 1 0 S39 h0 h1 h2 h0 h2 jz1 (jZ_R jz0)
  · refine j_aload_n 0 dX12_undo_131 rfl rfl ?_
    refine j_getr (ci := 12) (k := 0) rfl in_X12 (Nat.le_of_ble_eq_true rfl) rfl rfl fl_X12_7 dX12_undo_132 (fun (v45 : Int) (hv45 : 0 ≤ v45) => ?_)
    refine j_iload_n 1 dX12_undo_135 rfl rfl ?_
    refine j_bipush dX12_undo_136 (by decide) ?_
    refine j_iadd dX12_undo_138 ?_
    refine j_iconst dX12_undo_139 ?_
    refine j_iload_n 2 dX12_undo_140 rfl rfl ?_
    refine j_imul dX12_undo_141 ?_
    refine j_iadd dX12_undo_142 ?_
    refine j_iaload (w32_R _) dX12_undo_143 (fun (v46 : Int) (hv46 : R32 (v46)) => ?_)
    refine j_goto (tgt := 148) dX12_undo_144 rfl ?_
    exact p_f_X12_undo_b148 hd0 k70 x0 x1 x2 x0 x2 1 v46 S39 h0 h1 h2 h0 h2 jz1 hv46
def f_X12_undo_b70B (r70 : Int → Int → Int → jSt → Option (Int × jSt)) (x0 : Int) (x1 : Int) (x2 : Int) (S : jSt) : Option (Int × jSt) :=
  fgetr S x0 12 0 (fun v9 => fald S v9 0 1 (fun v10 => if v10 ≤ x2 then f_X12_undo_b159 x0 x1 0 S else fgetr S x0 12 0 (fun v34 => fald S v34 x1 1 (fun v35 => if v35 ≤ x2 then fcallv S x0 12 (f_X12_get x0 x2 4 S) (fun v36 S37 => f_X12_undo_b115 r70 x0 x1 x2 x0 x2 0 v36 S37) else fgetr S x0 12 0 (fun v47 => fald S v47 (w32 ((w32 (x1 + 6)) + (w32 (2 * x2)))) 1 (fun v48 => f_X12_undo_b115 r70 x0 x1 x2 x0 x2 0 v48 S))))))
theorem p_f_X12_undo_b70B {G : jG} {d : Nat} {S0 : jSt} (hd0 : 2 ≤ d) {r70 : Int → Int → Int → jSt → Option (Int × jSt)} (k70 : ∀ (x0 : Int) (x1 : Int) (x2 : Int) (S : jSt), (0 ≤ (x0)) → (R32 (x1)) → (R32 (x2)) → J G yX12_undo cX12_undo 4 (some .int) d S0 70 [(0, 2, x0), (1, 0, x1), (2, 0, x2)] [] S (r70 x0 x1 x2 S)) : ∀ (x0 : Int) (x1 : Int) (x2 : Int) (S : jSt), (0 ≤ (x0)) → (R32 (x1)) → (R32 (x2)) → J G yX12_undo cX12_undo 4 (some .int) d S0 70 [(0, 2, x0), (1, 0, x1), (2, 0, x2)] [] S (f_X12_undo_b70B r70 x0 x1 x2 S) := by
  intro x0 x1 x2 S h0 h1 h2
  unfold f_X12_undo_b70B
  refine j_iload_n 2 dX12_undo_70 rfl rfl ?_
  refine j_aload_n 0 dX12_undo_71 rfl rfl ?_
  refine j_getr (ci := 12) (k := 0) rfl in_X12 (Nat.le_of_ble_eq_true rfl) rfl rfl fl_X12_7 dX12_undo_72 (fun (v9 : Int) (hv9 : 0 ≤ v9) => ?_)
  refine j_iconst dX12_undo_75 ?_
  refine j_iaload (jZ_R jz0) dX12_undo_76 (fun (v10 : Int) (hv10 : R32 (v10)) => ?_)
  refine j_icmp_ge (tgt := 157) h2 hv10 dX12_undo_77 rfl (fun _ => ?_) (fun _ => ?_)
  · refine j_iconst dX12_undo_157 ?_
    refine j_istore_n (lv' := [(2, 0, 0), (0, 2, x0), (1, 0, x1)]) dX12_undo_158 rfl (Nat.le_of_ble_eq_true rfl) rfl ?_
    refine j_sub [1, 2, 0] rfl ?_
    exact p_f_X12_undo_b159 hd0 x0 x1 0 S h0 h1 (jZ_R jz0)
  · refine j_aload_n 0 dX12_undo_80 rfl rfl ?_
    refine j_iload_n 2 dX12_undo_81 rfl rfl ?_
    refine j_iconst dX12_undo_82 ?_
    refine j_iload_n 2 dX12_undo_83 rfl rfl ?_
    refine j_aload_n 0 dX12_undo_84 rfl rfl ?_
    refine j_getr (ci := 12) (k := 0) rfl in_X12 (Nat.le_of_ble_eq_true rfl) rfl rfl fl_X12_7 dX12_undo_85 (fun (v34 : Int) (hv34 : 0 ≤ v34) => ?_)
    refine j_iload_n 1 dX12_undo_88 rfl rfl ?_
    refine j_iaload h1 dX12_undo_89 (fun (v35 : Int) (hv35 : R32 (v35)) => ?_)
    refine j_icmp_ge (tgt := 109) h2 hv35 dX12_undo_90 rfl (fun _ => ?_) (fun _ => ?_)
    · refine j_aload_n 0 dX12_undo_109 rfl rfl ?_
      refine j_iload_n 2 dX12_undo_110 rfl rfl ?_
      refine j_iconst dX12_undo_111 ?_
      refine j_callV (ci := 12) (As := [(0, x2), (0, 4)]) (st := [(0, 0), (0, x2), (2, x0)]) kc_X12_get (c_X12_get x0 x2 4 S h0 h2 (j_r32 4 rfl)) rfl lm_X12_68 ki_X12_get ke_X12_get rfl (Nat.le_of_ble_eq_true rfl) (Nat.le_trans (m := 2) (Nat.le_of_ble_eq_true rfl) hd0) dX12_undo_112 (fun (v36 : Int) (S37 : jSt) (hv36 : R32 (v36)) => ?_)
      exact p_f_X12_undo_b115 hd0 k70 x0 x1 x2 x0 x2 0 v36 S37 h0 h1 h2 h0 h2 jz0 hv36
    · refine j_aload_n 0 dX12_undo_93 rfl rfl ?_
      refine j_getr (ci := 12) (k := 0) rfl in_X12 (Nat.le_of_ble_eq_true rfl) rfl rfl fl_X12_7 dX12_undo_94 (fun (v47 : Int) (hv47 : 0 ≤ v47) => ?_)
      refine j_iload_n 1 dX12_undo_97 rfl rfl ?_
      refine j_bipush dX12_undo_98 (by decide) ?_
      refine j_iadd dX12_undo_100 ?_
      refine j_iconst dX12_undo_101 ?_
      refine j_iload_n 2 dX12_undo_102 rfl rfl ?_
      refine j_imul dX12_undo_103 ?_
      refine j_iadd dX12_undo_104 ?_
      refine j_iaload (w32_R _) dX12_undo_105 (fun (v48 : Int) (hv48 : R32 (v48)) => ?_)
      refine j_goto (tgt := 115) dX12_undo_106 rfl ?_
      exact p_f_X12_undo_b115 hd0 k70 x0 x1 x2 x0 x2 0 v48 S h0 h1 h2 h0 h2 jz0 hv48
def f_X12_undo_b70 : Int → Int → Int → jSt → Option (Int × jSt) := jrep (β := Int → Int → Int → jSt → Option (Int × jSt)) (fun _ _ _ _ => none) (fun r => f_X12_undo_b70B r) jN
theorem p_f_X12_undo_b70 {G : jG} {d : Nat} {S0 : jSt} (hd0 : 2 ≤ d) : ∀ (x0 : Int) (x1 : Int) (x2 : Int) (S : jSt), (0 ≤ (x0)) → (R32 (x1)) → (R32 (x2)) → J G yX12_undo cX12_undo 4 (some .int) d S0 70 [(0, 2, x0), (1, 0, x1), (2, 0, x2)] [] S (f_X12_undo_b70  x0 x1 x2 S) :=
  jrep_ind (P := fun (r : Int → Int → Int → jSt → Option (Int × jSt)) => ∀ (x0 : Int) (x1 : Int) (x2 : Int) (S : jSt), (0 ≤ (x0)) → (R32 (x1)) → (R32 (x2)) → J G yX12_undo cX12_undo 4 (some .int) d S0 70 [(0, 2, x0), (1, 0, x1), (2, 0, x2)] [] S (r x0 x1 x2 S)) (by intros; exact j_none) (fun r k => p_f_X12_undo_b70B hd0 k) jN
def f_X12_undo_b38B (r38 : Int → Int → Int → jSt → Option (Int × jSt)) (x0 : Int) (x1 : Int) (x2 : Int) (S : jSt) : Option (Int × jSt) :=
  if 4 ≤ x2 then f_X12_undo_b70 x0 x1 0 S else fgetr S x0 12 0 (fun v49 => fgetr S x0 12 0 (fun v50 => fald S v50 (w32 ((w32 (x1 + 2)) + x2)) 1 (fun v51 => fast S v49 (w32 (7 + x2)) 1 v51 (fun S52 => flet (w32 (x2 + 1)) (fun v53 => r38 x0 x1 v53 S52)))))
theorem p_f_X12_undo_b38B {G : jG} {d : Nat} {S0 : jSt} (hd0 : 2 ≤ d) {r38 : Int → Int → Int → jSt → Option (Int × jSt)} (k38 : ∀ (x0 : Int) (x1 : Int) (x2 : Int) (S : jSt), (0 ≤ (x0)) → (R32 (x1)) → (R32 (x2)) → J G yX12_undo cX12_undo 4 (some .int) d S0 38 [(0, 2, x0), (1, 0, x1), (2, 0, x2)] [] S (r38 x0 x1 x2 S)) : ∀ (x0 : Int) (x1 : Int) (x2 : Int) (S : jSt), (0 ≤ (x0)) → (R32 (x1)) → (R32 (x2)) → J G yX12_undo cX12_undo 4 (some .int) d S0 38 [(0, 2, x0), (1, 0, x1), (2, 0, x2)] [] S (f_X12_undo_b38B r38 x0 x1 x2 S) := by
  intro x0 x1 x2 S h0 h1 h2
  unfold f_X12_undo_b38B
  refine j_iload_n 2 dX12_undo_38 rfl rfl ?_
  refine j_iconst dX12_undo_39 ?_
  refine j_icmp_ge (tgt := 68) h2 (j_r32 4 rfl) dX12_undo_40 rfl (fun _ => ?_) (fun _ => ?_)
  · refine j_iconst dX12_undo_68 ?_
    refine j_istore_n (lv' := [(2, 0, 0), (0, 2, x0), (1, 0, x1)]) dX12_undo_69 rfl (Nat.le_of_ble_eq_true rfl) rfl ?_
    refine j_sub [1, 2, 0] rfl ?_
    exact p_f_X12_undo_b70 hd0 x0 x1 0 S h0 h1 (jZ_R jz0)
  · refine j_aload_n 0 dX12_undo_43 rfl rfl ?_
    refine j_getr (ci := 12) (k := 0) rfl in_X12 (Nat.le_of_ble_eq_true rfl) rfl rfl fl_X12_7 dX12_undo_44 (fun (v49 : Int) (hv49 : 0 ≤ v49) => ?_)
    refine j_bipush dX12_undo_47 (by decide) ?_
    refine j_iload_n 2 dX12_undo_49 rfl rfl ?_
    refine j_iadd dX12_undo_50 ?_
    refine j_aload_n 0 dX12_undo_51 rfl rfl ?_
    refine j_getr (ci := 12) (k := 0) rfl in_X12 (Nat.le_of_ble_eq_true rfl) rfl rfl fl_X12_7 dX12_undo_52 (fun (v50 : Int) (hv50 : 0 ≤ v50) => ?_)
    refine j_iload_n 1 dX12_undo_55 rfl rfl ?_
    refine j_iconst dX12_undo_56 ?_
    refine j_iadd dX12_undo_57 ?_
    refine j_iload_n 2 dX12_undo_58 rfl rfl ?_
    refine j_iadd dX12_undo_59 ?_
    refine j_iaload (w32_R _) dX12_undo_60 (fun (v51 : Int) (hv51 : R32 (v51)) => ?_)
    refine j_iastore (w32_R _) hv51 dX12_undo_61 (fun S52 => ?_)
    refine j_iincL (q := 2) dX12_undo_62 rfl (Nat.le_of_ble_eq_true rfl) (fun v53 hv53 => ?_)
    refine j_lv (lv' := [(2, 0, v53), (0, 2, x0), (1, 0, x1)]) rfl ?_
    refine j_goto (tgt := 38) dX12_undo_65 rfl ?_
    refine j_sub [1, 2, 0] rfl ?_
    exact k38 x0 x1 v53 S52 h0 h1 hv53
def f_X12_undo_b38 : Int → Int → Int → jSt → Option (Int × jSt) := jrep (β := Int → Int → Int → jSt → Option (Int × jSt)) (fun _ _ _ _ => none) (fun r => f_X12_undo_b38B r) jN
theorem p_f_X12_undo_b38 {G : jG} {d : Nat} {S0 : jSt} (hd0 : 2 ≤ d) : ∀ (x0 : Int) (x1 : Int) (x2 : Int) (S : jSt), (0 ≤ (x0)) → (R32 (x1)) → (R32 (x2)) → J G yX12_undo cX12_undo 4 (some .int) d S0 38 [(0, 2, x0), (1, 0, x1), (2, 0, x2)] [] S (f_X12_undo_b38  x0 x1 x2 S) :=
  jrep_ind (P := fun (r : Int → Int → Int → jSt → Option (Int × jSt)) => ∀ (x0 : Int) (x1 : Int) (x2 : Int) (S : jSt), (0 ≤ (x0)) → (R32 (x1)) → (R32 (x2)) → J G yX12_undo cX12_undo 4 (some .int) d S0 38 [(0, 2, x0), (1, 0, x1), (2, 0, x2)] [] S (r x0 x1 x2 S)) (by intros; exact j_none) (fun r k => p_f_X12_undo_b38B hd0 k) jN
def f_X12_undo (a0 : Int) (S : jSt) : Option (Int × jSt) :=
  fgetr S a0 12 0 (fun v1 => fald S v1 4 1 (fun v2 => if v2 = 0 then some ((-1), S) else fgetr S a0 12 0 (fun v3 => fald S v3 4 1 (fun v4 => fast S v3 4 1 (w32 (v4 - 1)) (fun S5 => fgetr S5 a0 12 0 (fun v6 => fald S5 v6 4 1 (fun v7 => flet (w32 (193 + (w32 (155 * v7)))) (fun v8 => f_X12_undo_b38 a0 v8 0 S5))))))))
theorem e_X12_undo {G : jG} {d : Nat} {S0 : jSt} (hd0 : 2 ≤ d) (a0 : Int) (S : jSt) (h0 : 0 ≤ (a0)) : J G yX12_undo cX12_undo 4 (some .int) d S0 0 [(0, 2, a0)] [] S (f_X12_undo a0 S) := by
  unfold f_X12_undo
  refine j_aload_n 0 dX12_undo_0 rfl rfl ?_
  refine j_getr (ci := 12) (k := 0) rfl in_X12 (Nat.le_of_ble_eq_true rfl) rfl rfl fl_X12_7 dX12_undo_1 (fun (v1 : Int) (hv1 : 0 ≤ v1) => ?_)
  refine j_iconst dX12_undo_4 ?_
  refine j_iaload (j_r32 4 rfl) dX12_undo_5 (fun (v2 : Int) (hv2 : R32 (v2)) => ?_)
  refine j_if_ne (tgt := 11) hv2 dX12_undo_6 rfl (fun _ => ?_) (fun _ => ?_)
  · refine j_aload_n 0 dX12_undo_11 rfl rfl ?_
    refine j_getr (ci := 12) (k := 0) rfl in_X12 (Nat.le_of_ble_eq_true rfl) rfl rfl fl_X12_7 dX12_undo_12 (fun (v3 : Int) (hv3 : 0 ≤ v3) => ?_)
    refine j_iconst dX12_undo_15 ?_
    refine j_dup2 dX12_undo_16 (fun h => nomatch h) (fun h => nomatch h) ?_
    refine j_iaload (j_r32 4 rfl) dX12_undo_17 (fun (v4 : Int) (hv4 : R32 (v4)) => ?_)
    refine j_iconst dX12_undo_18 ?_
    refine j_isub dX12_undo_19 ?_
    refine j_iastore (j_r32 4 rfl) (w32_R _) dX12_undo_20 (fun S5 => ?_)
    refine j_sipush dX12_undo_21 (by decide) ?_
    refine j_sipush dX12_undo_24 (by decide) ?_
    refine j_aload_n 0 dX12_undo_27 rfl rfl ?_
    refine j_getr (ci := 12) (k := 0) rfl in_X12 (Nat.le_of_ble_eq_true rfl) rfl rfl fl_X12_7 dX12_undo_28 (fun (v6 : Int) (hv6 : 0 ≤ v6) => ?_)
    refine j_iconst dX12_undo_31 ?_
    refine j_iaload (j_r32 4 rfl) dX12_undo_32 (fun (v7 : Int) (hv7 : R32 (v7)) => ?_)
    refine j_imul dX12_undo_33 ?_
    refine j_iadd dX12_undo_34 ?_
    refine j_leti (w32_R _) (fun v8 hv8 => ?_)
    refine j_istore_n (lv' := [(1, 0, v8), (0, 2, a0)]) dX12_undo_35 rfl (Nat.le_of_ble_eq_true rfl) rfl ?_
    refine j_iconst dX12_undo_36 ?_
    refine j_istore_n (lv' := [(2, 0, 0), (1, 0, v8), (0, 2, a0)]) dX12_undo_37 rfl (Nat.le_of_ble_eq_true rfl) rfl ?_
    refine j_sub [2, 1, 0] rfl ?_
    exact p_f_X12_undo_b38 hd0 a0 v8 0 S5 h0 hv8 (jZ_R jz0)
  · refine j_iconst dX12_undo_9 ?_
    exact j_ireturn (j_r32 (-1) rfl) dX12_undo_10
theorem c_X12_undo {G : jG} (a0 : Int) (S : jSt) (h0 : 0 ≤ (a0)) : CT G yX12_undo cX12_undo 4 (some .int) 2 ([(2, a0)].map jval) S (f_X12_undo a0 S) := ct_of [(2, a0)] (by decide) rfl (Nat.le_of_ble_eq_true rfl) (e_X12_undo (Nat.le_refl _) a0 S h0)
-- X12_week
def f_X12_week_b41 (x0 : Int) (S : jSt) : Option (Int × jSt) :=
  some (x0, S)
theorem p_f_X12_week_b41 {G : jG} {d : Nat} {S0 : jSt} (hd0 : 11 ≤ d) : ∀ (x0 : Int) (S : jSt), (R32 (x0)) → J G yX12_week cX12_week 2 (some .int) d S0 41 [] [(0, x0)] S (f_X12_week_b41  x0 S) := by
  intro x0 S h0
  unfold f_X12_week_b41
  exact j_ireturn h0 dX12_week_41
def f_X12_week_b40 (S : jSt) : Option (Int × jSt) :=
  f_X12_week_b41 (-1) S
theorem p_f_X12_week_b40 {G : jG} {d : Nat} {S0 : jSt} (hd0 : 11 ≤ d) : ∀ (S : jSt), J G yX12_week cX12_week 2 (some .int) d S0 40 [] [] S (f_X12_week_b40   S) := by
  intro S
  unfold f_X12_week_b40
  refine j_iconst dX12_week_40 ?_
  exact p_f_X12_week_b41 hd0 (-1) S (j_r32 (-1) rfl)
def f_X12_week (a0 : Int) (a1 : Int) (S : jSt) : Option (Int × jSt) :=
  fcall (f_X12_isIn a1 1 60 S) (fun v1 S2 => if v1 = 0 then f_X12_week_b40 S2 else fgetr S2 a0 12 0 (fun v3 => fald S2 v3 7 1 (fun v4 => if 9999 < (w32 (v4 + a1)) then f_X12_week_b40 S2 else fcallv S2 a0 12 (f_X12_arePassed a0 a1 S2) (fun v5 S6 => if v5 = 0 then f_X12_week_b40 S6 else fget S6 a0 12 24 (fun v7 => f_X12_week_b41 v7 S6)))))
theorem e_X12_week {G : jG} {d : Nat} {S0 : jSt} (hd0 : 11 ≤ d) (a0 : Int) (a1 : Int) (S : jSt) (h0 : 0 ≤ (a0)) (h1 : R32 (a1)) : J G yX12_week cX12_week 2 (some .int) d S0 0 [(0, 2, a0), (1, 0, a1)] [] S (f_X12_week a0 a1 S) := by
  unfold f_X12_week
  refine j_iload_n 1 dX12_week_0 rfl rfl ?_
  refine j_iconst dX12_week_1 ?_
  refine j_bipush dX12_week_2 (by decide) ?_
  refine j_callS (As := [(0, a1), (0, 1), (0, 60)]) (st := []) kc_X12_isIn (c_X12_isIn a1 1 60 S h1 (jZ_R jz1) (j_r32 60 rfl)) lm_X12_60 ks_X12_isIn rfl (Nat.le_of_ble_eq_true rfl) (Nat.le_trans (m := 11) (Nat.le_of_ble_eq_true rfl) hd0) dX12_week_4 (fun (v1 : Int) (S2 : jSt) (hv1 : (v1) = 0 ∨ (v1) = 1) => ?_)
  refine j_if_eq (tgt := 40) (jZ_R hv1) dX12_week_7 rfl (fun _ => ?_) (fun _ => ?_)
  · refine j_sub [] rfl ?_
    exact p_f_X12_week_b40 hd0 S2
  · refine j_aload_n 0 dX12_week_10 rfl rfl ?_
    refine j_getr (ci := 12) (k := 0) rfl in_X12 (Nat.le_of_ble_eq_true rfl) rfl rfl fl_X12_7 dX12_week_11 (fun (v3 : Int) (hv3 : 0 ≤ v3) => ?_)
    refine j_bipush dX12_week_14 (by decide) ?_
    refine j_iaload (j_r32 7 rfl) dX12_week_16 (fun (v4 : Int) (hv4 : R32 (v4)) => ?_)
    refine j_iload_n 1 dX12_week_17 rfl rfl ?_
    refine j_iadd dX12_week_18 ?_
    refine j_sipush dX12_week_19 (by decide) ?_
    refine j_icmp_gt (tgt := 40) (w32_R _) (j_r32 9999 rfl) dX12_week_22 rfl (fun _ => ?_) (fun _ => ?_)
    · refine j_sub [] rfl ?_
      exact p_f_X12_week_b40 hd0 S2
    · refine j_aload_n 0 dX12_week_25 rfl rfl ?_
      refine j_iload_n 1 dX12_week_26 rfl rfl ?_
      refine j_callV (ci := 12) (As := [(0, a1)]) (st := []) kc_X12_arePassed (c_X12_arePassed a0 a1 S2 h0 h1) rfl lm_X12_376 ki_X12_arePassed ke_X12_arePassed rfl (Nat.le_of_ble_eq_true rfl) (Nat.le_trans (m := 11) (Nat.le_of_ble_eq_true rfl) hd0) dX12_week_27 (fun (v5 : Int) (S6 : jSt) (hv5 : (v5) = 0 ∨ (v5) = 1) => ?_)
      refine j_if_eq (tgt := 40) (jZ_R hv5) dX12_week_30 rfl (fun _ => ?_) (fun _ => ?_)
      · refine j_sub [] rfl ?_
        exact p_f_X12_week_b40 hd0 S6
      · refine j_aload_n 0 dX12_week_33 rfl rfl ?_
        refine j_get (ci := 12) (k := 24) (t := 0) rfl in_X12 (Nat.le_of_ble_eq_true rfl) rfl rfl fl_X12_331 dX12_week_34 (fun (v7 : Int) (hv7 : R32 (v7)) => ?_)
        refine j_goto (tgt := 41) dX12_week_37 rfl ?_
        refine j_sub [] rfl ?_
        exact p_f_X12_week_b41 hd0 v7 S6 hv7
theorem c_X12_week {G : jG} (a0 : Int) (a1 : Int) (S : jSt) (h0 : 0 ≤ (a0)) (h1 : R32 (a1)) : CT G yX12_week cX12_week 2 (some .int) 11 ([(2, a0), (0, a1)].map jval) S (f_X12_week a0 a1 S) := ct_of [(2, a0), (0, a1)] (by decide) rfl (Nat.le_of_ble_eq_true rfl) (e_X12_week (Nat.le_refl _) a0 a1 S h0 h1)
-- X12_whose
def f_X12_whose_b95 (r4 : Int → Int → Int → jSt → Option (Int × jSt)) (x0 : Int) (x1 : Int) (x2 : Int) (x3 : Int) (S : jSt) : Option (Int × jSt) :=
  flet (ior32 x2 x3) (fun v5 => flet (w32 (x1 + 1)) (fun v6 => r4 x0 v5 v6 S))
theorem p_f_X12_whose_b95 {G : jG} {d : Nat} {S0 : jSt} (hd0 : 6 ≤ d) {r4 : Int → Int → Int → jSt → Option (Int × jSt)} (k4 : ∀ (x0 : Int) (x1 : Int) (x2 : Int) (S : jSt), (0 ≤ (x0)) → (R32 (x1)) → (R32 (x2)) → J G yX12_whose cX12_whose 5 (some .int) d S0 4 [(0, 2, x0), (1, 0, x1), (2, 0, x2)] [] S (r4 x0 x1 x2 S)) : ∀ (x0 : Int) (x1 : Int) (x2 : Int) (x3 : Int) (S : jSt), (0 ≤ (x0)) → (R32 (x1)) → (R32 (x2)) → (R32 (x3)) → J G yX12_whose cX12_whose 5 (some .int) d S0 95 [(0, 2, x0), (2, 0, x1)] [(0, x3), (0, x2)] S (f_X12_whose_b95 r4 x0 x1 x2 x3 S) := by
  intro x0 x1 x2 x3 S h0 h1 h2 h3
  unfold f_X12_whose_b95
  refine j_ior dX12_whose_95 ?_
  refine j_leti (ior32_R _ _) (fun v5 hv5 => ?_)
  refine j_istore_n (lv' := [(1, 0, v5), (0, 2, x0), (2, 0, x1)]) dX12_whose_96 rfl (Nat.le_of_ble_eq_true rfl) rfl ?_
  refine j_iincL (q := 2) dX12_whose_97 rfl (Nat.le_of_ble_eq_true rfl) (fun v6 hv6 => ?_)
  refine j_lv (lv' := [(2, 0, v6), (1, 0, v5), (0, 2, x0)]) rfl ?_
  refine j_goto (tgt := 4) dX12_whose_100 rfl ?_
  refine j_sub [2, 1, 0] rfl ?_
  exact k4 x0 v5 v6 S h0 hv5 hv6
def f_X12_whose_b76 (r4 : Int → Int → Int → jSt → Option (Int × jSt)) (r19 : Int → Int → Int → Int → Int → jSt → Option (Int × jSt)) (x0 : Int) (x1 : Int) (x2 : Int) (x3 : Int) (x4 : Int) (S : jSt) : Option (Int × jSt) :=
  flet (w32 (x3 + 1)) (fun v7 => r19 x0 x1 x2 x4 v7 S)
theorem p_f_X12_whose_b76 {G : jG} {d : Nat} {S0 : jSt} (hd0 : 6 ≤ d) {r4 : Int → Int → Int → jSt → Option (Int × jSt)} (k4 : ∀ (x0 : Int) (x1 : Int) (x2 : Int) (S : jSt), (0 ≤ (x0)) → (R32 (x1)) → (R32 (x2)) → J G yX12_whose cX12_whose 5 (some .int) d S0 4 [(0, 2, x0), (1, 0, x1), (2, 0, x2)] [] S (r4 x0 x1 x2 S)) {r19 : Int → Int → Int → Int → Int → jSt → Option (Int × jSt)} (k19 : ∀ (x0 : Int) (x1 : Int) (x2 : Int) (x3 : Int) (x4 : Int) (S : jSt), (0 ≤ (x0)) → (R32 (x1)) → (R32 (x2)) → ((x3) = 0 ∨ (x3) = 1) → (R32 (x4)) → J G yX12_whose cX12_whose 5 (some .int) d S0 19 [(0, 2, x0), (1, 0, x1), (2, 0, x2), (3, 0, x3), (4, 0, x4)] [] S (r19 x0 x1 x2 x3 x4 S)) : ∀ (x0 : Int) (x1 : Int) (x2 : Int) (x3 : Int) (x4 : Int) (S : jSt), (0 ≤ (x0)) → (R32 (x1)) → (R32 (x2)) → (R32 (x3)) → ((x4) = 0 ∨ (x4) = 1) → J G yX12_whose cX12_whose 5 (some .int) d S0 76 [(0, 2, x0), (1, 0, x1), (2, 0, x2), (4, 0, x3)] [(0, x4)] S (f_X12_whose_b76 r4 r19 x0 x1 x2 x3 x4 S) := by
  intro x0 x1 x2 x3 x4 S h0 h1 h2 h3 h4
  unfold f_X12_whose_b76
  refine j_istore_n (lv' := [(3, 0, x4), (0, 2, x0), (1, 0, x1), (2, 0, x2), (4, 0, x3)]) dX12_whose_76 rfl (Nat.le_of_ble_eq_true rfl) rfl ?_
  refine j_iincL (q := 4) dX12_whose_77 rfl (Nat.le_of_ble_eq_true rfl) (fun v7 hv7 => ?_)
  refine j_lv (lv' := [(4, 0, v7), (3, 0, x4), (0, 2, x0), (1, 0, x1), (2, 0, x2)]) rfl ?_
  refine j_goto (tgt := 19) dX12_whose_80 rfl ?_
  refine j_sub [2, 3, 4, 1, 0] rfl ?_
  exact k19 x0 x1 x2 x4 v7 S h0 h1 h2 h4 hv7
def f_X12_whose_b75 (r4 : Int → Int → Int → jSt → Option (Int × jSt)) (r19 : Int → Int → Int → Int → Int → jSt → Option (Int × jSt)) (x0 : Int) (x1 : Int) (x2 : Int) (x3 : Int) (S : jSt) : Option (Int × jSt) :=
  f_X12_whose_b76 r4 r19 x0 x1 x2 x3 0 S
theorem p_f_X12_whose_b75 {G : jG} {d : Nat} {S0 : jSt} (hd0 : 6 ≤ d) {r4 : Int → Int → Int → jSt → Option (Int × jSt)} (k4 : ∀ (x0 : Int) (x1 : Int) (x2 : Int) (S : jSt), (0 ≤ (x0)) → (R32 (x1)) → (R32 (x2)) → J G yX12_whose cX12_whose 5 (some .int) d S0 4 [(0, 2, x0), (1, 0, x1), (2, 0, x2)] [] S (r4 x0 x1 x2 S)) {r19 : Int → Int → Int → Int → Int → jSt → Option (Int × jSt)} (k19 : ∀ (x0 : Int) (x1 : Int) (x2 : Int) (x3 : Int) (x4 : Int) (S : jSt), (0 ≤ (x0)) → (R32 (x1)) → (R32 (x2)) → ((x3) = 0 ∨ (x3) = 1) → (R32 (x4)) → J G yX12_whose cX12_whose 5 (some .int) d S0 19 [(0, 2, x0), (1, 0, x1), (2, 0, x2), (3, 0, x3), (4, 0, x4)] [] S (r19 x0 x1 x2 x3 x4 S)) : ∀ (x0 : Int) (x1 : Int) (x2 : Int) (x3 : Int) (S : jSt), (0 ≤ (x0)) → (R32 (x1)) → (R32 (x2)) → (R32 (x3)) → J G yX12_whose cX12_whose 5 (some .int) d S0 75 [(0, 2, x0), (1, 0, x1), (2, 0, x2), (4, 0, x3)] [] S (f_X12_whose_b75 r4 r19 x0 x1 x2 x3 S) := by
  intro x0 x1 x2 x3 S h0 h1 h2 h3
  unfold f_X12_whose_b75
  refine j_iconst dX12_whose_75 ?_
  exact p_f_X12_whose_b76 hd0 k4 k19 x0 x1 x2 x3 0 S h0 h1 h2 h3 jz0
def f_X12_whose_b19B (r4 : Int → Int → Int → jSt → Option (Int × jSt)) (r19 : Int → Int → Int → Int → Int → jSt → Option (Int × jSt)) (x0 : Int) (x1 : Int) (x2 : Int) (x3 : Int) (x4 : Int) (S : jSt) : Option (Int × jSt) :=
  fgetr S x0 12 0 (fun v3 => fald S v3 6 1 (fun v4 => if v4 ≤ x4 then if x3 = 0 then f_X12_whose_b95 r4 x0 x2 x1 0 S else f_X12_whose_b95 r4 x0 x2 x1 (ishl32 1 x2) S else if x3 = 0 then f_X12_whose_b75 r4 r19 x0 x1 x2 x4 S else fgetr S x0 12 0 (fun v8 => fald S v8 (w32 (177 + (w32 (2 * x4)))) 1 (fun v9 => fcallv S x0 12 (f_X12_warmsOf x0 x2 v9 S) (fun v10 S11 => fgetr S11 x0 12 0 (fun v12 => fald S11 v12 (w32 ((w32 (177 + (w32 (2 * x4)))) + 1)) 1 (fun v13 => if v10 = v13 then f_X12_whose_b76 r4 r19 x0 x1 x2 x4 1 S11 else f_X12_whose_b75 r4 r19 x0 x1 x2 x4 S11)))))))
theorem p_f_X12_whose_b19B {G : jG} {d : Nat} {S0 : jSt} (hd0 : 6 ≤ d) {r4 : Int → Int → Int → jSt → Option (Int × jSt)} (k4 : ∀ (x0 : Int) (x1 : Int) (x2 : Int) (S : jSt), (0 ≤ (x0)) → (R32 (x1)) → (R32 (x2)) → J G yX12_whose cX12_whose 5 (some .int) d S0 4 [(0, 2, x0), (1, 0, x1), (2, 0, x2)] [] S (r4 x0 x1 x2 S)) {r19 : Int → Int → Int → Int → Int → jSt → Option (Int × jSt)} (k19 : ∀ (x0 : Int) (x1 : Int) (x2 : Int) (x3 : Int) (x4 : Int) (S : jSt), (0 ≤ (x0)) → (R32 (x1)) → (R32 (x2)) → ((x3) = 0 ∨ (x3) = 1) → (R32 (x4)) → J G yX12_whose cX12_whose 5 (some .int) d S0 19 [(0, 2, x0), (1, 0, x1), (2, 0, x2), (3, 0, x3), (4, 0, x4)] [] S (r19 x0 x1 x2 x3 x4 S)) : ∀ (x0 : Int) (x1 : Int) (x2 : Int) (x3 : Int) (x4 : Int) (S : jSt), (0 ≤ (x0)) → (R32 (x1)) → (R32 (x2)) → ((x3) = 0 ∨ (x3) = 1) → (R32 (x4)) → J G yX12_whose cX12_whose 5 (some .int) d S0 19 [(0, 2, x0), (1, 0, x1), (2, 0, x2), (3, 0, x3), (4, 0, x4)] [] S (f_X12_whose_b19B r4 r19 x0 x1 x2 x3 x4 S) := by
  intro x0 x1 x2 x3 x4 S h0 h1 h2 h3 h4
  unfold f_X12_whose_b19B
  refine j_iload 4 dX12_whose_19 rfl ?_
  refine j_aload_n 0 dX12_whose_21 rfl rfl ?_
  refine j_getr (ci := 12) (k := 0) rfl in_X12 (Nat.le_of_ble_eq_true rfl) rfl rfl fl_X12_7 dX12_whose_22 (fun (v3 : Int) (hv3 : 0 ≤ v3) => ?_)
  refine j_bipush dX12_whose_25 (by decide) ?_
  refine j_iaload (j_r32 6 rfl) dX12_whose_27 (fun (v4 : Int) (hv4 : R32 (v4)) => ?_)
  refine j_icmp_ge (tgt := 83) h4 hv4 dX12_whose_28 rfl (fun _ => ?_) (fun _ => ?_)
  · refine j_iload_n 1 dX12_whose_83 rfl rfl ?_
    refine j_iload_n 3 dX12_whose_84 rfl rfl ?_
    refine j_if_eq (tgt := 94) (jZ_R h3) dX12_whose_85 rfl (fun _ => ?_) (fun _ => ?_)
    · refine j_iconst dX12_whose_94 ?_
      refine j_sub [0, 2] rfl ?_
      exact p_f_X12_whose_b95 hd0 k4 x0 x2 x1 0 S h0 h2 h1 (jZ_R jz0)
    · refine j_iconst dX12_whose_88 ?_
      refine j_iload_n 2 dX12_whose_89 rfl rfl ?_
      refine j_ishl dX12_whose_90 ?_
      refine j_goto (tgt := 95) dX12_whose_91 rfl ?_
      refine j_sub [0, 2] rfl ?_
      exact p_f_X12_whose_b95 hd0 k4 x0 x2 x1 (ishl32 1 x2) S h0 h2 h1 (ishl32_R _ _)
  · refine j_iload_n 3 dX12_whose_31 rfl rfl ?_
    refine j_if_eq (tgt := 75) (jZ_R h3) dX12_whose_32 rfl (fun _ => ?_) (fun _ => ?_)
    · refine j_sub [0, 1, 2, 4] rfl ?_
      exact p_f_X12_whose_b75 hd0 k4 k19 x0 x1 x2 x4 S h0 h1 h2 h4
    · refine j_aload_n 0 dX12_whose_35 rfl rfl ?_
      refine j_iload_n 2 dX12_whose_36 rfl rfl ?_
      refine j_aload_n 0 dX12_whose_37 rfl rfl ?_
      refine j_getr (ci := 12) (k := 0) rfl in_X12 (Nat.le_of_ble_eq_true rfl) rfl rfl fl_X12_7 dX12_whose_38 (fun (v8 : Int) (hv8 : 0 ≤ v8) => ?_)
      refine j_sipush dX12_whose_41 (by decide) ?_
      refine j_iconst dX12_whose_44 ?_
      refine j_iload 4 dX12_whose_45 rfl ?_
      refine j_imul dX12_whose_47 ?_
      refine j_iadd dX12_whose_48 ?_
      refine j_iaload (w32_R _) dX12_whose_49 (fun (v9 : Int) (hv9 : R32 (v9)) => ?_)
      refine j_callV (ci := 12) (As := [(0, x2), (0, v9)]) (st := []) kc_X12_warmsOf (c_X12_warmsOf x0 x2 v9 S h0 h2 hv9) rfl lm_X12_343 ki_X12_warmsOf ke_X12_warmsOf rfl (Nat.le_of_ble_eq_true rfl) (Nat.le_trans (m := 6) (Nat.le_of_ble_eq_true rfl) hd0) dX12_whose_50 (fun (v10 : Int) (S11 : jSt) (hv10 : R32 (v10)) => ?_)
      refine j_aload_n 0 dX12_whose_53 rfl rfl ?_
      refine j_getr (ci := 12) (k := 0) rfl in_X12 (Nat.le_of_ble_eq_true rfl) rfl rfl fl_X12_7 dX12_whose_54 (fun (v12 : Int) (hv12 : 0 ≤ v12) => ?_)
      refine j_sipush dX12_whose_57 (by decide) ?_
      refine j_iconst dX12_whose_60 ?_
      refine j_iload 4 dX12_whose_61 rfl ?_
      refine j_imul dX12_whose_63 ?_
      refine j_iadd dX12_whose_64 ?_
      refine j_iconst dX12_whose_65 ?_
      refine j_iadd dX12_whose_66 ?_
      refine j_iaload (w32_R _) dX12_whose_67 (fun (v13 : Int) (hv13 : R32 (v13)) => ?_)
      refine j_icmp_ne (tgt := 75) hv10 hv13 dX12_whose_68 rfl (fun _ => ?_) (fun _ => ?_)
      · refine j_sub [0, 1, 2, 4] rfl ?_
        exact p_f_X12_whose_b75 hd0 k4 k19 x0 x1 x2 x4 S11 h0 h1 h2 h4
      · refine j_iconst dX12_whose_71 ?_
        refine j_goto (tgt := 76) dX12_whose_72 rfl ?_
        refine j_sub [0, 1, 2, 4] rfl ?_
        exact p_f_X12_whose_b76 hd0 k4 k19 x0 x1 x2 x4 1 S11 h0 h1 h2 h4 jz1
def f_X12_whose_b19 (r4 : Int → Int → Int → jSt → Option (Int × jSt)) : Int → Int → Int → Int → Int → jSt → Option (Int × jSt) := jrep (β := Int → Int → Int → Int → Int → jSt → Option (Int × jSt)) (fun _ _ _ _ _ _ => none) (fun r => f_X12_whose_b19B r4 r) jN
theorem p_f_X12_whose_b19 {G : jG} {d : Nat} {S0 : jSt} (hd0 : 6 ≤ d) {r4 : Int → Int → Int → jSt → Option (Int × jSt)} (k4 : ∀ (x0 : Int) (x1 : Int) (x2 : Int) (S : jSt), (0 ≤ (x0)) → (R32 (x1)) → (R32 (x2)) → J G yX12_whose cX12_whose 5 (some .int) d S0 4 [(0, 2, x0), (1, 0, x1), (2, 0, x2)] [] S (r4 x0 x1 x2 S)) : ∀ (x0 : Int) (x1 : Int) (x2 : Int) (x3 : Int) (x4 : Int) (S : jSt), (0 ≤ (x0)) → (R32 (x1)) → (R32 (x2)) → ((x3) = 0 ∨ (x3) = 1) → (R32 (x4)) → J G yX12_whose cX12_whose 5 (some .int) d S0 19 [(0, 2, x0), (1, 0, x1), (2, 0, x2), (3, 0, x3), (4, 0, x4)] [] S (f_X12_whose_b19 r4 x0 x1 x2 x3 x4 S) :=
  jrep_ind (P := fun (r : Int → Int → Int → Int → Int → jSt → Option (Int × jSt)) => ∀ (x0 : Int) (x1 : Int) (x2 : Int) (x3 : Int) (x4 : Int) (S : jSt), (0 ≤ (x0)) → (R32 (x1)) → (R32 (x2)) → ((x3) = 0 ∨ (x3) = 1) → (R32 (x4)) → J G yX12_whose cX12_whose 5 (some .int) d S0 19 [(0, 2, x0), (1, 0, x1), (2, 0, x2), (3, 0, x3), (4, 0, x4)] [] S (r x0 x1 x2 x3 x4 S)) (by intros; exact j_none) (fun r k => p_f_X12_whose_b19B hd0 k4 k) jN
def f_X12_whose_b4B (r4 : Int → Int → Int → jSt → Option (Int × jSt)) (x0 : Int) (x1 : Int) (x2 : Int) (S : jSt) : Option (Int × jSt) :=
  fgetr S x0 12 0 (fun v1 => fald S v1 2 1 (fun v2 => if v2 ≤ x2 then some (x1, S) else f_X12_whose_b19 r4 x0 x1 x2 1 0 S))
theorem p_f_X12_whose_b4B {G : jG} {d : Nat} {S0 : jSt} (hd0 : 6 ≤ d) {r4 : Int → Int → Int → jSt → Option (Int × jSt)} (k4 : ∀ (x0 : Int) (x1 : Int) (x2 : Int) (S : jSt), (0 ≤ (x0)) → (R32 (x1)) → (R32 (x2)) → J G yX12_whose cX12_whose 5 (some .int) d S0 4 [(0, 2, x0), (1, 0, x1), (2, 0, x2)] [] S (r4 x0 x1 x2 S)) : ∀ (x0 : Int) (x1 : Int) (x2 : Int) (S : jSt), (0 ≤ (x0)) → (R32 (x1)) → (R32 (x2)) → J G yX12_whose cX12_whose 5 (some .int) d S0 4 [(0, 2, x0), (1, 0, x1), (2, 0, x2)] [] S (f_X12_whose_b4B r4 x0 x1 x2 S) := by
  intro x0 x1 x2 S h0 h1 h2
  unfold f_X12_whose_b4B
  refine j_iload_n 2 dX12_whose_4 rfl rfl ?_
  refine j_aload_n 0 dX12_whose_5 rfl rfl ?_
  refine j_getr (ci := 12) (k := 0) rfl in_X12 (Nat.le_of_ble_eq_true rfl) rfl rfl fl_X12_7 dX12_whose_6 (fun (v1 : Int) (hv1 : 0 ≤ v1) => ?_)
  refine j_iconst dX12_whose_9 ?_
  refine j_iaload (j_r32 2 rfl) dX12_whose_10 (fun (v2 : Int) (hv2 : R32 (v2)) => ?_)
  refine j_icmp_ge (tgt := 103) h2 hv2 dX12_whose_11 rfl (fun _ => ?_) (fun _ => ?_)
  · refine j_iload_n 1 dX12_whose_103 rfl rfl ?_
    exact j_ireturn h1 dX12_whose_104
  · refine j_iconst dX12_whose_14 ?_
    refine j_istore_n (lv' := [(3, 0, 1), (0, 2, x0), (1, 0, x1), (2, 0, x2)]) dX12_whose_15 rfl (Nat.le_of_ble_eq_true rfl) rfl ?_
    refine j_iconst dX12_whose_16 ?_
    refine j_istore (lv' := [(4, 0, 0), (3, 0, 1), (0, 2, x0), (1, 0, x1), (2, 0, x2)]) dX12_whose_17 (Nat.le_of_ble_eq_true rfl) rfl ?_
    refine j_sub [2, 3, 4, 1, 0] rfl ?_
    exact p_f_X12_whose_b19 hd0 k4 x0 x1 x2 1 0 S h0 h1 h2 jz1 (jZ_R jz0)
def f_X12_whose_b4 : Int → Int → Int → jSt → Option (Int × jSt) := jrep (β := Int → Int → Int → jSt → Option (Int × jSt)) (fun _ _ _ _ => none) (fun r => f_X12_whose_b4B r) jN
theorem p_f_X12_whose_b4 {G : jG} {d : Nat} {S0 : jSt} (hd0 : 6 ≤ d) : ∀ (x0 : Int) (x1 : Int) (x2 : Int) (S : jSt), (0 ≤ (x0)) → (R32 (x1)) → (R32 (x2)) → J G yX12_whose cX12_whose 5 (some .int) d S0 4 [(0, 2, x0), (1, 0, x1), (2, 0, x2)] [] S (f_X12_whose_b4  x0 x1 x2 S) :=
  jrep_ind (P := fun (r : Int → Int → Int → jSt → Option (Int × jSt)) => ∀ (x0 : Int) (x1 : Int) (x2 : Int) (S : jSt), (0 ≤ (x0)) → (R32 (x1)) → (R32 (x2)) → J G yX12_whose cX12_whose 5 (some .int) d S0 4 [(0, 2, x0), (1, 0, x1), (2, 0, x2)] [] S (r x0 x1 x2 S)) (by intros; exact j_none) (fun r k => p_f_X12_whose_b4B hd0 k) jN
def f_X12_whose (a0 : Int) (S : jSt) : Option (Int × jSt) :=
  f_X12_whose_b4 a0 0 0 S
theorem e_X12_whose {G : jG} {d : Nat} {S0 : jSt} (hd0 : 6 ≤ d) (a0 : Int) (S : jSt) (h0 : 0 ≤ (a0)) : J G yX12_whose cX12_whose 5 (some .int) d S0 0 [(0, 2, a0)] [] S (f_X12_whose a0 S) := by
  unfold f_X12_whose
  refine j_iconst dX12_whose_0 ?_
  refine j_istore_n (lv' := [(1, 0, 0), (0, 2, a0)]) dX12_whose_1 rfl (Nat.le_of_ble_eq_true rfl) rfl ?_
  refine j_iconst dX12_whose_2 ?_
  refine j_istore_n (lv' := [(2, 0, 0), (1, 0, 0), (0, 2, a0)]) dX12_whose_3 rfl (Nat.le_of_ble_eq_true rfl) rfl ?_
  refine j_sub [2, 1, 0] rfl ?_
  exact p_f_X12_whose_b4 hd0 a0 0 0 S h0 (jZ_R jz0) (jZ_R jz0)
theorem c_X12_whose {G : jG} (a0 : Int) (S : jSt) (h0 : 0 ≤ (a0)) : CT G yX12_whose cX12_whose 5 (some .int) 6 ([(2, a0)].map jval) S (f_X12_whose a0 S) := ct_of [(2, a0)] (by decide) rfl (Nat.le_of_ble_eq_true rfl) (e_X12_whose (Nat.le_refl _) a0 S h0)
-- X12_winners
def f_X12_winners_b22 (x0 : Int) (S : jSt) : Option (Int × jSt) :=
  some (x0, S)
theorem p_f_X12_winners_b22 {G : jG} {d : Nat} {S0 : jSt} (hd0 : 4 ≤ d) : ∀ (x0 : Int) (S : jSt), (R32 (x0)) → J G yX12_winners cX12_winners 2 (some .int) d S0 22 [] [(0, x0)] S (f_X12_winners_b22  x0 S) := by
  intro x0 S h0
  unfold f_X12_winners_b22
  exact j_ireturn h0 dX12_winners_22
def f_X12_winners (a0 : Int) (a1 : Int) (S : jSt) : Option (Int × jSt) :=
  if a1 = 0 then fcallv S a0 12 (f_X12_bestSet a0 (-1) S) (fun v1 S2 => f_X12_winners_b22 v1 S2) else fcallv S a0 12 (f_X12_bestSet a0 (-1) S) (fun v3 S4 => fcallv S4 a0 12 (f_X12_pricesOf a0 v3 (-1) S4) (fun v5 S6 => f_X12_winners_b22 v5 S6))
theorem e_X12_winners {G : jG} {d : Nat} {S0 : jSt} (hd0 : 4 ≤ d) (a0 : Int) (a1 : Int) (S : jSt) (h0 : 0 ≤ (a0)) (h1 : (a1) = 0 ∨ (a1) = 1) : J G yX12_winners cX12_winners 2 (some .int) d S0 0 [(0, 2, a0), (1, 0, a1)] [] S (f_X12_winners a0 a1 S) := by
  unfold f_X12_winners
  refine j_iload_n 1 dX12_winners_0 rfl rfl ?_
  refine j_if_eq (tgt := 17) (jZ_R h1) dX12_winners_1 rfl (fun _ => ?_) (fun _ => ?_)
  · refine j_aload_n 0 dX12_winners_17 rfl rfl ?_
    refine j_iconst dX12_winners_18 ?_
    refine j_callV (ci := 12) (As := [(0, (-1))]) (st := []) kc_X12_bestSet (c_X12_bestSet a0 (-1) S h0 (j_r32 (-1) rfl)) rfl lm_X12_436 ki_X12_bestSet ke_X12_bestSet rfl (Nat.le_of_ble_eq_true rfl) (Nat.le_trans (m := 4) (Nat.le_of_ble_eq_true rfl) hd0) dX12_winners_19 (fun (v1 : Int) (S2 : jSt) (hv1 : R32 (v1)) => ?_)
    refine j_sub [] rfl ?_
    exact p_f_X12_winners_b22 hd0 v1 S2 hv1
  · refine j_aload_n 0 dX12_winners_4 rfl rfl ?_
    refine j_aload_n 0 dX12_winners_5 rfl rfl ?_
    refine j_iconst dX12_winners_6 ?_
    refine j_callV (ci := 12) (As := [(0, (-1))]) (st := [(2, a0)]) kc_X12_bestSet (c_X12_bestSet a0 (-1) S h0 (j_r32 (-1) rfl)) rfl lm_X12_436 ki_X12_bestSet ke_X12_bestSet rfl (Nat.le_of_ble_eq_true rfl) (Nat.le_trans (m := 4) (Nat.le_of_ble_eq_true rfl) hd0) dX12_winners_7 (fun (v3 : Int) (S4 : jSt) (hv3 : R32 (v3)) => ?_)
    refine j_iconst dX12_winners_10 ?_
    refine j_callV (ci := 12) (As := [(0, v3), (0, (-1))]) (st := []) kc_X12_pricesOf (c_X12_pricesOf a0 v3 (-1) S4 h0 hv3 (j_r32 (-1) rfl)) rfl lm_X12_433 ki_X12_pricesOf ke_X12_pricesOf rfl (Nat.le_of_ble_eq_true rfl) (Nat.le_trans (m := 4) (Nat.le_of_ble_eq_true rfl) hd0) dX12_winners_11 (fun (v5 : Int) (S6 : jSt) (hv5 : R32 (v5)) => ?_)
    refine j_goto (tgt := 22) dX12_winners_14 rfl ?_
    refine j_sub [] rfl ?_
    exact p_f_X12_winners_b22 hd0 v5 S6 hv5
theorem c_X12_winners {G : jG} (a0 : Int) (a1 : Int) (S : jSt) (h0 : 0 ≤ (a0)) (h1 : (a1) = 0 ∨ (a1) = 1) : CT G yX12_winners cX12_winners 2 (some .int) 4 ([(2, a0), (0, a1)].map jval) S (f_X12_winners a0 a1 S) := ct_of [(2, a0), (0, a1)] (by decide) rfl (Nat.le_of_ble_eq_true rfl) (e_X12_winners (Nat.le_refl _) a0 a1 S h0 h1)
