-- X12_isLot
def f_X12_isLot (a0 : Int) (a1 : Int) (S : jSt) : Option (Int × jSt) :=
  fgetr S a0 12 0 (fun v1 => fald S v1 0 1 (fun v2 => fcall (f_X12_isIn a1 0 (w32 (v2 - 1)) S) (fun v3 S4 => some (v3, S4))))
theorem e_X12_isLot {G : jG} {d : Nat} {S0 : jSt} (hd0 : 2 ≤ d) (a0 : Int) (a1 : Int) (S : jSt) (h0 : 0 ≤ (a0)) (h1 : R32 (a1)) : J G yX12_isLot cX12_isLot 2 (some .boolean) d S0 0 [(0, 2, a0), (1, 0, a1)] [] S (f_X12_isLot a0 a1 S) := by
  unfold f_X12_isLot
  refine j_iload_n 1 dX12_isLot_0 rfl rfl ?_
  refine j_iconst dX12_isLot_1 ?_
  refine j_aload_n 0 dX12_isLot_2 rfl rfl ?_
  refine j_getr (ci := 12) (k := 0) rfl in_X12 (Nat.le_of_ble_eq_true rfl) rfl rfl fl_X12_7 dX12_isLot_3 (fun (v1 : Int) (hv1 : 0 ≤ v1) => ?_)
  refine j_iconst dX12_isLot_6 ?_
  refine j_iaload (jZ_R jz0) dX12_isLot_7 (fun (v2 : Int) (hv2 : R32 (v2)) => ?_)
  refine j_iconst dX12_isLot_8 ?_
  refine j_isub dX12_isLot_9 ?_
  refine j_callS (As := [(0, a1), (0, 0), (0, w32 (v2 - 1))]) (st := []) kc_X12_isIn (c_X12_isIn a1 0 (w32 (v2 - 1)) S h1 (jZ_R jz0) (w32_R _)) lm_X12_60 ks_X12_isIn rfl (Nat.le_of_ble_eq_true rfl) (Nat.le_trans (m := 2) (Nat.le_of_ble_eq_true rfl) hd0) dX12_isLot_10 (fun (v3 : Int) (S4 : jSt) (hv3 : (v3) = 0 ∨ (v3) = 1) => ?_)
  exact j_zreturn hv3 dX12_isLot_13
theorem c_X12_isLot {G : jG} (a0 : Int) (a1 : Int) (S : jSt) (h0 : 0 ≤ (a0)) (h1 : R32 (a1)) : CT G yX12_isLot cX12_isLot 2 (some .boolean) 2 ([(2, a0), (0, a1)].map jval) S (f_X12_isLot a0 a1 S) := ct_of [(2, a0), (0, a1)] (by decide) rfl (Nat.le_of_ble_eq_true rfl) (e_X12_isLot (Nat.le_refl _) a0 a1 S h0 h1)
-- X12_isInHouse
def f_X12_isInHouse_b22 (x0 : Int) (S : jSt) : Option (Int × jSt) :=
  some (x0, S)
theorem p_f_X12_isInHouse_b22 {G : jG} {d : Nat} {S0 : jSt} (hd0 : 3 ≤ d) : ∀ (x0 : Int) (S : jSt), ((x0) = 0 ∨ (x0) = 1) → J G yX12_isInHouse cX12_isInHouse 2 (some .boolean) d S0 22 [] [(0, x0)] S (f_X12_isInHouse_b22  x0 S) := by
  intro x0 S h0
  unfold f_X12_isInHouse_b22
  exact j_zreturn h0 dX12_isInHouse_22
def f_X12_isInHouse_b21 (S : jSt) : Option (Int × jSt) :=
  f_X12_isInHouse_b22 0 S
theorem p_f_X12_isInHouse_b21 {G : jG} {d : Nat} {S0 : jSt} (hd0 : 3 ≤ d) : ∀ (S : jSt), J G yX12_isInHouse cX12_isInHouse 2 (some .boolean) d S0 21 [] [] S (f_X12_isInHouse_b21   S) := by
  intro S
  unfold f_X12_isInHouse_b21
  refine j_iconst dX12_isInHouse_21 ?_
  exact p_f_X12_isInHouse_b22 hd0 0 S jz0
def f_X12_isInHouse (a0 : Int) (a1 : Int) (S : jSt) : Option (Int × jSt) :=
  fcallv S a0 12 (f_X12_isLot a0 a1 S) (fun v1 S2 => if v1 = 0 then f_X12_isInHouse_b21 S2 else fcallv S2 a0 12 (f_X12_get a0 a1 1 S2) (fun v3 S4 => if v3 = 0 then f_X12_isInHouse_b22 1 S4 else f_X12_isInHouse_b21 S4))
theorem e_X12_isInHouse {G : jG} {d : Nat} {S0 : jSt} (hd0 : 3 ≤ d) (a0 : Int) (a1 : Int) (S : jSt) (h0 : 0 ≤ (a0)) (h1 : R32 (a1)) : J G yX12_isInHouse cX12_isInHouse 2 (some .boolean) d S0 0 [(0, 2, a0), (1, 0, a1)] [] S (f_X12_isInHouse a0 a1 S) := by
  unfold f_X12_isInHouse
  refine j_aload_n 0 dX12_isInHouse_0 rfl rfl ?_
  refine j_iload_n 1 dX12_isInHouse_1 rfl rfl ?_
  refine j_callV (ci := 12) (As := [(0, a1)]) (st := []) kc_X12_isLot (c_X12_isLot a0 a1 S h0 h1) rfl lm_X12_64 ki_X12_isLot ke_X12_isLot rfl (Nat.le_of_ble_eq_true rfl) (Nat.le_trans (m := 3) (Nat.le_of_ble_eq_true rfl) hd0) dX12_isInHouse_2 (fun (v1 : Int) (S2 : jSt) (hv1 : (v1) = 0 ∨ (v1) = 1) => ?_)
  refine j_if_eq (tgt := 21) (jZ_R hv1) dX12_isInHouse_5 rfl (fun _ => ?_) (fun _ => ?_)
  · refine j_sub [] rfl ?_
    exact p_f_X12_isInHouse_b21 hd0 S2
  · refine j_aload_n 0 dX12_isInHouse_8 rfl rfl ?_
    refine j_iload_n 1 dX12_isInHouse_9 rfl rfl ?_
    refine j_iconst dX12_isInHouse_10 ?_
    refine j_callV (ci := 12) (As := [(0, a1), (0, 1)]) (st := []) kc_X12_get (c_X12_get a0 a1 1 S2 h0 h1 (jZ_R jz1)) rfl lm_X12_68 ki_X12_get ke_X12_get rfl (Nat.le_of_ble_eq_true rfl) (Nat.le_trans (m := 3) (Nat.le_of_ble_eq_true rfl) hd0) dX12_isInHouse_11 (fun (v3 : Int) (S4 : jSt) (hv3 : R32 (v3)) => ?_)
    refine j_if_ne (tgt := 21) hv3 dX12_isInHouse_14 rfl (fun _ => ?_) (fun _ => ?_)
    · refine j_sub [] rfl ?_
      exact p_f_X12_isInHouse_b21 hd0 S4
    · refine j_iconst dX12_isInHouse_17 ?_
      refine j_goto (tgt := 22) dX12_isInHouse_18 rfl ?_
      refine j_sub [] rfl ?_
      exact p_f_X12_isInHouse_b22 hd0 1 S4 jz1
theorem c_X12_isInHouse {G : jG} (a0 : Int) (a1 : Int) (S : jSt) (h0 : 0 ≤ (a0)) (h1 : R32 (a1)) : CT G yX12_isInHouse cX12_isInHouse 2 (some .boolean) 3 ([(2, a0), (0, a1)].map jval) S (f_X12_isInHouse a0 a1 S) := ct_of [(2, a0), (0, a1)] (by decide) rfl (Nat.le_of_ble_eq_true rfl) (e_X12_isInHouse (Nat.le_refl _) a0 a1 S h0 h1)
-- X12_held
def f_X12_held_b24 (x0 : Int) (S : jSt) : Option (Int × jSt) :=
  some (x0, S)
theorem p_f_X12_held_b24 {G : jG} {d : Nat} {S0 : jSt} (hd0 : 1 ≤ d) : ∀ (x0 : Int) (S : jSt), (R32 (x0)) → J G yX12_held cX12_held 4 (some .int) d S0 24 [] [(0, x0)] S (f_X12_held_b24  x0 S) := by
  intro x0 S h0
  unfold f_X12_held_b24
  exact j_ireturn h0 dX12_held_24
def f_X12_held (a0 : Int) (a1 : Int) (a2 : Int) (S : jSt) : Option (Int × jSt) :=
  if a1 ≤ a0 then if a0 ≤ a2 then f_X12_held_b24 (w32 a0) S else f_X12_held_b24 a2 S else f_X12_held_b24 a1 S
theorem e_X12_held {G : jG} {d : Nat} {S0 : jSt} (hd0 : 1 ≤ d) (a0 : Int) (a1 : Int) (a2 : Int) (S : jSt) (h0 : R64 (a0)) (h1 : R32 (a1)) (h2 : R32 (a2)) : J G yX12_held cX12_held 4 (some .int) d S0 0 [(0, 1, a0), (2, 0, a1), (3, 0, a2)] [] S (f_X12_held a0 a1 a2 S) := by
  unfold f_X12_held
  refine j_lload_n 0 dX12_held_0 rfl rfl ?_
  refine j_iload_n 1 dX12_held_1 rfl rfl ?_
  refine j_i2l h1 dX12_held_2 ?_
  refine j_lcmp_ge (tgt := 11) h0 (R32_R64 h1) dX12_held_3 dX12_held_4 rfl (fun _ => ?_) (fun _ => ?_)
  · refine j_lload_n 0 dX12_held_11 rfl rfl ?_
    refine j_iload_n 2 dX12_held_12 rfl rfl ?_
    refine j_i2l h2 dX12_held_13 ?_
    refine j_lcmp_le (tgt := 22) h0 (R32_R64 h2) dX12_held_14 dX12_held_15 rfl (fun _ => ?_) (fun _ => ?_)
    · refine j_lload_n 0 dX12_held_22 rfl rfl ?_
      refine j_l2i dX12_held_23 ?_
      refine j_sub [] rfl ?_
      exact p_f_X12_held_b24 hd0 (w32 a0) S (w32_R _)
    · refine j_iload_n 2 dX12_held_18 rfl rfl ?_
      refine j_goto (tgt := 24) dX12_held_19 rfl ?_
      refine j_sub [] rfl ?_
      exact p_f_X12_held_b24 hd0 a2 S h2
  · refine j_iload_n 1 dX12_held_7 rfl rfl ?_
    refine j_goto (tgt := 24) dX12_held_8 rfl ?_
    refine j_sub [] rfl ?_
    exact p_f_X12_held_b24 hd0 a1 S h1
theorem c_X12_held {G : jG} (a0 : Int) (a1 : Int) (a2 : Int) (S : jSt) (h0 : R64 (a0)) (h1 : R32 (a1)) (h2 : R32 (a2)) : CT G yX12_held cX12_held 4 (some .int) 1 ([(1, a0), (0, a1), (0, a2)].map jval) S (f_X12_held a0 a1 a2 S) := ct_of [(1, a0), (0, a1), (0, a2)] (by decide) rfl (Nat.le_of_ble_eq_true rfl) (e_X12_held (Nat.le_refl _) a0 a1 a2 S h0 h1 h2)
-- X12_lay
def f_X12_lay (a0 : Int) (a1 : Int) (a2 : Int) (a3 : Int) (S : jSt) : Option (Int × jSt) :=
  fgetr S a0 12 0 (fun v1 => fast S v1 (w32 ((w32 (71 + (w32 (14 * a1)))) + a2)) 1 a3 (fun S2 => some (0, S2)))
theorem e_X12_lay {G : jG} {d : Nat} {S0 : jSt} (hd0 : 1 ≤ d) (a0 : Int) (a1 : Int) (a2 : Int) (a3 : Int) (S : jSt) (h0 : 0 ≤ (a0)) (h1 : R32 (a1)) (h2 : R32 (a2)) (h3 : R32 (a3)) : J G yX12_lay cX12_lay 4 none d S0 0 [(0, 2, a0), (1, 0, a1), (2, 0, a2), (3, 0, a3)] [] S (f_X12_lay a0 a1 a2 a3 S) := by
  unfold f_X12_lay
  refine j_aload_n 0 dX12_lay_0 rfl rfl ?_
  refine j_getr (ci := 12) (k := 0) rfl in_X12 (Nat.le_of_ble_eq_true rfl) rfl rfl fl_X12_7 dX12_lay_1 (fun (v1 : Int) (hv1 : 0 ≤ v1) => ?_)
  refine j_bipush dX12_lay_4 (by decide) ?_
  refine j_bipush dX12_lay_6 (by decide) ?_
  refine j_iload_n 1 dX12_lay_8 rfl rfl ?_
  refine j_imul dX12_lay_9 ?_
  refine j_iadd dX12_lay_10 ?_
  refine j_iload_n 2 dX12_lay_11 rfl rfl ?_
  refine j_iadd dX12_lay_12 ?_
  refine j_iload_n 3 dX12_lay_13 rfl rfl ?_
  refine j_iastore (w32_R _) h3 dX12_lay_14 (fun S2 => ?_)
  exact j_return dX12_lay_15
theorem c_X12_lay {G : jG} (a0 : Int) (a1 : Int) (a2 : Int) (a3 : Int) (S : jSt) (h0 : 0 ≤ (a0)) (h1 : R32 (a1)) (h2 : R32 (a2)) (h3 : R32 (a3)) : CT G yX12_lay cX12_lay 4 none 1 ([(2, a0), (0, a1), (0, a2), (0, a3)].map jval) S (f_X12_lay a0 a1 a2 a3 S) := ct_of [(2, a0), (0, a1), (0, a2), (0, a3)] (by decide) rfl (Nat.le_of_ble_eq_true rfl) (e_X12_lay (Nat.le_refl _) a0 a1 a2 a3 S h0 h1 h2 h3)
-- X12_bits
def f_X12_bits_b4B (r4 : Int → Int → jSt → Option (Int × jSt)) (x0 : Int) (x1 : Int) (S : jSt) : Option (Int × jSt) :=
  if x1 = 0 then some (x0, S) else flet (w32 (x0 + 1)) (fun v1 => flet (iand32 x1 (w32 (x1 - 1))) (fun v2 => r4 v1 v2 S))
theorem p_f_X12_bits_b4B {G : jG} {d : Nat} {S0 : jSt} (hd0 : 1 ≤ d) {r4 : Int → Int → jSt → Option (Int × jSt)} (k4 : ∀ (x0 : Int) (x1 : Int) (S : jSt), (R32 (x0)) → (R32 (x1)) → J G yX12_bits cX12_bits 3 (some .int) d S0 4 [(1, 0, x0), (2, 0, x1)] [] S (r4 x0 x1 S)) : ∀ (x0 : Int) (x1 : Int) (S : jSt), (R32 (x0)) → (R32 (x1)) → J G yX12_bits cX12_bits 3 (some .int) d S0 4 [(1, 0, x0), (2, 0, x1)] [] S (f_X12_bits_b4B r4 x0 x1 S) := by
  intro x0 x1 S h0 h1
  unfold f_X12_bits_b4B
  refine j_iload_n 1 dX12_bits_4 rfl rfl ?_
  refine j_if_eq (tgt := 20) h1 dX12_bits_5 rfl (fun _ => ?_) (fun _ => ?_)
  · refine j_iload_n 0 dX12_bits_20 rfl rfl ?_
    exact j_ireturn h0 dX12_bits_21
  · refine j_iincL (q := 0) dX12_bits_8 rfl (Nat.le_of_ble_eq_true rfl) (fun v1 hv1 => ?_)
    refine j_lv (lv' := [(1, 0, v1), (2, 0, x1)]) rfl ?_
    refine j_iload_n 1 dX12_bits_11 rfl rfl ?_
    refine j_iload_n 1 dX12_bits_12 rfl rfl ?_
    refine j_iconst dX12_bits_13 ?_
    refine j_isub dX12_bits_14 ?_
    refine j_iand dX12_bits_15 ?_
    refine j_leti (iand32_R _ _) (fun v2 hv2 => ?_)
    refine j_istore_n (lv' := [(2, 0, v2), (1, 0, v1)]) dX12_bits_16 rfl (Nat.le_of_ble_eq_true rfl) rfl ?_
    refine j_goto (tgt := 4) dX12_bits_17 rfl ?_
    refine j_sub [1, 0] rfl ?_
    exact k4 v1 v2 S hv1 hv2
def f_X12_bits_b4 : Int → Int → jSt → Option (Int × jSt) := jrep (β := Int → Int → jSt → Option (Int × jSt)) (fun _ _ _ => none) (fun r => f_X12_bits_b4B r) jN
theorem p_f_X12_bits_b4 {G : jG} {d : Nat} {S0 : jSt} (hd0 : 1 ≤ d) : ∀ (x0 : Int) (x1 : Int) (S : jSt), (R32 (x0)) → (R32 (x1)) → J G yX12_bits cX12_bits 3 (some .int) d S0 4 [(1, 0, x0), (2, 0, x1)] [] S (f_X12_bits_b4  x0 x1 S) :=
  jrep_ind (P := fun (r : Int → Int → jSt → Option (Int × jSt)) => ∀ (x0 : Int) (x1 : Int) (S : jSt), (R32 (x0)) → (R32 (x1)) → J G yX12_bits cX12_bits 3 (some .int) d S0 4 [(1, 0, x0), (2, 0, x1)] [] S (r x0 x1 S)) (by intros; exact j_none) (fun r k => p_f_X12_bits_b4B hd0 k) jN
def f_X12_bits (a0 : Int) (S : jSt) : Option (Int × jSt) :=
  f_X12_bits_b4 0 a0 S
theorem e_X12_bits {G : jG} {d : Nat} {S0 : jSt} (hd0 : 1 ≤ d) (a0 : Int) (S : jSt) (h0 : R32 (a0)) : J G yX12_bits cX12_bits 3 (some .int) d S0 0 [(0, 0, a0)] [] S (f_X12_bits a0 S) := by
  unfold f_X12_bits
  refine j_iconst dX12_bits_0 ?_
  refine j_istore_n (lv' := [(1, 0, 0), (0, 0, a0)]) dX12_bits_1 rfl (Nat.le_of_ble_eq_true rfl) rfl ?_
  refine j_iload_n 1 dX12_bits_2 rfl rfl ?_
  refine j_istore_n (lv' := [(2, 0, a0), (1, 0, 0), (0, 0, a0)]) dX12_bits_3 rfl (Nat.le_of_ble_eq_true rfl) rfl ?_
  refine j_sub [1, 0] rfl ?_
  exact p_f_X12_bits_b4 hd0 0 a0 S (jZ_R jz0) h0
theorem c_X12_bits {G : jG} (a0 : Int) (S : jSt) (h0 : R32 (a0)) : CT G yX12_bits cX12_bits 3 (some .int) 1 ([(0, a0)].map jval) S (f_X12_bits a0 S) := ct_of [(0, a0)] (by decide) rfl (Nat.le_of_ble_eq_true rfl) (e_X12_bits (Nat.le_refl _) a0 S h0)
-- X12_hasLots
def f_X12_hasLots_b34 (r4 : Int → Int → Int → Int → jSt → Option (Int × jSt)) (x0 : Int) (x1 : Int) (x2 : Int) (x3 : Int) (x4 : Int) (S : jSt) : Option (Int × jSt) :=
  flet (ior32 x3 x4) (fun v5 => flet (w32 (x2 + 1)) (fun v6 => r4 x0 x1 v5 v6 S))
theorem p_f_X12_hasLots_b34 {G : jG} {d : Nat} {S0 : jSt} (hd0 : 2 ≤ d) {r4 : Int → Int → Int → Int → jSt → Option (Int × jSt)} (k4 : ∀ (x0 : Int) (x1 : Int) (x2 : Int) (x3 : Int) (S : jSt), (0 ≤ (x0)) → (R32 (x1)) → (R32 (x2)) → (R32 (x3)) → J G yX12_hasLots cX12_hasLots 4 (some .int) d S0 4 [(0, 2, x0), (1, 0, x1), (2, 0, x2), (3, 0, x3)] [] S (r4 x0 x1 x2 x3 S)) : ∀ (x0 : Int) (x1 : Int) (x2 : Int) (x3 : Int) (x4 : Int) (S : jSt), (0 ≤ (x0)) → (R32 (x1)) → (R32 (x2)) → (R32 (x3)) → (R32 (x4)) → J G yX12_hasLots cX12_hasLots 4 (some .int) d S0 34 [(0, 2, x0), (1, 0, x1), (3, 0, x2)] [(0, x4), (0, x3)] S (f_X12_hasLots_b34 r4 x0 x1 x2 x3 x4 S) := by
  intro x0 x1 x2 x3 x4 S h0 h1 h2 h3 h4
  unfold f_X12_hasLots_b34
  refine j_ior dX12_hasLots_34 ?_
  refine j_leti (ior32_R _ _) (fun v5 hv5 => ?_)
  refine j_istore_n (lv' := [(2, 0, v5), (0, 2, x0), (1, 0, x1), (3, 0, x2)]) dX12_hasLots_35 rfl (Nat.le_of_ble_eq_true rfl) rfl ?_
  refine j_iincL (q := 3) dX12_hasLots_36 rfl (Nat.le_of_ble_eq_true rfl) (fun v6 hv6 => ?_)
  refine j_lv (lv' := [(3, 0, v6), (2, 0, v5), (0, 2, x0), (1, 0, x1)]) rfl ?_
  refine j_goto (tgt := 4) dX12_hasLots_39 rfl ?_
  refine j_sub [2, 3, 1, 0] rfl ?_
  exact k4 x0 x1 v5 v6 S h0 h1 hv5 hv6
def f_X12_hasLots_b4B (r4 : Int → Int → Int → Int → jSt → Option (Int × jSt)) (x0 : Int) (x1 : Int) (x2 : Int) (x3 : Int) (S : jSt) : Option (Int × jSt) :=
  fgetr S x0 12 0 (fun v1 => fald S v1 0 1 (fun v2 => if v2 ≤ x3 then some (x2, S) else fcallv S x0 12 (f_X12_get x0 x3 1 S) (fun v3 S4 => if v3 = (w32 (3 + x1)) then f_X12_hasLots_b34 r4 x0 x1 x3 x2 (ishl32 1 x3) S4 else f_X12_hasLots_b34 r4 x0 x1 x3 x2 0 S4)))
theorem p_f_X12_hasLots_b4B {G : jG} {d : Nat} {S0 : jSt} (hd0 : 2 ≤ d) {r4 : Int → Int → Int → Int → jSt → Option (Int × jSt)} (k4 : ∀ (x0 : Int) (x1 : Int) (x2 : Int) (x3 : Int) (S : jSt), (0 ≤ (x0)) → (R32 (x1)) → (R32 (x2)) → (R32 (x3)) → J G yX12_hasLots cX12_hasLots 4 (some .int) d S0 4 [(0, 2, x0), (1, 0, x1), (2, 0, x2), (3, 0, x3)] [] S (r4 x0 x1 x2 x3 S)) : ∀ (x0 : Int) (x1 : Int) (x2 : Int) (x3 : Int) (S : jSt), (0 ≤ (x0)) → (R32 (x1)) → (R32 (x2)) → (R32 (x3)) → J G yX12_hasLots cX12_hasLots 4 (some .int) d S0 4 [(0, 2, x0), (1, 0, x1), (2, 0, x2), (3, 0, x3)] [] S (f_X12_hasLots_b4B r4 x0 x1 x2 x3 S) := by
  intro x0 x1 x2 x3 S h0 h1 h2 h3
  unfold f_X12_hasLots_b4B
  refine j_iload_n 3 dX12_hasLots_4 rfl rfl ?_
  refine j_aload_n 0 dX12_hasLots_5 rfl rfl ?_
  refine j_getr (ci := 12) (k := 0) rfl in_X12 (Nat.le_of_ble_eq_true rfl) rfl rfl fl_X12_7 dX12_hasLots_6 (fun (v1 : Int) (hv1 : 0 ≤ v1) => ?_)
  refine j_iconst dX12_hasLots_9 ?_
  refine j_iaload (jZ_R jz0) dX12_hasLots_10 (fun (v2 : Int) (hv2 : R32 (v2)) => ?_)
  refine j_icmp_ge (tgt := 42) h3 hv2 dX12_hasLots_11 rfl (fun _ => ?_) (fun _ => ?_)
  · refine j_iload_n 2 dX12_hasLots_42 rfl rfl ?_
    exact j_ireturn h2 dX12_hasLots_43
  · refine j_iload_n 2 dX12_hasLots_14 rfl rfl ?_
    refine j_aload_n 0 dX12_hasLots_15 rfl rfl ?_
    refine j_iload_n 3 dX12_hasLots_16 rfl rfl ?_
    refine j_iconst dX12_hasLots_17 ?_
    refine j_callV (ci := 12) (As := [(0, x3), (0, 1)]) (st := [(0, x2)]) kc_X12_get (c_X12_get x0 x3 1 S h0 h3 (jZ_R jz1)) rfl lm_X12_68 ki_X12_get ke_X12_get rfl (Nat.le_of_ble_eq_true rfl) (Nat.le_trans (m := 2) (Nat.le_of_ble_eq_true rfl) hd0) dX12_hasLots_18 (fun (v3 : Int) (S4 : jSt) (hv3 : R32 (v3)) => ?_)
    refine j_iconst dX12_hasLots_21 ?_
    refine j_iload_n 1 dX12_hasLots_22 rfl rfl ?_
    refine j_iadd dX12_hasLots_23 ?_
    refine j_icmp_ne (tgt := 33) hv3 (w32_R _) dX12_hasLots_24 rfl (fun _ => ?_) (fun _ => ?_)
    · refine j_iconst dX12_hasLots_33 ?_
      refine j_sub [0, 1, 3] rfl ?_
      exact p_f_X12_hasLots_b34 hd0 k4 x0 x1 x3 x2 0 S4 h0 h1 h3 h2 (jZ_R jz0)
    · refine j_iconst dX12_hasLots_27 ?_
      refine j_iload_n 3 dX12_hasLots_28 rfl rfl ?_
      refine j_ishl dX12_hasLots_29 ?_
      refine j_goto (tgt := 34) dX12_hasLots_30 rfl ?_
      refine j_sub [0, 1, 3] rfl ?_
      exact p_f_X12_hasLots_b34 hd0 k4 x0 x1 x3 x2 (ishl32 1 x3) S4 h0 h1 h3 h2 (ishl32_R _ _)
def f_X12_hasLots_b4 : Int → Int → Int → Int → jSt → Option (Int × jSt) := jrep (β := Int → Int → Int → Int → jSt → Option (Int × jSt)) (fun _ _ _ _ _ => none) (fun r => f_X12_hasLots_b4B r) jN
theorem p_f_X12_hasLots_b4 {G : jG} {d : Nat} {S0 : jSt} (hd0 : 2 ≤ d) : ∀ (x0 : Int) (x1 : Int) (x2 : Int) (x3 : Int) (S : jSt), (0 ≤ (x0)) → (R32 (x1)) → (R32 (x2)) → (R32 (x3)) → J G yX12_hasLots cX12_hasLots 4 (some .int) d S0 4 [(0, 2, x0), (1, 0, x1), (2, 0, x2), (3, 0, x3)] [] S (f_X12_hasLots_b4  x0 x1 x2 x3 S) :=
  jrep_ind (P := fun (r : Int → Int → Int → Int → jSt → Option (Int × jSt)) => ∀ (x0 : Int) (x1 : Int) (x2 : Int) (x3 : Int) (S : jSt), (0 ≤ (x0)) → (R32 (x1)) → (R32 (x2)) → (R32 (x3)) → J G yX12_hasLots cX12_hasLots 4 (some .int) d S0 4 [(0, 2, x0), (1, 0, x1), (2, 0, x2), (3, 0, x3)] [] S (r x0 x1 x2 x3 S)) (by intros; exact j_none) (fun r k => p_f_X12_hasLots_b4B hd0 k) jN
def f_X12_hasLots (a0 : Int) (a1 : Int) (S : jSt) : Option (Int × jSt) :=
  f_X12_hasLots_b4 a0 a1 0 0 S
theorem e_X12_hasLots {G : jG} {d : Nat} {S0 : jSt} (hd0 : 2 ≤ d) (a0 : Int) (a1 : Int) (S : jSt) (h0 : 0 ≤ (a0)) (h1 : R32 (a1)) : J G yX12_hasLots cX12_hasLots 4 (some .int) d S0 0 [(0, 2, a0), (1, 0, a1)] [] S (f_X12_hasLots a0 a1 S) := by
  unfold f_X12_hasLots
  refine j_iconst dX12_hasLots_0 ?_
  refine j_istore_n (lv' := [(2, 0, 0), (0, 2, a0), (1, 0, a1)]) dX12_hasLots_1 rfl (Nat.le_of_ble_eq_true rfl) rfl ?_
  refine j_iconst dX12_hasLots_2 ?_
  refine j_istore_n (lv' := [(3, 0, 0), (2, 0, 0), (0, 2, a0), (1, 0, a1)]) dX12_hasLots_3 rfl (Nat.le_of_ble_eq_true rfl) rfl ?_
  refine j_sub [2, 3, 1, 0] rfl ?_
  exact p_f_X12_hasLots_b4 hd0 a0 a1 0 0 S h0 h1 (jZ_R jz0) (jZ_R jz0)
theorem c_X12_hasLots {G : jG} (a0 : Int) (a1 : Int) (S : jSt) (h0 : 0 ≤ (a0)) (h1 : R32 (a1)) : CT G yX12_hasLots cX12_hasLots 4 (some .int) 2 ([(2, a0), (0, a1)].map jval) S (f_X12_hasLots a0 a1 S) := ct_of [(2, a0), (0, a1)] (by decide) rfl (Nat.le_of_ble_eq_true rfl) (e_X12_hasLots (Nat.le_refl _) a0 a1 S h0 h1)
-- X12_name
def f_X12_name (a0 : Int) (a1 : Int) (S : jSt) : Option (Int × jSt) :=
  fgetr S a0 12 20 (fun v1 => fgetr S a0 12 0 (fun v2 => fald S v2 7 1 (fun v3 => fast S v1 0 1 v3 (fun S4 => fgetr S4 a0 12 20 (fun v5 => fcallv S4 a0 12 (f_X12_get a0 a1 0 S4) (fun v6 S7 => fast S7 v5 1 1 v6 (fun S8 => fgetr S8 a0 12 20 (fun v9 => fcallv S8 a0 12 (f_X12_get a0 a1 2 S8) (fun v10 S11 => fast S11 v9 2 1 v10 (fun S12 => fgetr S12 a0 12 20 (fun v13 => fcallv S12 a0 12 (f_X12_get a0 a1 3 S12) (fun v14 S15 => fast S15 v13 3 1 v14 (fun S16 => fgetr S16 a0 12 20 (fun v17 => fast S16 v17 4 1 a1 (fun S18 => some (0, S18))))))))))))))))
theorem e_X12_name {G : jG} {d : Nat} {S0 : jSt} (hd0 : 2 ≤ d) (a0 : Int) (a1 : Int) (S : jSt) (h0 : 0 ≤ (a0)) (h1 : R32 (a1)) : J G yX12_name cX12_name 2 none d S0 0 [(0, 2, a0), (1, 0, a1)] [] S (f_X12_name a0 a1 S) := by
  unfold f_X12_name
  refine j_aload_n 0 dX12_name_0 rfl rfl ?_
  refine j_getr (ci := 12) (k := 20) rfl in_X12 (Nat.le_of_ble_eq_true rfl) rfl rfl fl_X12_32 dX12_name_1 (fun (v1 : Int) (hv1 : 0 ≤ v1) => ?_)
  refine j_iconst dX12_name_4 ?_
  refine j_aload_n 0 dX12_name_5 rfl rfl ?_
  refine j_getr (ci := 12) (k := 0) rfl in_X12 (Nat.le_of_ble_eq_true rfl) rfl rfl fl_X12_7 dX12_name_6 (fun (v2 : Int) (hv2 : 0 ≤ v2) => ?_)
  refine j_bipush dX12_name_9 (by decide) ?_
  refine j_iaload (j_r32 7 rfl) dX12_name_11 (fun (v3 : Int) (hv3 : R32 (v3)) => ?_)
  refine j_iastore (jZ_R jz0) hv3 dX12_name_12 (fun S4 => ?_)
  refine j_aload_n 0 dX12_name_13 rfl rfl ?_
  refine j_getr (ci := 12) (k := 20) rfl in_X12 (Nat.le_of_ble_eq_true rfl) rfl rfl fl_X12_32 dX12_name_14 (fun (v5 : Int) (hv5 : 0 ≤ v5) => ?_)
  refine j_iconst dX12_name_17 ?_
  refine j_aload_n 0 dX12_name_18 rfl rfl ?_
  refine j_iload_n 1 dX12_name_19 rfl rfl ?_
  refine j_iconst dX12_name_20 ?_
  refine j_callV (ci := 12) (As := [(0, a1), (0, 0)]) (st := [(0, 1), (2, v5)]) kc_X12_get (c_X12_get a0 a1 0 S4 h0 h1 (jZ_R jz0)) rfl lm_X12_68 ki_X12_get ke_X12_get rfl (Nat.le_of_ble_eq_true rfl) (Nat.le_trans (m := 2) (Nat.le_of_ble_eq_true rfl) hd0) dX12_name_21 (fun (v6 : Int) (S7 : jSt) (hv6 : R32 (v6)) => ?_)
  refine j_iastore (jZ_R jz1) hv6 dX12_name_24 (fun S8 => ?_)
  refine j_aload_n 0 dX12_name_25 rfl rfl ?_
  refine j_getr (ci := 12) (k := 20) rfl in_X12 (Nat.le_of_ble_eq_true rfl) rfl rfl fl_X12_32 dX12_name_26 (fun (v9 : Int) (hv9 : 0 ≤ v9) => ?_)
  refine j_iconst dX12_name_29 ?_
  refine j_aload_n 0 dX12_name_30 rfl rfl ?_
  refine j_iload_n 1 dX12_name_31 rfl rfl ?_
  refine j_iconst dX12_name_32 ?_
  refine j_callV (ci := 12) (As := [(0, a1), (0, 2)]) (st := [(0, 2), (2, v9)]) kc_X12_get (c_X12_get a0 a1 2 S8 h0 h1 (j_r32 2 rfl)) rfl lm_X12_68 ki_X12_get ke_X12_get rfl (Nat.le_of_ble_eq_true rfl) (Nat.le_trans (m := 2) (Nat.le_of_ble_eq_true rfl) hd0) dX12_name_33 (fun (v10 : Int) (S11 : jSt) (hv10 : R32 (v10)) => ?_)
  refine j_iastore (j_r32 2 rfl) hv10 dX12_name_36 (fun S12 => ?_)
  refine j_aload_n 0 dX12_name_37 rfl rfl ?_
  refine j_getr (ci := 12) (k := 20) rfl in_X12 (Nat.le_of_ble_eq_true rfl) rfl rfl fl_X12_32 dX12_name_38 (fun (v13 : Int) (hv13 : 0 ≤ v13) => ?_)
  refine j_iconst dX12_name_41 ?_
  refine j_aload_n 0 dX12_name_42 rfl rfl ?_
  refine j_iload_n 1 dX12_name_43 rfl rfl ?_
  refine j_iconst dX12_name_44 ?_
  refine j_callV (ci := 12) (As := [(0, a1), (0, 3)]) (st := [(0, 3), (2, v13)]) kc_X12_get (c_X12_get a0 a1 3 S12 h0 h1 (j_r32 3 rfl)) rfl lm_X12_68 ki_X12_get ke_X12_get rfl (Nat.le_of_ble_eq_true rfl) (Nat.le_trans (m := 2) (Nat.le_of_ble_eq_true rfl) hd0) dX12_name_45 (fun (v14 : Int) (S15 : jSt) (hv14 : R32 (v14)) => ?_)
  refine j_iastore (j_r32 3 rfl) hv14 dX12_name_48 (fun S16 => ?_)
  refine j_aload_n 0 dX12_name_49 rfl rfl ?_
  refine j_getr (ci := 12) (k := 20) rfl in_X12 (Nat.le_of_ble_eq_true rfl) rfl rfl fl_X12_32 dX12_name_50 (fun (v17 : Int) (hv17 : 0 ≤ v17) => ?_)
  refine j_iconst dX12_name_53 ?_
  refine j_iload_n 1 dX12_name_54 rfl rfl ?_
  refine j_iastore (j_r32 4 rfl) h1 dX12_name_55 (fun S18 => ?_)
  exact j_return dX12_name_56
theorem c_X12_name {G : jG} (a0 : Int) (a1 : Int) (S : jSt) (h0 : 0 ≤ (a0)) (h1 : R32 (a1)) : CT G yX12_name cX12_name 2 none 2 ([(2, a0), (0, a1)].map jval) S (f_X12_name a0 a1 S) := ct_of [(2, a0), (0, a1)] (by decide) rfl (Nat.le_of_ble_eq_true rfl) (e_X12_name (Nat.le_refl _) a0 a1 S h0 h1)
-- X12_evenBy
def f_X12_evenBy_b15 (x0 : Int) (S : jSt) : Option (Int × jSt) :=
  some (x0, S)
theorem p_f_X12_evenBy_b15 {G : jG} {d : Nat} {S0 : jSt} (hd0 : 1 ≤ d) : ∀ (x0 : Int) (S : jSt), (R64 (x0)) → J G yX12_evenBy cX12_evenBy 4 (some .long) d S0 15 [] [(1, x0)] S (f_X12_evenBy_b15  x0 S) := by
  intro x0 S h0
  unfold f_X12_evenBy_b15
  exact j_lreturn h0 dX12_evenBy_15
def f_X12_evenBy (a0 : Int) (a1 : Int) (S : jSt) : Option (Int × jSt) :=
  if a1 = 0 then f_X12_evenBy_b15 0 S else if a1 = 0 then none else f_X12_evenBy_b15 (w64 ((ldiv64 a0 a1) * a1)) S
theorem e_X12_evenBy {G : jG} {d : Nat} {S0 : jSt} (hd0 : 1 ≤ d) (a0 : Int) (a1 : Int) (S : jSt) (h0 : R64 (a0)) (h1 : R64 (a1)) : J G yX12_evenBy cX12_evenBy 4 (some .long) d S0 0 [(0, 1, a0), (2, 1, a1)] [] S (f_X12_evenBy a0 a1 S) := by
  unfold f_X12_evenBy
  refine j_lload_n 1 dX12_evenBy_0 rfl rfl ?_
  refine j_lconst (z := 0) dX12_evenBy_1 rfl ?_
  refine j_lcmp_ne (tgt := 10) h1 (j_r64 0 rfl) dX12_evenBy_2 dX12_evenBy_3 rfl (fun _ => ?_) (fun _ => ?_)
  · refine j_lload_n 0 dX12_evenBy_10 rfl rfl ?_
    refine j_lload_n 1 dX12_evenBy_11 rfl rfl ?_
    refine j_ldiv h1 dX12_evenBy_12 ?_
    refine j_lload_n 1 dX12_evenBy_13 rfl rfl ?_
    refine j_lmul dX12_evenBy_14 ?_
    refine j_sub [] rfl ?_
    exact p_f_X12_evenBy_b15 hd0 (w64 ((ldiv64 a0 a1) * a1)) S (w64_R _)
  · refine j_lconst (z := 0) dX12_evenBy_6 rfl ?_
    refine j_goto (tgt := 15) dX12_evenBy_7 rfl ?_
    refine j_sub [] rfl ?_
    exact p_f_X12_evenBy_b15 hd0 0 S (j_r64 0 rfl)
theorem c_X12_evenBy {G : jG} (a0 : Int) (a1 : Int) (S : jSt) (h0 : R64 (a0)) (h1 : R64 (a1)) : CT G yX12_evenBy cX12_evenBy 4 (some .long) 1 ([(1, a0), (1, a1)].map jval) S (f_X12_evenBy a0 a1 S) := ct_of [(1, a0), (1, a1)] (by decide) rfl (Nat.le_of_ble_eq_true rfl) (e_X12_evenBy (Nat.le_refl _) a0 a1 S h0 h1)
-- X12_isAsked
def f_X12_isAsked_b111 (x0 : Int) (S : jSt) : Option (Int × jSt) :=
  some (x0, S)
theorem p_f_X12_isAsked_b111 {G : jG} {d : Nat} {S0 : jSt} (hd0 : 1 ≤ d) : ∀ (x0 : Int) (S : jSt), ((x0) = 0 ∨ (x0) = 1) → J G yX12_isAsked cX12_isAsked 5 (some .boolean) d S0 111 [] [(0, x0)] S (f_X12_isAsked_b111  x0 S) := by
  intro x0 S h0
  unfold f_X12_isAsked_b111
  exact j_zreturn h0 dX12_isAsked_111
def f_X12_isAsked (a0 : Int) (a1 : Int) (a2 : Int) (S : jSt) : Option (Int × jSt) :=
  if a0 = 10 then if a2 ≤ a1 then f_X12_isAsked_b111 0 S else f_X12_isAsked_b111 1 S else if a0 = 11 then if a2 < a1 then f_X12_isAsked_b111 0 S else f_X12_isAsked_b111 1 S else if a0 = 12 then if a1 ≤ a2 then f_X12_isAsked_b111 0 S else f_X12_isAsked_b111 1 S else if a0 = 13 then if a1 < a2 then f_X12_isAsked_b111 0 S else f_X12_isAsked_b111 1 S else if a0 = 14 then if a1 = a2 then f_X12_isAsked_b111 1 S else f_X12_isAsked_b111 0 S else if a1 = a2 then f_X12_isAsked_b111 0 S else f_X12_isAsked_b111 1 S
theorem e_X12_isAsked {G : jG} {d : Nat} {S0 : jSt} (hd0 : 1 ≤ d) (a0 : Int) (a1 : Int) (a2 : Int) (S : jSt) (h0 : R32 (a0)) (h1 : R64 (a1)) (h2 : R64 (a2)) : J G yX12_isAsked cX12_isAsked 5 (some .boolean) d S0 0 [(0, 0, a0), (1, 1, a1), (3, 1, a2)] [] S (f_X12_isAsked a0 a1 a2 S) := by
  unfold f_X12_isAsked
  refine j_iload_n 0 dX12_isAsked_0 rfl rfl ?_
  refine j_bipush dX12_isAsked_1 (by decide) ?_
  refine j_icmp_ne (tgt := 20) h0 (j_r32 10 rfl) dX12_isAsked_3 rfl (fun _ => ?_) (fun _ => ?_)
  · refine j_iload_n 0 dX12_isAsked_20 rfl rfl ?_
    refine j_bipush dX12_isAsked_21 (by decide) ?_
    refine j_icmp_ne (tgt := 40) h0 (j_r32 11 rfl) dX12_isAsked_23 rfl (fun _ => ?_) (fun _ => ?_)
    · refine j_iload_n 0 dX12_isAsked_40 rfl rfl ?_
      refine j_bipush dX12_isAsked_41 (by decide) ?_
      refine j_icmp_ne (tgt := 60) h0 (j_r32 12 rfl) dX12_isAsked_43 rfl (fun _ => ?_) (fun _ => ?_)
      · refine j_iload_n 0 dX12_isAsked_60 rfl rfl ?_
        refine j_bipush dX12_isAsked_61 (by decide) ?_
        refine j_icmp_ne (tgt := 80) h0 (j_r32 13 rfl) dX12_isAsked_63 rfl (fun _ => ?_) (fun _ => ?_)
        · refine j_iload_n 0 dX12_isAsked_80 rfl rfl ?_
          refine j_bipush dX12_isAsked_81 (by decide) ?_
          refine j_icmp_ne (tgt := 100) h0 (j_r32 14 rfl) dX12_isAsked_83 rfl (fun _ => ?_) (fun _ => ?_)
          · refine j_lload_n 1 dX12_isAsked_100 rfl rfl ?_
            refine j_lload_n 2 dX12_isAsked_101 rfl rfl ?_
            refine j_lcmp_eq (tgt := 110) h1 h2 dX12_isAsked_102 dX12_isAsked_103 rfl (fun _ => ?_) (fun _ => ?_)
            · refine j_iconst dX12_isAsked_110 ?_
              refine j_sub [] rfl ?_
              exact p_f_X12_isAsked_b111 hd0 0 S jz0
            · refine j_iconst dX12_isAsked_106 ?_
              refine j_goto (tgt := 111) dX12_isAsked_107 rfl ?_
              refine j_sub [] rfl ?_
              exact p_f_X12_isAsked_b111 hd0 1 S jz1
          · refine j_lload_n 1 dX12_isAsked_86 rfl rfl ?_
            refine j_lload_n 2 dX12_isAsked_87 rfl rfl ?_
            refine j_lcmp_ne (tgt := 96) h1 h2 dX12_isAsked_88 dX12_isAsked_89 rfl (fun _ => ?_) (fun _ => ?_)
            · refine j_iconst dX12_isAsked_96 ?_
              refine j_goto (tgt := 111) dX12_isAsked_97 rfl ?_
              refine j_sub [] rfl ?_
              exact p_f_X12_isAsked_b111 hd0 0 S jz0
            · refine j_iconst dX12_isAsked_92 ?_
              refine j_goto (tgt := 111) dX12_isAsked_93 rfl ?_
              refine j_sub [] rfl ?_
              exact p_f_X12_isAsked_b111 hd0 1 S jz1
        · refine j_lload_n 1 dX12_isAsked_66 rfl rfl ?_
          refine j_lload_n 2 dX12_isAsked_67 rfl rfl ?_
          refine j_lcmp_lt (tgt := 76) h1 h2 dX12_isAsked_68 dX12_isAsked_69 rfl (fun _ => ?_) (fun _ => ?_)
          · refine j_iconst dX12_isAsked_76 ?_
            refine j_goto (tgt := 111) dX12_isAsked_77 rfl ?_
            refine j_sub [] rfl ?_
            exact p_f_X12_isAsked_b111 hd0 0 S jz0
          · refine j_iconst dX12_isAsked_72 ?_
            refine j_goto (tgt := 111) dX12_isAsked_73 rfl ?_
            refine j_sub [] rfl ?_
            exact p_f_X12_isAsked_b111 hd0 1 S jz1
      · refine j_lload_n 1 dX12_isAsked_46 rfl rfl ?_
        refine j_lload_n 2 dX12_isAsked_47 rfl rfl ?_
        refine j_lcmp_le (tgt := 56) h1 h2 dX12_isAsked_48 dX12_isAsked_49 rfl (fun _ => ?_) (fun _ => ?_)
        · refine j_iconst dX12_isAsked_56 ?_
          refine j_goto (tgt := 111) dX12_isAsked_57 rfl ?_
          refine j_sub [] rfl ?_
          exact p_f_X12_isAsked_b111 hd0 0 S jz0
        · refine j_iconst dX12_isAsked_52 ?_
          refine j_goto (tgt := 111) dX12_isAsked_53 rfl ?_
          refine j_sub [] rfl ?_
          exact p_f_X12_isAsked_b111 hd0 1 S jz1
    · refine j_lload_n 1 dX12_isAsked_26 rfl rfl ?_
      refine j_lload_n 2 dX12_isAsked_27 rfl rfl ?_
      refine j_lcmp_gt (tgt := 36) h1 h2 dX12_isAsked_28 dX12_isAsked_29 rfl (fun _ => ?_) (fun _ => ?_)
      · refine j_iconst dX12_isAsked_36 ?_
        refine j_goto (tgt := 111) dX12_isAsked_37 rfl ?_
        refine j_sub [] rfl ?_
        exact p_f_X12_isAsked_b111 hd0 0 S jz0
      · refine j_iconst dX12_isAsked_32 ?_
        refine j_goto (tgt := 111) dX12_isAsked_33 rfl ?_
        refine j_sub [] rfl ?_
        exact p_f_X12_isAsked_b111 hd0 1 S jz1
  · refine j_lload_n 1 dX12_isAsked_6 rfl rfl ?_
    refine j_lload_n 2 dX12_isAsked_7 rfl rfl ?_
    refine j_lcmp_ge (tgt := 16) h1 h2 dX12_isAsked_8 dX12_isAsked_9 rfl (fun _ => ?_) (fun _ => ?_)
    · refine j_iconst dX12_isAsked_16 ?_
      refine j_goto (tgt := 111) dX12_isAsked_17 rfl ?_
      refine j_sub [] rfl ?_
      exact p_f_X12_isAsked_b111 hd0 0 S jz0
    · refine j_iconst dX12_isAsked_12 ?_
      refine j_goto (tgt := 111) dX12_isAsked_13 rfl ?_
      refine j_sub [] rfl ?_
      exact p_f_X12_isAsked_b111 hd0 1 S jz1
theorem c_X12_isAsked {G : jG} (a0 : Int) (a1 : Int) (a2 : Int) (S : jSt) (h0 : R32 (a0)) (h1 : R64 (a1)) (h2 : R64 (a2)) : CT G yX12_isAsked cX12_isAsked 5 (some .boolean) 1 ([(0, a0), (1, a1), (1, a2)].map jval) S (f_X12_isAsked a0 a1 a2 S) := ct_of [(0, a0), (1, a1), (1, a2)] (by decide) rfl (Nat.le_of_ble_eq_true rfl) (e_X12_isAsked (Nat.le_refl _) a0 a1 a2 S h0 h1 h2)
-- X12_joined
def f_X12_joined_b35 (x0 : Int) (S : jSt) : Option (Int × jSt) :=
  some (x0, S)
theorem p_f_X12_joined_b35 {G : jG} {d : Nat} {S0 : jSt} (hd0 : 1 ≤ d) : ∀ (x0 : Int) (S : jSt), ((x0) = 0 ∨ (x0) = 1) → J G yX12_joined cX12_joined 3 (some .boolean) d S0 35 [] [(0, x0)] S (f_X12_joined_b35  x0 S) := by
  intro x0 S h0
  unfold f_X12_joined_b35
  exact j_zreturn h0 dX12_joined_35
def f_X12_joined_b30 (S : jSt) : Option (Int × jSt) :=
  f_X12_joined_b35 1 S
theorem p_f_X12_joined_b30 {G : jG} {d : Nat} {S0 : jSt} (hd0 : 1 ≤ d) : ∀ (S : jSt), J G yX12_joined cX12_joined 3 (some .boolean) d S0 30 [] [] S (f_X12_joined_b30   S) := by
  intro S
  unfold f_X12_joined_b30
  refine j_iconst dX12_joined_30 ?_
  refine j_goto (tgt := 35) dX12_joined_31 rfl ?_
  exact p_f_X12_joined_b35 hd0 1 S jz1
def f_X12_joined_b18 (S : jSt) : Option (Int × jSt) :=
  f_X12_joined_b35 0 S
theorem p_f_X12_joined_b18 {G : jG} {d : Nat} {S0 : jSt} (hd0 : 1 ≤ d) : ∀ (S : jSt), J G yX12_joined cX12_joined 3 (some .boolean) d S0 18 [] [] S (f_X12_joined_b18   S) := by
  intro S
  unfold f_X12_joined_b18
  refine j_iconst dX12_joined_18 ?_
  refine j_goto (tgt := 35) dX12_joined_19 rfl ?_
  exact p_f_X12_joined_b35 hd0 0 S jz0
def f_X12_joined (a0 : Int) (a1 : Int) (a2 : Int) (S : jSt) : Option (Int × jSt) :=
  if a0 = 21 then if a1 = 0 then f_X12_joined_b18 S else if a2 = 0 then f_X12_joined_b18 S else f_X12_joined_b35 1 S else if a1 = 0 then if a2 = 0 then f_X12_joined_b35 0 S else f_X12_joined_b30 S else f_X12_joined_b30 S
theorem e_X12_joined {G : jG} {d : Nat} {S0 : jSt} (hd0 : 1 ≤ d) (a0 : Int) (a1 : Int) (a2 : Int) (S : jSt) (h0 : R32 (a0)) (h1 : (a1) = 0 ∨ (a1) = 1) (h2 : (a2) = 0 ∨ (a2) = 1) : J G yX12_joined cX12_joined 3 (some .boolean) d S0 0 [(0, 0, a0), (1, 0, a1), (2, 0, a2)] [] S (f_X12_joined a0 a1 a2 S) := by
  unfold f_X12_joined
  refine j_iload_n 0 dX12_joined_0 rfl rfl ?_
  refine j_bipush dX12_joined_1 (by decide) ?_
  refine j_icmp_ne (tgt := 22) h0 (j_r32 21 rfl) dX12_joined_3 rfl (fun _ => ?_) (fun _ => ?_)
  · refine j_iload_n 1 dX12_joined_22 rfl rfl ?_
    refine j_if_ne (tgt := 30) (jZ_R h1) dX12_joined_23 rfl (fun _ => ?_) (fun _ => ?_)
    · refine j_sub [] rfl ?_
      exact p_f_X12_joined_b30 hd0 S
    · refine j_iload_n 2 dX12_joined_26 rfl rfl ?_
      refine j_if_eq (tgt := 34) (jZ_R h2) dX12_joined_27 rfl (fun _ => ?_) (fun _ => ?_)
      · refine j_iconst dX12_joined_34 ?_
        refine j_sub [] rfl ?_
        exact p_f_X12_joined_b35 hd0 0 S jz0
      · refine j_sub [] rfl ?_
        exact p_f_X12_joined_b30 hd0 S
  · refine j_iload_n 1 dX12_joined_6 rfl rfl ?_
    refine j_if_eq (tgt := 18) (jZ_R h1) dX12_joined_7 rfl (fun _ => ?_) (fun _ => ?_)
    · refine j_sub [] rfl ?_
      exact p_f_X12_joined_b18 hd0 S
    · refine j_iload_n 2 dX12_joined_10 rfl rfl ?_
      refine j_if_eq (tgt := 18) (jZ_R h2) dX12_joined_11 rfl (fun _ => ?_) (fun _ => ?_)
      · refine j_sub [] rfl ?_
        exact p_f_X12_joined_b18 hd0 S
      · refine j_iconst dX12_joined_14 ?_
        refine j_goto (tgt := 35) dX12_joined_15 rfl ?_
        refine j_sub [] rfl ?_
        exact p_f_X12_joined_b35 hd0 1 S jz1
theorem c_X12_joined {G : jG} (a0 : Int) (a1 : Int) (a2 : Int) (S : jSt) (h0 : R32 (a0)) (h1 : (a1) = 0 ∨ (a1) = 1) (h2 : (a2) = 0 ∨ (a2) = 1) : CT G yX12_joined cX12_joined 3 (some .boolean) 1 ([(0, a0), (0, a1), (0, a2)].map jval) S (f_X12_joined a0 a1 a2 S) := ct_of [(0, a0), (0, a1), (0, a2)] (by decide) rfl (Nat.le_of_ble_eq_true rfl) (e_X12_joined (Nat.le_refl _) a0 a1 a2 S h0 h1 h2)
-- X12_clip
def f_X12_clip_b29 (x0 : Int) (S : jSt) : Option (Int × jSt) :=
  some (x0, S)
theorem p_f_X12_clip_b29 {G : jG} {d : Nat} {S0 : jSt} (hd0 : 1 ≤ d) : ∀ (x0 : Int) (S : jSt), (R64 (x0)) → J G yX12_clip cX12_clip 2 (some .long) d S0 29 [] [(1, x0)] S (f_X12_clip_b29  x0 S) := by
  intro x0 S h0
  unfold f_X12_clip_b29
  exact j_lreturn h0 dX12_clip_29
def f_X12_clip (a0 : Int) (S : jSt) : Option (Int × jSt) :=
  if a0 ≤ 1000000 then if (-1000000) ≤ a0 then f_X12_clip_b29 a0 S else f_X12_clip_b29 (-1000000) S else f_X12_clip_b29 1000000 S
theorem e_X12_clip {G : jG} {d : Nat} {S0 : jSt} (hd0 : 1 ≤ d) (a0 : Int) (S : jSt) (h0 : R64 (a0)) : J G yX12_clip cX12_clip 2 (some .long) d S0 0 [(0, 1, a0)] [] S (f_X12_clip a0 S) := by
  unfold f_X12_clip
  refine j_lload_n 0 dX12_clip_0 rfl rfl ?_
  refine j_ldc2 cn_X12_262 dX12_clip_1 ?_
  refine j_lcmp_le (tgt := 14) h0 (j_r64 1000000 rfl) dX12_clip_4 dX12_clip_5 rfl (fun _ => ?_) (fun _ => ?_)
  · refine j_lload_n 0 dX12_clip_14 rfl rfl ?_
    refine j_ldc2 cn_X12_264 dX12_clip_15 ?_
    refine j_lcmp_ge (tgt := 28) h0 (j_r64 (-1000000) rfl) dX12_clip_18 dX12_clip_19 rfl (fun _ => ?_) (fun _ => ?_)
    · refine j_lload_n 0 dX12_clip_28 rfl rfl ?_
      refine j_sub [] rfl ?_
      exact p_f_X12_clip_b29 hd0 a0 S h0
    · refine j_ldc2 cn_X12_264 dX12_clip_22 ?_
      refine j_goto (tgt := 29) dX12_clip_25 rfl ?_
      refine j_sub [] rfl ?_
      exact p_f_X12_clip_b29 hd0 (-1000000) S (j_r64 (-1000000) rfl)
  · refine j_ldc2 cn_X12_262 dX12_clip_8 ?_
    refine j_goto (tgt := 29) dX12_clip_11 rfl ?_
    refine j_sub [] rfl ?_
    exact p_f_X12_clip_b29 hd0 1000000 S (j_r64 1000000 rfl)
theorem c_X12_clip {G : jG} (a0 : Int) (S : jSt) (h0 : R64 (a0)) : CT G yX12_clip cX12_clip 2 (some .long) 1 ([(1, a0)].map jval) S (f_X12_clip a0 S) := ct_of [(1, a0)] (by decide) rfl (Nat.le_of_ble_eq_true rfl) (e_X12_clip (Nat.le_refl _) a0 S h0)
-- X12_two
def f_X12_two_b65 (x0 : Int) (S : jSt) : Option (Int × jSt) :=
  some (x0, S)
theorem p_f_X12_two_b65 {G : jG} {d : Nat} {S0 : jSt} (hd0 : 2 ≤ d) : ∀ (x0 : Int) (S : jSt), (R64 (x0)) → J G yX12_two cX12_two 5 (some .long) d S0 65 [] [(1, x0)] S (f_X12_two_b65  x0 S) := by
  intro x0 S h0
  unfold f_X12_two_b65
  exact j_lreturn h0 dX12_two_65
def f_X12_two (a0 : Int) (a1 : Int) (a2 : Int) (S : jSt) : Option (Int × jSt) :=
  if a0 = 6 then fcall (f_X12_clip (w64 (a1 + a2)) S) (fun v1 S2 => some (v1, S2)) else if a0 = 7 then fcall (f_X12_clip (w64 (a1 - a2)) S) (fun v3 S4 => some (v3, S4)) else if a0 = 8 then fcall (f_X12_clip (w64 (a1 * a2)) S) (fun v5 S6 => some (v5, S6)) else if a2 = 0 then f_X12_two_b65 0 S else if a2 = 0 then none else fcall (f_X12_clip (ldiv64 a1 a2) S) (fun v7 S8 => f_X12_two_b65 v7 S8)
theorem e_X12_two {G : jG} {d : Nat} {S0 : jSt} (hd0 : 2 ≤ d) (a0 : Int) (a1 : Int) (a2 : Int) (S : jSt) (h0 : R32 (a0)) (h1 : R64 (a1)) (h2 : R64 (a2)) : J G yX12_two cX12_two 5 (some .long) d S0 0 [(0, 0, a0), (1, 1, a1), (3, 1, a2)] [] S (f_X12_two a0 a1 a2 S) := by
  unfold f_X12_two
  refine j_iload_n 0 dX12_two_0 rfl rfl ?_
  refine j_ite (fun hc0 => ?_) (fun hc0 => ?_)
  · refine j_tableIn (tgt := 28) (off := 27) h0 dX12_two_1 (by omega) (by omega) (by rw [hc0]; rfl) rfl ?_
    refine j_lload_n 1 dX12_two_28 rfl rfl ?_
    refine j_lload_n 2 dX12_two_29 rfl rfl ?_
    refine j_ladd dX12_two_30 ?_
    refine j_callS (As := [(1, w64 (a1 + a2))]) (st := []) kc_X12_clip (c_X12_clip (w64 (a1 + a2)) S (w64_R _)) lm_X12_266 ks_X12_clip rfl (Nat.le_of_ble_eq_true rfl) (Nat.le_trans (m := 2) (Nat.le_of_ble_eq_true rfl) hd0) dX12_two_31 (fun (v1 : Int) (S2 : jSt) (hv1 : R64 (v1)) => ?_)
    exact j_lreturn hv1 dX12_two_34
  refine j_ite (fun hc1 => ?_) (fun hc1 => ?_)
  · refine j_tableIn (tgt := 35) (off := 34) h0 dX12_two_1 (by omega) (by omega) (by rw [hc1]; rfl) rfl ?_
    refine j_lload_n 1 dX12_two_35 rfl rfl ?_
    refine j_lload_n 2 dX12_two_36 rfl rfl ?_
    refine j_lsub dX12_two_37 ?_
    refine j_callS (As := [(1, w64 (a1 - a2))]) (st := []) kc_X12_clip (c_X12_clip (w64 (a1 - a2)) S (w64_R _)) lm_X12_266 ks_X12_clip rfl (Nat.le_of_ble_eq_true rfl) (Nat.le_trans (m := 2) (Nat.le_of_ble_eq_true rfl) hd0) dX12_two_38 (fun (v3 : Int) (S4 : jSt) (hv3 : R64 (v3)) => ?_)
    exact j_lreturn hv3 dX12_two_41
  refine j_ite (fun hc2 => ?_) (fun hc2 => ?_)
  · refine j_tableIn (tgt := 42) (off := 41) h0 dX12_two_1 (by omega) (by omega) (by rw [hc2]; rfl) rfl ?_
    refine j_lload_n 1 dX12_two_42 rfl rfl ?_
    refine j_lload_n 2 dX12_two_43 rfl rfl ?_
    refine j_lmul dX12_two_44 ?_
    refine j_callS (As := [(1, w64 (a1 * a2))]) (st := []) kc_X12_clip (c_X12_clip (w64 (a1 * a2)) S (w64_R _)) lm_X12_266 ks_X12_clip rfl (Nat.le_of_ble_eq_true rfl) (Nat.le_trans (m := 2) (Nat.le_of_ble_eq_true rfl) hd0) dX12_two_45 (fun (v5 : Int) (S6 : jSt) (hv5 : R64 (v5)) => ?_)
    exact j_lreturn hv5 dX12_two_48
  refine j_tableOut (tgt := 49) h0 dX12_two_1 (by omega) rfl ?_
  refine j_lload_n 2 dX12_two_49 rfl rfl ?_
  refine j_lconst (z := 0) dX12_two_50 rfl ?_
  refine j_lcmp_ne (tgt := 59) h2 (j_r64 0 rfl) dX12_two_51 dX12_two_52 rfl (fun _ => ?_) (fun _ => ?_)
  · refine j_lload_n 1 dX12_two_59 rfl rfl ?_
    refine j_lload_n 2 dX12_two_60 rfl rfl ?_
    refine j_ldiv h2 dX12_two_61 ?_
    refine j_callS (As := [(1, ldiv64 a1 a2)]) (st := []) kc_X12_clip (c_X12_clip (ldiv64 a1 a2) S (ldiv64_R _ _)) lm_X12_266 ks_X12_clip rfl (Nat.le_of_ble_eq_true rfl) (Nat.le_trans (m := 2) (Nat.le_of_ble_eq_true rfl) hd0) dX12_two_62 (fun (v7 : Int) (S8 : jSt) (hv7 : R64 (v7)) => ?_)
    refine j_sub [] rfl ?_
    exact p_f_X12_two_b65 hd0 v7 S8 hv7
  · refine j_lconst (z := 0) dX12_two_55 rfl ?_
    refine j_goto (tgt := 65) dX12_two_56 rfl ?_
    refine j_sub [] rfl ?_
    exact p_f_X12_two_b65 hd0 0 S (j_r64 0 rfl)
theorem c_X12_two {G : jG} (a0 : Int) (a1 : Int) (a2 : Int) (S : jSt) (h0 : R32 (a0)) (h1 : R64 (a1)) (h2 : R64 (a2)) : CT G yX12_two cX12_two 5 (some .long) 2 ([(0, a0), (1, a1), (1, a2)].map jval) S (f_X12_two a0 a1 a2 S) := ct_of [(0, a0), (1, a1), (1, a2)] (by decide) rfl (Nat.le_of_ble_eq_true rfl) (e_X12_two (Nat.le_refl _) a0 a1 a2 S h0 h1 h2)
-- X12_worthsOf
def f_X12_worthsOf_b30 (x0 : Int) (S : jSt) : Option (Int × jSt) :=
  some (x0, S)
theorem p_f_X12_worthsOf_b30 {G : jG} {d : Nat} {S0 : jSt} (hd0 : 2 ≤ d) : ∀ (x0 : Int) (S : jSt), (R64 (x0)) → J G yX12_worthsOf cX12_worthsOf 3 (some .long) d S0 30 [] [(1, x0)] S (f_X12_worthsOf_b30  x0 S) := by
  intro x0 S h0
  unfold f_X12_worthsOf_b30
  exact j_lreturn h0 dX12_worthsOf_30
def f_X12_worthsOf_b29 (S : jSt) : Option (Int × jSt) :=
  f_X12_worthsOf_b30 0 S
theorem p_f_X12_worthsOf_b29 {G : jG} {d : Nat} {S0 : jSt} (hd0 : 2 ≤ d) : ∀ (S : jSt), J G yX12_worthsOf cX12_worthsOf 3 (some .long) d S0 29 [] [] S (f_X12_worthsOf_b29   S) := by
  intro S
  unfold f_X12_worthsOf_b29
  refine j_lconst (z := 0) dX12_worthsOf_29 rfl ?_
  exact p_f_X12_worthsOf_b30 hd0 0 S (j_r64 0 rfl)
def f_X12_worthsOf (a0 : Int) (a1 : Int) (S : jSt) : Option (Int × jSt) :=
  if a1 < 0 then f_X12_worthsOf_b29 S else fgetr S a0 12 0 (fun v1 => fald S v1 0 1 (fun v2 => if v2 ≤ a1 then f_X12_worthsOf_b29 S else fcallv S a0 12 (f_X12_get a0 (w32 a1) 2 S) (fun v3 S4 => f_X12_worthsOf_b30 v3 S4)))
theorem e_X12_worthsOf {G : jG} {d : Nat} {S0 : jSt} (hd0 : 2 ≤ d) (a0 : Int) (a1 : Int) (S : jSt) (h0 : 0 ≤ (a0)) (h1 : R64 (a1)) : J G yX12_worthsOf cX12_worthsOf 3 (some .long) d S0 0 [(0, 2, a0), (1, 1, a1)] [] S (f_X12_worthsOf a0 a1 S) := by
  unfold f_X12_worthsOf
  refine j_lload_n 1 dX12_worthsOf_0 rfl rfl ?_
  refine j_lconst (z := 0) dX12_worthsOf_1 rfl ?_
  refine j_lcmp_lt (tgt := 29) h1 (j_r64 0 rfl) dX12_worthsOf_2 dX12_worthsOf_3 rfl (fun _ => ?_) (fun _ => ?_)
  · refine j_sub [] rfl ?_
    exact p_f_X12_worthsOf_b29 hd0 S
  · refine j_lload_n 1 dX12_worthsOf_6 rfl rfl ?_
    refine j_aload_n 0 dX12_worthsOf_7 rfl rfl ?_
    refine j_getr (ci := 12) (k := 0) rfl in_X12 (Nat.le_of_ble_eq_true rfl) rfl rfl fl_X12_7 dX12_worthsOf_8 (fun (v1 : Int) (hv1 : 0 ≤ v1) => ?_)
    refine j_iconst dX12_worthsOf_11 ?_
    refine j_iaload (jZ_R jz0) dX12_worthsOf_12 (fun (v2 : Int) (hv2 : R32 (v2)) => ?_)
    refine j_i2l hv2 dX12_worthsOf_13 ?_
    refine j_lcmp_ge (tgt := 29) h1 (R32_R64 hv2) dX12_worthsOf_14 dX12_worthsOf_15 rfl (fun _ => ?_) (fun _ => ?_)
    · refine j_sub [] rfl ?_
      exact p_f_X12_worthsOf_b29 hd0 S
    · refine j_aload_n 0 dX12_worthsOf_18 rfl rfl ?_
      refine j_lload_n 1 dX12_worthsOf_19 rfl rfl ?_
      refine j_l2i dX12_worthsOf_20 ?_
      refine j_iconst dX12_worthsOf_21 ?_
      refine j_callV (ci := 12) (As := [(0, w32 a1), (0, 2)]) (st := []) kc_X12_get (c_X12_get a0 (w32 a1) 2 S h0 (w32_R _) (j_r32 2 rfl)) rfl lm_X12_68 ki_X12_get ke_X12_get rfl (Nat.le_of_ble_eq_true rfl) (Nat.le_trans (m := 2) (Nat.le_of_ble_eq_true rfl) hd0) dX12_worthsOf_22 (fun (v3 : Int) (S4 : jSt) (hv3 : R32 (v3)) => ?_)
      refine j_i2l hv3 dX12_worthsOf_25 ?_
      refine j_goto (tgt := 30) dX12_worthsOf_26 rfl ?_
      refine j_sub [] rfl ?_
      exact p_f_X12_worthsOf_b30 hd0 v3 S4 (R32_R64 hv3)
theorem c_X12_worthsOf {G : jG} (a0 : Int) (a1 : Int) (S : jSt) (h0 : 0 ≤ (a0)) (h1 : R64 (a1)) : CT G yX12_worthsOf cX12_worthsOf 3 (some .long) 2 ([(2, a0), (1, a1)].map jval) S (f_X12_worthsOf a0 a1 S) := ct_of [(2, a0), (1, a1)] (by decide) rfl (Nat.le_of_ble_eq_true rfl) (e_X12_worthsOf (Nat.le_refl _) a0 a1 S h0 h1)
-- X12_summedUp
def f_X12_summedUp_b400 (r38 : Int → Int → Int → Int → Int → Int → jSt → Option (Int × jSt)) (x0 : Int) (x1 : Int) (x2 : Int) (x3 : Int) (x4 : Int) (x5 : Int) (S : jSt) : Option (Int × jSt) :=
  flet (w32 (x5 + 1)) (fun v19 => r38 x0 x1 x2 x3 x4 v19 S)
theorem p_f_X12_summedUp_b400 {G : jG} {d : Nat} {S0 : jSt} (hd0 : 3 ≤ d) {r38 : Int → Int → Int → Int → Int → Int → jSt → Option (Int × jSt)} (k38 : ∀ (x0 : Int) (x1 : Int) (x2 : Int) (x3 : Int) (x4 : Int) (x5 : Int) (S : jSt), (0 ≤ (x0)) → (R32 (x1)) → (R32 (x2)) → (R32 (x3)) → (R32 (x4)) → (R32 (x5)) → J G yX12_summedUp cX12_summedUp 10 (some .long) d S0 38 [(0, 2, x0), (3, 0, x1), (4, 0, x2), (5, 0, x3), (6, 0, x4), (7, 0, x5)] [] S (r38 x0 x1 x2 x3 x4 x5 S)) : ∀ (x0 : Int) (x1 : Int) (x2 : Int) (x3 : Int) (x4 : Int) (x5 : Int) (S : jSt), (0 ≤ (x0)) → (R32 (x1)) → (R32 (x2)) → (R32 (x3)) → (R32 (x4)) → (R32 (x5)) → J G yX12_summedUp cX12_summedUp 10 (some .long) d S0 400 [(0, 2, x0), (3, 0, x1), (4, 0, x2), (5, 0, x3), (6, 0, x4), (7, 0, x5)] [] S (f_X12_summedUp_b400 r38 x0 x1 x2 x3 x4 x5 S) := by
  intro x0 x1 x2 x3 x4 x5 S h0 h1 h2 h3 h4 h5
  unfold f_X12_summedUp_b400
  refine j_iincL (q := 5) dX12_summedUp_400 rfl (Nat.le_of_ble_eq_true rfl) (fun v19 hv19 => ?_)
  refine j_lv (lv' := [(7, 0, v19), (0, 2, x0), (3, 0, x1), (4, 0, x2), (5, 0, x3), (6, 0, x4)]) rfl ?_
  refine j_goto (tgt := 38) dX12_summedUp_403 rfl ?_
  refine j_sub [1, 2, 3, 4, 5, 0] rfl ?_
  exact k38 x0 x1 x2 x3 x4 v19 S h0 h1 h2 h3 h4 hv19
def f_X12_summedUp_b212 (r38 : Int → Int → Int → Int → Int → Int → jSt → Option (Int × jSt)) (x0 : Int) (x1 : Int) (x2 : Int) (x3 : Int) (x4 : Int) (x5 : Int) (x6 : Int) (x7 : Int) (x8 : Int) (S : jSt) : Option (Int × jSt) :=
  fast S x6 x7 2 x8 (fun S18 => f_X12_summedUp_b400 r38 x0 x1 x2 x3 x4 x5 S18)
theorem p_f_X12_summedUp_b212 {G : jG} {d : Nat} {S0 : jSt} (hd0 : 3 ≤ d) {r38 : Int → Int → Int → Int → Int → Int → jSt → Option (Int × jSt)} (k38 : ∀ (x0 : Int) (x1 : Int) (x2 : Int) (x3 : Int) (x4 : Int) (x5 : Int) (S : jSt), (0 ≤ (x0)) → (R32 (x1)) → (R32 (x2)) → (R32 (x3)) → (R32 (x4)) → (R32 (x5)) → J G yX12_summedUp cX12_summedUp 10 (some .long) d S0 38 [(0, 2, x0), (3, 0, x1), (4, 0, x2), (5, 0, x3), (6, 0, x4), (7, 0, x5)] [] S (r38 x0 x1 x2 x3 x4 x5 S)) : ∀ (x0 : Int) (x1 : Int) (x2 : Int) (x3 : Int) (x4 : Int) (x5 : Int) (x6 : Int) (x7 : Int) (x8 : Int) (S : jSt), (0 ≤ (x0)) → (R32 (x1)) → (R32 (x2)) → (R32 (x3)) → (R32 (x4)) → (R32 (x5)) → (0 ≤ (x6)) → (R32 (x7)) → (R64 (x8)) → J G yX12_summedUp cX12_summedUp 10 (some .long) d S0 212 [(0, 2, x0), (3, 0, x1), (4, 0, x2), (5, 0, x3), (6, 0, x4), (7, 0, x5)] [(1, x8), (0, x7), (2, x6)] S (f_X12_summedUp_b212 r38 x0 x1 x2 x3 x4 x5 x6 x7 x8 S) := by
  intro x0 x1 x2 x3 x4 x5 x6 x7 x8 S h0 h1 h2 h3 h4 h5 h6 h7 h8
  unfold f_X12_summedUp_b212
  refine j_lastore h7 h8 dX12_summedUp_212 (fun S18 => ?_)
  refine j_goto (tgt := 400) dX12_summedUp_213 rfl ?_
  exact p_f_X12_summedUp_b400 hd0 k38 x0 x1 x2 x3 x4 x5 S18 h0 h1 h2 h3 h4 h5
def f_X12_summedUp_b172 (r38 : Int → Int → Int → Int → Int → Int → jSt → Option (Int × jSt)) (x0 : Int) (x1 : Int) (x2 : Int) (x3 : Int) (x4 : Int) (x5 : Int) (x6 : Int) (S : jSt) : Option (Int × jSt) :=
  fgetr S x0 12 21 (fun v13 => if x6 = 5 then fgetr S x0 12 21 (fun v20 => fald S v20 (w32 (x3 - 1)) 2 (fun v21 => f_X12_summedUp_b212 r38 x0 x1 x2 x3 x4 x5 v13 (w32 (x3 - 1)) (w64 (-v21)) S)) else fgetr S x0 12 21 (fun v14 => fald S v14 (w32 (x3 - 1)) 2 (fun v15 => fcallv S x0 12 (f_X12_worthsOf x0 v15 S) (fun v16 S17 => f_X12_summedUp_b212 r38 x0 x1 x2 x3 x4 x5 v13 (w32 (x3 - 1)) v16 S17))))
theorem p_f_X12_summedUp_b172 {G : jG} {d : Nat} {S0 : jSt} (hd0 : 3 ≤ d) {r38 : Int → Int → Int → Int → Int → Int → jSt → Option (Int × jSt)} (k38 : ∀ (x0 : Int) (x1 : Int) (x2 : Int) (x3 : Int) (x4 : Int) (x5 : Int) (S : jSt), (0 ≤ (x0)) → (R32 (x1)) → (R32 (x2)) → (R32 (x3)) → (R32 (x4)) → (R32 (x5)) → J G yX12_summedUp cX12_summedUp 10 (some .long) d S0 38 [(0, 2, x0), (3, 0, x1), (4, 0, x2), (5, 0, x3), (6, 0, x4), (7, 0, x5)] [] S (r38 x0 x1 x2 x3 x4 x5 S)) : ∀ (x0 : Int) (x1 : Int) (x2 : Int) (x3 : Int) (x4 : Int) (x5 : Int) (x6 : Int) (S : jSt), (0 ≤ (x0)) → (R32 (x1)) → (R32 (x2)) → (R32 (x3)) → (R32 (x4)) → (R32 (x5)) → (R32 (x6)) → J G yX12_summedUp cX12_summedUp 10 (some .long) d S0 172 [(0, 2, x0), (3, 0, x1), (4, 0, x2), (5, 0, x3), (6, 0, x4), (7, 0, x5), (8, 0, x6)] [] S (f_X12_summedUp_b172 r38 x0 x1 x2 x3 x4 x5 x6 S) := by
  intro x0 x1 x2 x3 x4 x5 x6 S h0 h1 h2 h3 h4 h5 h6
  unfold f_X12_summedUp_b172
  refine j_aload_n 0 dX12_summedUp_172 rfl rfl ?_
  refine j_getr (ci := 12) (k := 21) rfl in_X12 (Nat.le_of_ble_eq_true rfl) rfl rfl fl_X12_35 dX12_summedUp_173 (fun (v13 : Int) (hv13 : 0 ≤ v13) => ?_)
  refine j_iload 3 dX12_summedUp_176 rfl ?_
  refine j_iconst dX12_summedUp_178 ?_
  refine j_isub dX12_summedUp_179 ?_
  refine j_iload 6 dX12_summedUp_180 rfl ?_
  refine j_iconst dX12_summedUp_182 ?_
  refine j_icmp_ne (tgt := 199) h6 (j_r32 5 rfl) dX12_summedUp_183 rfl (fun _ => ?_) (fun _ => ?_)
  · refine j_aload_n 0 dX12_summedUp_199 rfl rfl ?_
    refine j_aload_n 0 dX12_summedUp_200 rfl rfl ?_
    refine j_getr (ci := 12) (k := 21) rfl in_X12 (Nat.le_of_ble_eq_true rfl) rfl rfl fl_X12_35 dX12_summedUp_201 (fun (v14 : Int) (hv14 : 0 ≤ v14) => ?_)
    refine j_iload 3 dX12_summedUp_204 rfl ?_
    refine j_iconst dX12_summedUp_206 ?_
    refine j_isub dX12_summedUp_207 ?_
    refine j_laload (w32_R _) dX12_summedUp_208 (fun (v15 : Int) (hv15 : R64 (v15)) => ?_)
    refine j_callV (ci := 12) (As := [(1, v15)]) (st := [(0, w32 (x3 - 1)), (2, v13)]) kc_X12_worthsOf (c_X12_worthsOf x0 v15 S h0 hv15) rfl lm_X12_270 ki_X12_worthsOf ke_X12_worthsOf rfl (Nat.le_of_ble_eq_true rfl) (Nat.le_trans (m := 3) (Nat.le_of_ble_eq_true rfl) hd0) dX12_summedUp_209 (fun (v16 : Int) (S17 : jSt) (hv16 : R64 (v16)) => ?_)
    refine j_sub [0, 1, 2, 3, 4, 5] rfl ?_
    exact p_f_X12_summedUp_b212 hd0 k38 x0 x1 x2 x3 x4 x5 v13 (w32 (x3 - 1)) v16 S17 h0 h1 h2 h3 h4 h5 hv13 (w32_R _) hv16
  · refine j_aload_n 0 dX12_summedUp_186 rfl rfl ?_
    refine j_getr (ci := 12) (k := 21) rfl in_X12 (Nat.le_of_ble_eq_true rfl) rfl rfl fl_X12_35 dX12_summedUp_187 (fun (v20 : Int) (hv20 : 0 ≤ v20) => ?_)
    refine j_iload 3 dX12_summedUp_190 rfl ?_
    refine j_iconst dX12_summedUp_192 ?_
    refine j_isub dX12_summedUp_193 ?_
    refine j_laload (w32_R _) dX12_summedUp_194 (fun (v21 : Int) (hv21 : R64 (v21)) => ?_)
    refine j_lneg dX12_summedUp_195 ?_
    refine j_goto (tgt := 212) dX12_summedUp_196 rfl ?_
    refine j_sub [0, 1, 2, 3, 4, 5] rfl ?_
    exact p_f_X12_summedUp_b212 hd0 k38 x0 x1 x2 x3 x4 x5 v13 (w32 (x3 - 1)) (w64 (-v21)) S h0 h1 h2 h3 h4 h5 hv13 (w32_R _) (w64_R _)
def f_X12_summedUp_b363 (r38 : Int → Int → Int → Int → Int → Int → jSt → Option (Int × jSt)) (x0 : Int) (x1 : Int) (x2 : Int) (x3 : Int) (x4 : Int) (x5 : Int) (x6 : Int) (x7 : Int) (x8 : Int) (S : jSt) : Option (Int × jSt) :=
  fast S x6 x7 3 x8 (fun S34 => f_X12_summedUp_b400 r38 x0 x1 x2 x3 x4 x5 S34)
theorem p_f_X12_summedUp_b363 {G : jG} {d : Nat} {S0 : jSt} (hd0 : 3 ≤ d) {r38 : Int → Int → Int → Int → Int → Int → jSt → Option (Int × jSt)} (k38 : ∀ (x0 : Int) (x1 : Int) (x2 : Int) (x3 : Int) (x4 : Int) (x5 : Int) (S : jSt), (0 ≤ (x0)) → (R32 (x1)) → (R32 (x2)) → (R32 (x3)) → (R32 (x4)) → (R32 (x5)) → J G yX12_summedUp cX12_summedUp 10 (some .long) d S0 38 [(0, 2, x0), (3, 0, x1), (4, 0, x2), (5, 0, x3), (6, 0, x4), (7, 0, x5)] [] S (r38 x0 x1 x2 x3 x4 x5 S)) : ∀ (x0 : Int) (x1 : Int) (x2 : Int) (x3 : Int) (x4 : Int) (x5 : Int) (x6 : Int) (x7 : Int) (x8 : Int) (S : jSt), (0 ≤ (x0)) → (R32 (x1)) → (R32 (x2)) → (R32 (x3)) → (R32 (x4)) → (R32 (x5)) → (0 ≤ (x6)) → (R32 (x7)) → ((x8) = 0 ∨ (x8) = 1) → J G yX12_summedUp cX12_summedUp 10 (some .long) d S0 363 [(0, 2, x0), (3, 0, x1), (4, 0, x2), (5, 0, x3), (6, 0, x4), (7, 0, x5)] [(0, x8), (0, x7), (2, x6)] S (f_X12_summedUp_b363 r38 x0 x1 x2 x3 x4 x5 x6 x7 x8 S) := by
  intro x0 x1 x2 x3 x4 x5 x6 x7 x8 S h0 h1 h2 h3 h4 h5 h6 h7 h8
  unfold f_X12_summedUp_b363
  refine j_bastore h7 h8 dX12_summedUp_363 (fun S34 => ?_)
  refine j_goto (tgt := 400) dX12_summedUp_364 rfl ?_
  exact p_f_X12_summedUp_b400 hd0 k38 x0 x1 x2 x3 x4 x5 S34 h0 h1 h2 h3 h4 h5
def f_X12_summedUp_b283 (r38 : Int → Int → Int → Int → Int → Int → jSt → Option (Int × jSt)) (x0 : Int) (x1 : Int) (x2 : Int) (x3 : Int) (x4 : Int) (x5 : Int) (x6 : Int) (x7 : Int) (x8 : Int) (S : jSt) : Option (Int × jSt) :=
  fast S x6 x7 2 x8 (fun S53 => f_X12_summedUp_b400 r38 x0 x1 x2 x3 x4 x5 S53)
theorem p_f_X12_summedUp_b283 {G : jG} {d : Nat} {S0 : jSt} (hd0 : 3 ≤ d) {r38 : Int → Int → Int → Int → Int → Int → jSt → Option (Int × jSt)} (k38 : ∀ (x0 : Int) (x1 : Int) (x2 : Int) (x3 : Int) (x4 : Int) (x5 : Int) (S : jSt), (0 ≤ (x0)) → (R32 (x1)) → (R32 (x2)) → (R32 (x3)) → (R32 (x4)) → (R32 (x5)) → J G yX12_summedUp cX12_summedUp 10 (some .long) d S0 38 [(0, 2, x0), (3, 0, x1), (4, 0, x2), (5, 0, x3), (6, 0, x4), (7, 0, x5)] [] S (r38 x0 x1 x2 x3 x4 x5 S)) : ∀ (x0 : Int) (x1 : Int) (x2 : Int) (x3 : Int) (x4 : Int) (x5 : Int) (x6 : Int) (x7 : Int) (x8 : Int) (S : jSt), (0 ≤ (x0)) → (R32 (x1)) → (R32 (x2)) → (R32 (x3)) → (R32 (x4)) → (R32 (x5)) → (0 ≤ (x6)) → (R32 (x7)) → (R64 (x8)) → J G yX12_summedUp cX12_summedUp 10 (some .long) d S0 283 [(0, 2, x0), (3, 0, x1), (4, 0, x2), (5, 0, x3), (6, 0, x4), (7, 0, x5)] [(1, x8), (0, x7), (2, x6)] S (f_X12_summedUp_b283 r38 x0 x1 x2 x3 x4 x5 x6 x7 x8 S) := by
  intro x0 x1 x2 x3 x4 x5 x6 x7 x8 S h0 h1 h2 h3 h4 h5 h6 h7 h8
  unfold f_X12_summedUp_b283
  refine j_lastore h7 h8 dX12_summedUp_283 (fun S53 => ?_)
  refine j_goto (tgt := 400) dX12_summedUp_284 rfl ?_
  exact p_f_X12_summedUp_b400 hd0 k38 x0 x1 x2 x3 x4 x5 S53 h0 h1 h2 h3 h4 h5
def f_X12_summedUp_b112 (r38 : Int → Int → Int → Int → Int → Int → jSt → Option (Int × jSt)) (x0 : Int) (x1 : Int) (x2 : Int) (x3 : Int) (x4 : Int) (x5 : Int) (x6 : Int) (x7 : Int) (x8 : Int) (S : jSt) : Option (Int × jSt) :=
  fast S x6 x7 2 x8 (fun S71 => flet (w32 (x3 + 1)) (fun v72 => f_X12_summedUp_b400 r38 x0 x1 x2 v72 x4 x5 S71))
theorem p_f_X12_summedUp_b112 {G : jG} {d : Nat} {S0 : jSt} (hd0 : 3 ≤ d) {r38 : Int → Int → Int → Int → Int → Int → jSt → Option (Int × jSt)} (k38 : ∀ (x0 : Int) (x1 : Int) (x2 : Int) (x3 : Int) (x4 : Int) (x5 : Int) (S : jSt), (0 ≤ (x0)) → (R32 (x1)) → (R32 (x2)) → (R32 (x3)) → (R32 (x4)) → (R32 (x5)) → J G yX12_summedUp cX12_summedUp 10 (some .long) d S0 38 [(0, 2, x0), (3, 0, x1), (4, 0, x2), (5, 0, x3), (6, 0, x4), (7, 0, x5)] [] S (r38 x0 x1 x2 x3 x4 x5 S)) : ∀ (x0 : Int) (x1 : Int) (x2 : Int) (x3 : Int) (x4 : Int) (x5 : Int) (x6 : Int) (x7 : Int) (x8 : Int) (S : jSt), (0 ≤ (x0)) → (R32 (x1)) → (R32 (x2)) → (R32 (x3)) → (R32 (x4)) → (R32 (x5)) → (0 ≤ (x6)) → (R32 (x7)) → (R64 (x8)) → J G yX12_summedUp cX12_summedUp 10 (some .long) d S0 112 [(0, 2, x0), (3, 0, x1), (4, 0, x2), (5, 0, x3), (6, 0, x4), (7, 0, x5)] [(1, x8), (0, x7), (2, x6)] S (f_X12_summedUp_b112 r38 x0 x1 x2 x3 x4 x5 x6 x7 x8 S) := by
  intro x0 x1 x2 x3 x4 x5 x6 x7 x8 S h0 h1 h2 h3 h4 h5 h6 h7 h8
  unfold f_X12_summedUp_b112
  refine j_lastore h7 h8 dX12_summedUp_112 (fun S71 => ?_)
  refine j_iincL (q := 3) dX12_summedUp_113 rfl (Nat.le_of_ble_eq_true rfl) (fun v72 hv72 => ?_)
  refine j_lv (lv' := [(5, 0, v72), (0, 2, x0), (3, 0, x1), (4, 0, x2), (6, 0, x4), (7, 0, x5)]) rfl ?_
  refine j_goto (tgt := 400) dX12_summedUp_116 rfl ?_
  refine j_sub [1, 2, 3, 0, 4, 5] rfl ?_
  exact p_f_X12_summedUp_b400 hd0 k38 x0 x1 x2 v72 x4 x5 S71 h0 h1 h2 hv72 h4 h5
def f_X12_summedUp_b38B (r38 : Int → Int → Int → Int → Int → Int → jSt → Option (Int × jSt)) (x0 : Int) (x1 : Int) (x2 : Int) (x3 : Int) (x4 : Int) (x5 : Int) (S : jSt) : Option (Int × jSt) :=
  fgetr S x0 12 2 (fun v5 => fald S v5 (w32 (x1 + 2)) 1 (fun v6 => if v6 ≤ x5 then fgetr S x0 12 21 (fun v7 => fald S v7 0 2 (fun v8 => some (v8, S))) else fgetr S x0 12 2 (fun v9 => fald S v9 (w32 (x2 + (w32 (2 * x5)))) 1 (fun v10 => fgetr S x0 12 2 (fun v11 => fald S v11 (w32 ((w32 (x2 + (w32 (2 * x5)))) + 1)) 1 (fun v12 => if 1 < v10 then if v10 = 3 then flet (w32 (x3 + (-1))) (fun v60 => flet (w32 (x4 + (-1))) (fun v61 => fgetr S x0 12 22 (fun v62 => fald S v62 v61 3 (fun v63 => if v63 = 0 then fgetr S x0 12 21 (fun v64 => fgetr S x0 12 21 (fun v65 => fald S v65 v60 2 (fun v66 => fast S v64 (w32 (v60 - 1)) 2 v66 (fun S67 => f_X12_summedUp_b400 r38 x0 x1 x2 v60 v61 x5 S67)))) else f_X12_summedUp_b400 r38 x0 x1 x2 v60 v61 x5 S)))) else if v10 = 5 then f_X12_summedUp_b172 r38 x0 x1 x2 x3 x4 x5 v10 S else if v10 = 2 then f_X12_summedUp_b172 r38 x0 x1 x2 x3 x4 x5 v10 S else if 10 ≤ v10 then if 20 ≤ v10 then if v10 = 20 then fgetr S x0 12 22 (fun v31 => fgetr S x0 12 22 (fun v32 => fald S v32 (w32 (x4 - 1)) 3 (fun v33 => if v33 = 0 then f_X12_summedUp_b363 r38 x0 x1 x2 x3 x4 x5 v31 (w32 (x4 - 1)) 1 S else f_X12_summedUp_b363 r38 x0 x1 x2 x3 x4 x5 v31 (w32 (x4 - 1)) 0 S))) else flet (w32 (x4 + (-1))) (fun v22 => fgetr S x0 12 22 (fun v23 => fgetr S x0 12 22 (fun v24 => fald S v24 (w32 (v22 - 1)) 3 (fun v25 => fgetr S x0 12 22 (fun v26 => fald S v26 v22 3 (fun v27 => fcall (f_X12_joined v10 v25 v27 S) (fun v28 S29 => fast S29 v23 (w32 (v22 - 1)) 3 v28 (fun S30 => f_X12_summedUp_b400 r38 x0 x1 x2 x3 v22 x5 S30)))))))) else flet (w32 (x3 + (-2))) (fun v35 => fgetr S x0 12 22 (fun v36 => fgetr S x0 12 21 (fun v37 => fald S v37 v35 2 (fun v38 => fgetr S x0 12 21 (fun v39 => fald S v39 (w32 (v35 + 1)) 2 (fun v40 => fcall (f_X12_isAsked v10 v38 v40 S) (fun v41 S42 => fast S42 v36 x4 3 v41 (fun S43 => flet (w32 (x4 + 1)) (fun v44 => f_X12_summedUp_b400 r38 x0 x1 x2 v35 v44 x5 S43))))))))) else flet (w32 (x3 + (-1))) (fun v45 => fgetr S x0 12 21 (fun v46 => if v10 = 4 then fgetr S x0 12 21 (fun v54 => fald S v54 (w32 (v45 - 1)) 2 (fun v55 => fgetr S x0 12 21 (fun v56 => fald S v56 v45 2 (fun v57 => fcall (f_X12_evenBy v55 v57 S) (fun v58 S59 => f_X12_summedUp_b283 r38 x0 x1 x2 v45 x4 x5 v46 (w32 (v45 - 1)) v58 S59))))) else fgetr S x0 12 21 (fun v47 => fald S v47 (w32 (v45 - 1)) 2 (fun v48 => fgetr S x0 12 21 (fun v49 => fald S v49 v45 2 (fun v50 => fcall (f_X12_two v10 v48 v50 S) (fun v51 S52 => f_X12_summedUp_b283 r38 x0 x1 x2 v45 x4 x5 v46 (w32 (v45 - 1)) v51 S52))))))) else fgetr S x0 12 21 (fun v68 => if v10 = 0 then f_X12_summedUp_b112 r38 x0 x1 x2 x3 x4 x5 v68 x3 v12 S else fgetr S x0 12 20 (fun v69 => fald S v69 v12 1 (fun v70 => f_X12_summedUp_b112 r38 x0 x1 x2 x3 x4 x5 v68 x3 v70 S)))))))))
theorem p_f_X12_summedUp_b38B {G : jG} {d : Nat} {S0 : jSt} (hd0 : 3 ≤ d) {r38 : Int → Int → Int → Int → Int → Int → jSt → Option (Int × jSt)} (k38 : ∀ (x0 : Int) (x1 : Int) (x2 : Int) (x3 : Int) (x4 : Int) (x5 : Int) (S : jSt), (0 ≤ (x0)) → (R32 (x1)) → (R32 (x2)) → (R32 (x3)) → (R32 (x4)) → (R32 (x5)) → J G yX12_summedUp cX12_summedUp 10 (some .long) d S0 38 [(0, 2, x0), (3, 0, x1), (4, 0, x2), (5, 0, x3), (6, 0, x4), (7, 0, x5)] [] S (r38 x0 x1 x2 x3 x4 x5 S)) : ∀ (x0 : Int) (x1 : Int) (x2 : Int) (x3 : Int) (x4 : Int) (x5 : Int) (S : jSt), (0 ≤ (x0)) → (R32 (x1)) → (R32 (x2)) → (R32 (x3)) → (R32 (x4)) → (R32 (x5)) → J G yX12_summedUp cX12_summedUp 10 (some .long) d S0 38 [(0, 2, x0), (3, 0, x1), (4, 0, x2), (5, 0, x3), (6, 0, x4), (7, 0, x5)] [] S (f_X12_summedUp_b38B r38 x0 x1 x2 x3 x4 x5 S) := by
  intro x0 x1 x2 x3 x4 x5 S h0 h1 h2 h3 h4 h5
  unfold f_X12_summedUp_b38B
  refine j_iload 5 dX12_summedUp_38 rfl ?_
  refine j_aload_n 0 dX12_summedUp_40 rfl rfl ?_
  refine j_getr (ci := 12) (k := 2) rfl in_X12 (Nat.le_of_ble_eq_true rfl) rfl rfl fl_X12_16 dX12_summedUp_41 (fun (v5 : Int) (hv5 : 0 ≤ v5) => ?_)
  refine j_iload_n 1 dX12_summedUp_44 rfl rfl ?_
  refine j_iconst dX12_summedUp_45 ?_
  refine j_iadd dX12_summedUp_46 ?_
  refine j_iaload (w32_R _) dX12_summedUp_47 (fun (v6 : Int) (hv6 : R32 (v6)) => ?_)
  refine j_icmp_ge (tgt := 406) h5 hv6 dX12_summedUp_48 rfl (fun _ => ?_) (fun _ => ?_)
  · refine j_aload_n 0 dX12_summedUp_406 rfl rfl ?_
    refine j_getr (ci := 12) (k := 21) rfl in_X12 (Nat.le_of_ble_eq_true rfl) rfl rfl fl_X12_35 dX12_summedUp_407 (fun (v7 : Int) (hv7 : 0 ≤ v7) => ?_)
    refine j_iconst dX12_summedUp_410 ?_
    refine j_laload (jZ_R jz0) dX12_summedUp_411 (fun (v8 : Int) (hv8 : R64 (v8)) => ?_)
    exact j_lreturn hv8 dX12_summedUp_412
  · refine j_aload_n 0 dX12_summedUp_51 rfl rfl ?_
    refine j_getr (ci := 12) (k := 2) rfl in_X12 (Nat.le_of_ble_eq_true rfl) rfl rfl fl_X12_16 dX12_summedUp_52 (fun (v9 : Int) (hv9 : 0 ≤ v9) => ?_)
    refine j_iload 2 dX12_summedUp_55 rfl ?_
    refine j_iconst dX12_summedUp_57 ?_
    refine j_iload 5 dX12_summedUp_58 rfl ?_
    refine j_imul dX12_summedUp_60 ?_
    refine j_iadd dX12_summedUp_61 ?_
    refine j_iaload (w32_R _) dX12_summedUp_62 (fun (v10 : Int) (hv10 : R32 (v10)) => ?_)
    refine j_istore (lv' := [(8, 0, v10), (0, 2, x0), (3, 0, x1), (4, 0, x2), (5, 0, x3), (6, 0, x4), (7, 0, x5)]) dX12_summedUp_63 (Nat.le_of_ble_eq_true rfl) rfl ?_
    refine j_aload_n 1 dX12_summedUp_65 rfl rfl ?_
    refine j_getr (ci := 12) (k := 2) rfl in_X12 (Nat.le_of_ble_eq_true rfl) rfl rfl fl_X12_16 dX12_summedUp_66 (fun (v11 : Int) (hv11 : 0 ≤ v11) => ?_)
    refine j_iload 3 dX12_summedUp_69 rfl ?_
    refine j_iconst dX12_summedUp_71 ?_
    refine j_iload 6 dX12_summedUp_72 rfl ?_
    refine j_imul dX12_summedUp_74 ?_
    refine j_iadd dX12_summedUp_75 ?_
    refine j_iconst dX12_summedUp_76 ?_
    refine j_iadd dX12_summedUp_77 ?_
    refine j_iaload (w32_R _) dX12_summedUp_78 (fun (v12 : Int) (hv12 : R32 (v12)) => ?_)
    refine j_istore (lv' := [(9, 0, v12), (8, 0, v10), (0, 2, x0), (3, 0, x1), (4, 0, x2), (5, 0, x3), (6, 0, x4), (7, 0, x5)]) dX12_summedUp_79 (Nat.le_of_ble_eq_true rfl) rfl ?_
    refine j_iload 1 dX12_summedUp_81 rfl ?_
    refine j_iconst dX12_summedUp_83 ?_
    refine j_icmp_gt (tgt := 119) hv10 (jZ_R jz1) dX12_summedUp_84 rfl (fun _ => ?_) (fun _ => ?_)
    · refine j_iload 1 dX12_summedUp_119 rfl ?_
      refine j_iconst dX12_summedUp_121 ?_
      refine j_icmp_ne (tgt := 160) hv10 (j_r32 3 rfl) dX12_summedUp_122 rfl (fun _ => ?_) (fun _ => ?_)
      · refine j_iload 1 dX12_summedUp_160 rfl ?_
        refine j_iconst dX12_summedUp_162 ?_
        refine j_icmp_eq (tgt := 172) hv10 (j_r32 5 rfl) dX12_summedUp_163 rfl (fun _ => ?_) (fun _ => ?_)
        · refine j_sub [2, 3, 4, 5, 6, 7, 1] rfl ?_
          exact p_f_X12_summedUp_b172 hd0 k38 x0 x1 x2 x3 x4 x5 v10 S h0 h1 h2 h3 h4 h5 hv10
        · refine j_iload 1 dX12_summedUp_166 rfl ?_
          refine j_iconst dX12_summedUp_168 ?_
          refine j_icmp_ne (tgt := 216) hv10 (j_r32 2 rfl) dX12_summedUp_169 rfl (fun _ => ?_) (fun _ => ?_)
          · refine j_iload 1 dX12_summedUp_216 rfl ?_
            refine j_bipush dX12_summedUp_218 (by decide) ?_
            refine j_icmp_ge (tgt := 287) hv10 (j_r32 10 rfl) dX12_summedUp_220 rfl (fun _ => ?_) (fun _ => ?_)
            · refine j_iload 1 dX12_summedUp_287 rfl ?_
              refine j_bipush dX12_summedUp_289 (by decide) ?_
              refine j_icmp_ge (tgt := 331) hv10 (j_r32 20 rfl) dX12_summedUp_291 rfl (fun _ => ?_) (fun _ => ?_)
              · refine j_iload 1 dX12_summedUp_331 rfl ?_
                refine j_bipush dX12_summedUp_333 (by decide) ?_
                refine j_icmp_ne (tgt := 367) hv10 (j_r32 20 rfl) dX12_summedUp_335 rfl (fun _ => ?_) (fun _ => ?_)
                · refine j_iincL (q := 6) dX12_summedUp_367 rfl (Nat.le_of_ble_eq_true rfl) (fun v22 hv22 => ?_)
                  refine j_lv (lv' := [(6, 0, v22), (9, 0, v12), (8, 0, v10), (0, 2, x0), (3, 0, x1), (4, 0, x2), (5, 0, x3), (7, 0, x5)]) rfl ?_
                  refine j_aload_n 3 dX12_summedUp_370 rfl rfl ?_
                  refine j_getr (ci := 12) (k := 22) rfl in_X12 (Nat.le_of_ble_eq_true rfl) rfl rfl fl_X12_39 dX12_summedUp_371 (fun (v23 : Int) (hv23 : 0 ≤ v23) => ?_)
                  refine j_iload 0 dX12_summedUp_374 rfl ?_
                  refine j_iconst dX12_summedUp_376 ?_
                  refine j_isub dX12_summedUp_377 ?_
                  refine j_iload 2 dX12_summedUp_378 rfl ?_
                  refine j_aload_n 3 dX12_summedUp_380 rfl rfl ?_
                  refine j_getr (ci := 12) (k := 22) rfl in_X12 (Nat.le_of_ble_eq_true rfl) rfl rfl fl_X12_39 dX12_summedUp_381 (fun (v24 : Int) (hv24 : 0 ≤ v24) => ?_)
                  refine j_iload 0 dX12_summedUp_384 rfl ?_
                  refine j_iconst dX12_summedUp_386 ?_
                  refine j_isub dX12_summedUp_387 ?_
                  refine j_baload (w32_R _) dX12_summedUp_388 (fun (v25 : Int) (hv25 : (v25) = 0 ∨ (v25) = 1) => ?_)
                  refine j_aload_n 3 dX12_summedUp_389 rfl rfl ?_
                  refine j_getr (ci := 12) (k := 22) rfl in_X12 (Nat.le_of_ble_eq_true rfl) rfl rfl fl_X12_39 dX12_summedUp_390 (fun (v26 : Int) (hv26 : 0 ≤ v26) => ?_)
                  refine j_iload 0 dX12_summedUp_393 rfl ?_
                  refine j_baload hv22 dX12_summedUp_395 (fun (v27 : Int) (hv27 : (v27) = 0 ∨ (v27) = 1) => ?_)
                  refine j_callS (As := [(0, v10), (0, v25), (0, v27)]) (st := [(0, w32 (v22 - 1)), (2, v23)]) kc_X12_joined (c_X12_joined v10 v25 v27 S hv10 hv25 hv27) lm_X12_285 ks_X12_joined rfl (Nat.le_of_ble_eq_true rfl) (Nat.le_trans (m := 3) (Nat.le_of_ble_eq_true rfl) hd0) dX12_summedUp_396 (fun (v28 : Int) (S29 : jSt) (hv28 : (v28) = 0 ∨ (v28) = 1) => ?_)
                  refine j_bastore (w32_R _) hv28 dX12_summedUp_399 (fun S30 => ?_)
                  refine j_sub [3, 4, 5, 6, 0, 7] rfl ?_
                  exact p_f_X12_summedUp_b400 hd0 k38 x0 x1 x2 x3 v22 x5 S30 h0 h1 h2 h3 hv22 h5
                · refine j_aload_n 2 dX12_summedUp_338 rfl rfl ?_
                  refine j_getr (ci := 12) (k := 22) rfl in_X12 (Nat.le_of_ble_eq_true rfl) rfl rfl fl_X12_39 dX12_summedUp_339 (fun (v31 : Int) (hv31 : 0 ≤ v31) => ?_)
                  refine j_iload 6 dX12_summedUp_342 rfl ?_
                  refine j_iconst dX12_summedUp_344 ?_
                  refine j_isub dX12_summedUp_345 ?_
                  refine j_aload_n 2 dX12_summedUp_346 rfl rfl ?_
                  refine j_getr (ci := 12) (k := 22) rfl in_X12 (Nat.le_of_ble_eq_true rfl) rfl rfl fl_X12_39 dX12_summedUp_347 (fun (v32 : Int) (hv32 : 0 ≤ v32) => ?_)
                  refine j_iload 6 dX12_summedUp_350 rfl ?_
                  refine j_iconst dX12_summedUp_352 ?_
                  refine j_isub dX12_summedUp_353 ?_
                  refine j_baload (w32_R _) dX12_summedUp_354 (fun (v33 : Int) (hv33 : (v33) = 0 ∨ (v33) = 1) => ?_)
                  refine j_if_ne (tgt := 362) (jZ_R hv33) dX12_summedUp_355 rfl (fun _ => ?_) (fun _ => ?_)
                  · refine j_iconst dX12_summedUp_362 ?_
                    refine j_sub [2, 3, 4, 5, 6, 7] rfl ?_
                    exact p_f_X12_summedUp_b363 hd0 k38 x0 x1 x2 x3 x4 x5 v31 (w32 (x4 - 1)) 0 S h0 h1 h2 h3 h4 h5 hv31 (w32_R _) jz0
                  · refine j_iconst dX12_summedUp_358 ?_
                    refine j_goto (tgt := 363) dX12_summedUp_359 rfl ?_
                    refine j_sub [2, 3, 4, 5, 6, 7] rfl ?_
                    exact p_f_X12_summedUp_b363 hd0 k38 x0 x1 x2 x3 x4 x5 v31 (w32 (x4 - 1)) 1 S h0 h1 h2 h3 h4 h5 hv31 (w32_R _) jz1
              · refine j_iincL (q := 5) dX12_summedUp_294 rfl (Nat.le_of_ble_eq_true rfl) (fun v35 hv35 => ?_)
                refine j_lv (lv' := [(5, 0, v35), (9, 0, v12), (8, 0, v10), (0, 2, x0), (3, 0, x1), (4, 0, x2), (6, 0, x4), (7, 0, x5)]) rfl ?_
                refine j_aload_n 3 dX12_summedUp_297 rfl rfl ?_
                refine j_getr (ci := 12) (k := 22) rfl in_X12 (Nat.le_of_ble_eq_true rfl) rfl rfl fl_X12_39 dX12_summedUp_298 (fun (v36 : Int) (hv36 : 0 ≤ v36) => ?_)
                refine j_iload 6 dX12_summedUp_301 rfl ?_
                refine j_iload 2 dX12_summedUp_303 rfl ?_
                refine j_aload_n 3 dX12_summedUp_305 rfl rfl ?_
                refine j_getr (ci := 12) (k := 21) rfl in_X12 (Nat.le_of_ble_eq_true rfl) rfl rfl fl_X12_35 dX12_summedUp_306 (fun (v37 : Int) (hv37 : 0 ≤ v37) => ?_)
                refine j_iload 0 dX12_summedUp_309 rfl ?_
                refine j_laload hv35 dX12_summedUp_311 (fun (v38 : Int) (hv38 : R64 (v38)) => ?_)
                refine j_aload_n 3 dX12_summedUp_312 rfl rfl ?_
                refine j_getr (ci := 12) (k := 21) rfl in_X12 (Nat.le_of_ble_eq_true rfl) rfl rfl fl_X12_35 dX12_summedUp_313 (fun (v39 : Int) (hv39 : 0 ≤ v39) => ?_)
                refine j_iload 0 dX12_summedUp_316 rfl ?_
                refine j_iconst dX12_summedUp_318 ?_
                refine j_iadd dX12_summedUp_319 ?_
                refine j_laload (w32_R _) dX12_summedUp_320 (fun (v40 : Int) (hv40 : R64 (v40)) => ?_)
                refine j_callS (As := [(0, v10), (1, v38), (1, v40)]) (st := [(0, x4), (2, v36)]) kc_X12_isAsked (c_X12_isAsked v10 v38 v40 S hv10 hv38 hv40) lm_X12_281 ks_X12_isAsked rfl (Nat.le_of_ble_eq_true rfl) (Nat.le_trans (m := 3) (Nat.le_of_ble_eq_true rfl) hd0) dX12_summedUp_321 (fun (v41 : Int) (S42 : jSt) (hv41 : (v41) = 0 ∨ (v41) = 1) => ?_)
                refine j_bastore h4 hv41 dX12_summedUp_324 (fun S43 => ?_)
                refine j_iincL (q := 6) dX12_summedUp_325 rfl (Nat.le_of_ble_eq_true rfl) (fun v44 hv44 => ?_)
                refine j_lv (lv' := [(6, 0, v44), (5, 0, v35), (9, 0, v12), (8, 0, v10), (0, 2, x0), (3, 0, x1), (4, 0, x2), (7, 0, x5)]) rfl ?_
                refine j_goto (tgt := 400) dX12_summedUp_328 rfl ?_
                refine j_sub [4, 5, 6, 1, 0, 7] rfl ?_
                exact p_f_X12_summedUp_b400 hd0 k38 x0 x1 x2 v35 v44 x5 S43 h0 h1 h2 hv35 hv44 h5
            · refine j_iincL (q := 5) dX12_summedUp_223 rfl (Nat.le_of_ble_eq_true rfl) (fun v45 hv45 => ?_)
              refine j_lv (lv' := [(5, 0, v45), (9, 0, v12), (8, 0, v10), (0, 2, x0), (3, 0, x1), (4, 0, x2), (6, 0, x4), (7, 0, x5)]) rfl ?_
              refine j_aload_n 3 dX12_summedUp_226 rfl rfl ?_
              refine j_getr (ci := 12) (k := 21) rfl in_X12 (Nat.le_of_ble_eq_true rfl) rfl rfl fl_X12_35 dX12_summedUp_227 (fun (v46 : Int) (hv46 : 0 ≤ v46) => ?_)
              refine j_iload 0 dX12_summedUp_230 rfl ?_
              refine j_iconst dX12_summedUp_232 ?_
              refine j_isub dX12_summedUp_233 ?_
              refine j_iload 2 dX12_summedUp_234 rfl ?_
              refine j_iconst dX12_summedUp_236 ?_
              refine j_icmp_ne (tgt := 262) hv10 (j_r32 4 rfl) dX12_summedUp_237 rfl (fun _ => ?_) (fun _ => ?_)
              · refine j_iload 2 dX12_summedUp_262 rfl ?_
                refine j_aload_n 3 dX12_summedUp_264 rfl rfl ?_
                refine j_getr (ci := 12) (k := 21) rfl in_X12 (Nat.le_of_ble_eq_true rfl) rfl rfl fl_X12_35 dX12_summedUp_265 (fun (v47 : Int) (hv47 : 0 ≤ v47) => ?_)
                refine j_iload 0 dX12_summedUp_268 rfl ?_
                refine j_iconst dX12_summedUp_270 ?_
                refine j_isub dX12_summedUp_271 ?_
                refine j_laload (w32_R _) dX12_summedUp_272 (fun (v48 : Int) (hv48 : R64 (v48)) => ?_)
                refine j_aload_n 3 dX12_summedUp_273 rfl rfl ?_
                refine j_getr (ci := 12) (k := 21) rfl in_X12 (Nat.le_of_ble_eq_true rfl) rfl rfl fl_X12_35 dX12_summedUp_274 (fun (v49 : Int) (hv49 : 0 ≤ v49) => ?_)
                refine j_iload 0 dX12_summedUp_277 rfl ?_
                refine j_laload hv45 dX12_summedUp_279 (fun (v50 : Int) (hv50 : R64 (v50)) => ?_)
                refine j_callS (As := [(0, v10), (1, v48), (1, v50)]) (st := [(0, w32 (v45 - 1)), (2, v46)]) kc_X12_two (c_X12_two v10 v48 v50 S hv10 hv48 hv50) lm_X12_277 ks_X12_two rfl (Nat.le_of_ble_eq_true rfl) (Nat.le_trans (m := 3) (Nat.le_of_ble_eq_true rfl) hd0) dX12_summedUp_280 (fun (v51 : Int) (S52 : jSt) (hv51 : R64 (v51)) => ?_)
                refine j_sub [3, 4, 5, 0, 6, 7] rfl ?_
                exact p_f_X12_summedUp_b283 hd0 k38 x0 x1 x2 v45 x4 x5 v46 (w32 (v45 - 1)) v51 S52 h0 h1 h2 hv45 h4 h5 hv46 (w32_R _) hv51
              · refine j_aload_n 3 dX12_summedUp_240 rfl rfl ?_
                refine j_getr (ci := 12) (k := 21) rfl in_X12 (Nat.le_of_ble_eq_true rfl) rfl rfl fl_X12_35 dX12_summedUp_241 (fun (v54 : Int) (hv54 : 0 ≤ v54) => ?_)
                refine j_iload 0 dX12_summedUp_244 rfl ?_
                refine j_iconst dX12_summedUp_246 ?_
                refine j_isub dX12_summedUp_247 ?_
                refine j_laload (w32_R _) dX12_summedUp_248 (fun (v55 : Int) (hv55 : R64 (v55)) => ?_)
                refine j_aload_n 3 dX12_summedUp_249 rfl rfl ?_
                refine j_getr (ci := 12) (k := 21) rfl in_X12 (Nat.le_of_ble_eq_true rfl) rfl rfl fl_X12_35 dX12_summedUp_250 (fun (v56 : Int) (hv56 : 0 ≤ v56) => ?_)
                refine j_iload 0 dX12_summedUp_253 rfl ?_
                refine j_laload hv45 dX12_summedUp_255 (fun (v57 : Int) (hv57 : R64 (v57)) => ?_)
                refine j_callS (As := [(1, v55), (1, v57)]) (st := [(0, w32 (v45 - 1)), (2, v46)]) kc_X12_evenBy (c_X12_evenBy v55 v57 S hv55 hv57) lm_X12_273 ks_X12_evenBy rfl (Nat.le_of_ble_eq_true rfl) (Nat.le_trans (m := 3) (Nat.le_of_ble_eq_true rfl) hd0) dX12_summedUp_256 (fun (v58 : Int) (S59 : jSt) (hv58 : R64 (v58)) => ?_)
                refine j_goto (tgt := 283) dX12_summedUp_259 rfl ?_
                refine j_sub [3, 4, 5, 0, 6, 7] rfl ?_
                exact p_f_X12_summedUp_b283 hd0 k38 x0 x1 x2 v45 x4 x5 v46 (w32 (v45 - 1)) v58 S59 h0 h1 h2 hv45 h4 h5 hv46 (w32_R _) hv58
          · refine j_sub [2, 3, 4, 5, 6, 7, 1] rfl ?_
            exact p_f_X12_summedUp_b172 hd0 k38 x0 x1 x2 x3 x4 x5 v10 S h0 h1 h2 h3 h4 h5 hv10
      · refine j_iincL (q := 5) dX12_summedUp_125 rfl (Nat.le_of_ble_eq_true rfl) (fun v60 hv60 => ?_)
        refine j_lv (lv' := [(5, 0, v60), (9, 0, v12), (8, 0, v10), (0, 2, x0), (3, 0, x1), (4, 0, x2), (6, 0, x4), (7, 0, x5)]) rfl ?_
        refine j_iincL (q := 6) dX12_summedUp_128 rfl (Nat.le_of_ble_eq_true rfl) (fun v61 hv61 => ?_)
        refine j_lv (lv' := [(6, 0, v61), (5, 0, v60), (9, 0, v12), (8, 0, v10), (0, 2, x0), (3, 0, x1), (4, 0, x2), (7, 0, x5)]) rfl ?_
        refine j_aload_n 4 dX12_summedUp_131 rfl rfl ?_
        refine j_getr (ci := 12) (k := 22) rfl in_X12 (Nat.le_of_ble_eq_true rfl) rfl rfl fl_X12_39 dX12_summedUp_132 (fun (v62 : Int) (hv62 : 0 ≤ v62) => ?_)
        refine j_iload 0 dX12_summedUp_135 rfl ?_
        refine j_baload hv61 dX12_summedUp_137 (fun (v63 : Int) (hv63 : (v63) = 0 ∨ (v63) = 1) => ?_)
        refine j_if_ne (tgt := 400) (jZ_R hv63) dX12_summedUp_138 rfl (fun _ => ?_) (fun _ => ?_)
        · refine j_sub [4, 5, 6, 1, 0, 7] rfl ?_
          exact p_f_X12_summedUp_b400 hd0 k38 x0 x1 x2 v60 v61 x5 S h0 h1 h2 hv60 hv61 h5
        · refine j_aload_n 4 dX12_summedUp_141 rfl rfl ?_
          refine j_getr (ci := 12) (k := 21) rfl in_X12 (Nat.le_of_ble_eq_true rfl) rfl rfl fl_X12_35 dX12_summedUp_142 (fun (v64 : Int) (hv64 : 0 ≤ v64) => ?_)
          refine j_iload 1 dX12_summedUp_145 rfl ?_
          refine j_iconst dX12_summedUp_147 ?_
          refine j_isub dX12_summedUp_148 ?_
          refine j_aload_n 4 dX12_summedUp_149 rfl rfl ?_
          refine j_getr (ci := 12) (k := 21) rfl in_X12 (Nat.le_of_ble_eq_true rfl) rfl rfl fl_X12_35 dX12_summedUp_150 (fun (v65 : Int) (hv65 : 0 ≤ v65) => ?_)
          refine j_iload 1 dX12_summedUp_153 rfl ?_
          refine j_laload hv60 dX12_summedUp_155 (fun (v66 : Int) (hv66 : R64 (v66)) => ?_)
          refine j_lastore (w32_R _) hv66 dX12_summedUp_156 (fun S67 => ?_)
          refine j_goto (tgt := 400) dX12_summedUp_157 rfl ?_
          refine j_sub [4, 5, 6, 1, 0, 7] rfl ?_
          exact p_f_X12_summedUp_b400 hd0 k38 x0 x1 x2 v60 v61 x5 S67 h0 h1 h2 hv60 hv61 h5
    · refine j_aload_n 2 dX12_summedUp_87 rfl rfl ?_
      refine j_getr (ci := 12) (k := 21) rfl in_X12 (Nat.le_of_ble_eq_true rfl) rfl rfl fl_X12_35 dX12_summedUp_88 (fun (v68 : Int) (hv68 : 0 ≤ v68) => ?_)
      refine j_iload 5 dX12_summedUp_91 rfl ?_
      refine j_iload 1 dX12_summedUp_93 rfl ?_
      refine j_if_ne (tgt := 104) hv10 dX12_summedUp_95 rfl (fun _ => ?_) (fun _ => ?_)
      · refine j_aload_n 2 dX12_summedUp_104 rfl rfl ?_
        refine j_getr (ci := 12) (k := 20) rfl in_X12 (Nat.le_of_ble_eq_true rfl) rfl rfl fl_X12_32 dX12_summedUp_105 (fun (v69 : Int) (hv69 : 0 ≤ v69) => ?_)
        refine j_iload 0 dX12_summedUp_108 rfl ?_
        refine j_iaload hv12 dX12_summedUp_110 (fun (v70 : Int) (hv70 : R32 (v70)) => ?_)
        refine j_i2l hv70 dX12_summedUp_111 ?_
        refine j_sub [2, 3, 4, 5, 6, 7] rfl ?_
        exact p_f_X12_summedUp_b112 hd0 k38 x0 x1 x2 x3 x4 x5 v68 x3 v70 S h0 h1 h2 h3 h4 h5 hv68 h3 (R32_R64 hv70)
      · refine j_iload 0 dX12_summedUp_98 rfl ?_
        refine j_i2l hv12 dX12_summedUp_100 ?_
        refine j_goto (tgt := 112) dX12_summedUp_101 rfl ?_
        refine j_sub [2, 3, 4, 5, 6, 7] rfl ?_
        exact p_f_X12_summedUp_b112 hd0 k38 x0 x1 x2 x3 x4 x5 v68 x3 v12 S h0 h1 h2 h3 h4 h5 hv68 h3 (R32_R64 hv12)
def f_X12_summedUp_b38 : Int → Int → Int → Int → Int → Int → jSt → Option (Int × jSt) := jrep (β := Int → Int → Int → Int → Int → Int → jSt → Option (Int × jSt)) (fun _ _ _ _ _ _ _ => none) (fun r => f_X12_summedUp_b38B r) jN
theorem p_f_X12_summedUp_b38 {G : jG} {d : Nat} {S0 : jSt} (hd0 : 3 ≤ d) : ∀ (x0 : Int) (x1 : Int) (x2 : Int) (x3 : Int) (x4 : Int) (x5 : Int) (S : jSt), (0 ≤ (x0)) → (R32 (x1)) → (R32 (x2)) → (R32 (x3)) → (R32 (x4)) → (R32 (x5)) → J G yX12_summedUp cX12_summedUp 10 (some .long) d S0 38 [(0, 2, x0), (3, 0, x1), (4, 0, x2), (5, 0, x3), (6, 0, x4), (7, 0, x5)] [] S (f_X12_summedUp_b38  x0 x1 x2 x3 x4 x5 S) :=
  jrep_ind (P := fun (r : Int → Int → Int → Int → Int → Int → jSt → Option (Int × jSt)) => ∀ (x0 : Int) (x1 : Int) (x2 : Int) (x3 : Int) (x4 : Int) (x5 : Int) (S : jSt), (0 ≤ (x0)) → (R32 (x1)) → (R32 (x2)) → (R32 (x3)) → (R32 (x4)) → (R32 (x5)) → J G yX12_summedUp cX12_summedUp 10 (some .long) d S0 38 [(0, 2, x0), (3, 0, x1), (4, 0, x2), (5, 0, x3), (6, 0, x4), (7, 0, x5)] [] S (r x0 x1 x2 x3 x4 x5 S)) (by intros; exact j_none) (fun r k => p_f_X12_summedUp_b38B hd0 k) jN
def f_X12_summedUp (a0 : Int) (a1 : Int) (a2 : Int) (S : jSt) : Option (Int × jSt) :=
  flet (w32 ((w32 ((w32 (705 * a1)) + 1)) + (w32 (4 * a2)))) (fun v1 => flet (w32 ((w32 (705 * a1)) + 97)) (fun v2 => fgetr S a0 12 2 (fun v3 => fald S v3 (w32 (v1 + 1)) 1 (fun v4 => f_X12_summedUp_b38 a0 v1 v2 0 0 v4 S))))
theorem e_X12_summedUp {G : jG} {d : Nat} {S0 : jSt} (hd0 : 3 ≤ d) (a0 : Int) (a1 : Int) (a2 : Int) (S : jSt) (h0 : 0 ≤ (a0)) (h1 : R32 (a1)) (h2 : R32 (a2)) : J G yX12_summedUp cX12_summedUp 10 (some .long) d S0 0 [(0, 2, a0), (1, 0, a1), (2, 0, a2)] [] S (f_X12_summedUp a0 a1 a2 S) := by
  unfold f_X12_summedUp
  refine j_sipush dX12_summedUp_0 (by decide) ?_
  refine j_iload_n 1 dX12_summedUp_3 rfl rfl ?_
  refine j_imul dX12_summedUp_4 ?_
  refine j_iconst dX12_summedUp_5 ?_
  refine j_iadd dX12_summedUp_6 ?_
  refine j_iconst dX12_summedUp_7 ?_
  refine j_iload_n 2 dX12_summedUp_8 rfl rfl ?_
  refine j_imul dX12_summedUp_9 ?_
  refine j_iadd dX12_summedUp_10 ?_
  refine j_leti (w32_R _) (fun v1 hv1 => ?_)
  refine j_istore_n (lv' := [(3, 0, v1), (0, 2, a0), (1, 0, a1), (2, 0, a2)]) dX12_summedUp_11 rfl (Nat.le_of_ble_eq_true rfl) rfl ?_
  refine j_sipush dX12_summedUp_12 (by decide) ?_
  refine j_iload_n 2 dX12_summedUp_15 rfl rfl ?_
  refine j_imul dX12_summedUp_16 ?_
  refine j_bipush dX12_summedUp_17 (by decide) ?_
  refine j_iadd dX12_summedUp_19 ?_
  refine j_leti (w32_R _) (fun v2 hv2 => ?_)
  refine j_istore (lv' := [(4, 0, v2), (3, 0, v1), (0, 2, a0), (1, 0, a1), (2, 0, a2)]) dX12_summedUp_20 (Nat.le_of_ble_eq_true rfl) rfl ?_
  refine j_iconst dX12_summedUp_22 ?_
  refine j_istore (lv' := [(5, 0, 0), (4, 0, v2), (3, 0, v1), (0, 2, a0), (1, 0, a1), (2, 0, a2)]) dX12_summedUp_23 (Nat.le_of_ble_eq_true rfl) rfl ?_
  refine j_iconst dX12_summedUp_25 ?_
  refine j_istore (lv' := [(6, 0, 0), (5, 0, 0), (4, 0, v2), (3, 0, v1), (0, 2, a0), (1, 0, a1), (2, 0, a2)]) dX12_summedUp_26 (Nat.le_of_ble_eq_true rfl) rfl ?_
  refine j_aload_n 4 dX12_summedUp_28 rfl rfl ?_
  refine j_getr (ci := 12) (k := 2) rfl in_X12 (Nat.le_of_ble_eq_true rfl) rfl rfl fl_X12_16 dX12_summedUp_29 (fun (v3 : Int) (hv3 : 0 ≤ v3) => ?_)
  refine j_iload_n 3 dX12_summedUp_32 rfl rfl ?_
  refine j_iconst dX12_summedUp_33 ?_
  refine j_iadd dX12_summedUp_34 ?_
  refine j_iaload (w32_R _) dX12_summedUp_35 (fun (v4 : Int) (hv4 : R32 (v4)) => ?_)
  refine j_istore (lv' := [(7, 0, v4), (6, 0, 0), (5, 0, 0), (4, 0, v2), (3, 0, v1), (0, 2, a0), (1, 0, a1), (2, 0, a2)]) dX12_summedUp_36 (Nat.le_of_ble_eq_true rfl) rfl ?_
  refine j_sub [5, 4, 3, 2, 1, 0] rfl ?_
  exact p_f_X12_summedUp_b38 hd0 a0 v1 v2 0 0 v4 S h0 hv1 hv2 (jZ_R jz0) (jZ_R jz0) hv4
theorem c_X12_summedUp {G : jG} (a0 : Int) (a1 : Int) (a2 : Int) (S : jSt) (h0 : 0 ≤ (a0)) (h1 : R32 (a1)) (h2 : R32 (a2)) : CT G yX12_summedUp cX12_summedUp 10 (some .long) 3 ([(2, a0), (0, a1), (0, a2)].map jval) S (f_X12_summedUp a0 a1 a2 S) := ct_of [(2, a0), (0, a1), (0, a2)] (by decide) rfl (Nat.le_of_ble_eq_true rfl) (e_X12_summedUp (Nat.le_refl _) a0 a1 a2 S h0 h1 h2)
-- X12_says
def f_X12_says_b63 (x0 : Int) (x1 : Int) (S : jSt) : Option (Int × jSt) :=
  fcall (f_X12_held x0 0 x1 S) (fun v1 S2 => some (v1, S2))
theorem p_f_X12_says_b63 {G : jG} {d : Nat} {S0 : jSt} (hd0 : 4 ≤ d) : ∀ (x0 : Int) (x1 : Int) (S : jSt), (R32 (x0)) → (R32 (x1)) → J G yX12_says cX12_says 6 (some .int) d S0 63 [(3, 0, x0), (4, 0, x1)] [] S (f_X12_says_b63  x0 x1 S) := by
  intro x0 x1 S h0 h1
  unfold f_X12_says_b63
  refine j_iload_n 0 dX12_says_63 rfl rfl ?_
  refine j_i2l h0 dX12_says_64 ?_
  refine j_iconst dX12_says_65 ?_
  refine j_iload 1 dX12_says_66 rfl ?_
  refine j_callS (As := [(1, x0), (0, 0), (0, x1)]) (st := []) kc_X12_held (c_X12_held x0 0 x1 S (R32_R64 h0) (jZ_R jz0) h1) lm_X12_292 ks_X12_held rfl (Nat.le_of_ble_eq_true rfl) (Nat.le_trans (m := 4) (Nat.le_of_ble_eq_true rfl) hd0) dX12_says_68 (fun (v1 : Int) (S2 : jSt) (hv1 : R32 (v1)) => ?_)
  exact j_ireturn hv1 dX12_says_71
def f_X12_says_b3B (r3 : Int → Int → Int → Int → Int → Int → jSt → Option (Int × jSt)) (x0 : Int) (x1 : Int) (x2 : Int) (x3 : Int) (x4 : Int) (x5 : Int) (S : jSt) : Option (Int × jSt) :=
  if x1 < 0 then f_X12_says_b63 x3 x4 S else fgetr S x0 12 2 (fun v3 => fald S v3 (w32 (705 * x1)) 1 (fun v4 => if v4 ≤ x5 then f_X12_says_b63 x3 x4 S else fgetr S x0 12 2 (fun v5 => fald S v5 (w32 ((w32 ((w32 (705 * x1)) + 1)) + (w32 (4 * x5)))) 1 (fun v6 => if v6 = x2 then fcallv S x0 12 (f_X12_summedUp x0 x1 x5 S) (fun v8 S9 => fcall (f_X12_held v8 0 x4 S9) (fun v10 S11 => some (v10, S11))) else flet (w32 (x5 + 1)) (fun v7 => r3 x0 x1 x2 x3 x4 v7 S)))))
theorem p_f_X12_says_b3B {G : jG} {d : Nat} {S0 : jSt} (hd0 : 4 ≤ d) {r3 : Int → Int → Int → Int → Int → Int → jSt → Option (Int × jSt)} (k3 : ∀ (x0 : Int) (x1 : Int) (x2 : Int) (x3 : Int) (x4 : Int) (x5 : Int) (S : jSt), (0 ≤ (x0)) → (R32 (x1)) → (R32 (x2)) → (R32 (x3)) → (R32 (x4)) → (R32 (x5)) → J G yX12_says cX12_says 6 (some .int) d S0 3 [(0, 2, x0), (1, 0, x1), (2, 0, x2), (3, 0, x3), (4, 0, x4), (5, 0, x5)] [] S (r3 x0 x1 x2 x3 x4 x5 S)) : ∀ (x0 : Int) (x1 : Int) (x2 : Int) (x3 : Int) (x4 : Int) (x5 : Int) (S : jSt), (0 ≤ (x0)) → (R32 (x1)) → (R32 (x2)) → (R32 (x3)) → (R32 (x4)) → (R32 (x5)) → J G yX12_says cX12_says 6 (some .int) d S0 3 [(0, 2, x0), (1, 0, x1), (2, 0, x2), (3, 0, x3), (4, 0, x4), (5, 0, x5)] [] S (f_X12_says_b3B r3 x0 x1 x2 x3 x4 x5 S) := by
  intro x0 x1 x2 x3 x4 x5 S h0 h1 h2 h3 h4 h5
  unfold f_X12_says_b3B
  refine j_iload_n 1 dX12_says_3 rfl rfl ?_
  refine j_if_lt (tgt := 63) h1 dX12_says_4 rfl (fun _ => ?_) (fun _ => ?_)
  · refine j_sub [3, 4] rfl ?_
    exact p_f_X12_says_b63 hd0 x3 x4 S h3 h4
  · refine j_iload 5 dX12_says_7 rfl ?_
    refine j_aload_n 0 dX12_says_9 rfl rfl ?_
    refine j_getr (ci := 12) (k := 2) rfl in_X12 (Nat.le_of_ble_eq_true rfl) rfl rfl fl_X12_16 dX12_says_10 (fun (v3 : Int) (hv3 : 0 ≤ v3) => ?_)
    refine j_sipush dX12_says_13 (by decide) ?_
    refine j_iload_n 1 dX12_says_16 rfl rfl ?_
    refine j_imul dX12_says_17 ?_
    refine j_iaload (w32_R _) dX12_says_18 (fun (v4 : Int) (hv4 : R32 (v4)) => ?_)
    refine j_icmp_ge (tgt := 63) h5 hv4 dX12_says_19 rfl (fun _ => ?_) (fun _ => ?_)
    · refine j_sub [3, 4] rfl ?_
      exact p_f_X12_says_b63 hd0 x3 x4 S h3 h4
    · refine j_aload_n 0 dX12_says_22 rfl rfl ?_
      refine j_getr (ci := 12) (k := 2) rfl in_X12 (Nat.le_of_ble_eq_true rfl) rfl rfl fl_X12_16 dX12_says_23 (fun (v5 : Int) (hv5 : 0 ≤ v5) => ?_)
      refine j_sipush dX12_says_26 (by decide) ?_
      refine j_iload_n 1 dX12_says_29 rfl rfl ?_
      refine j_imul dX12_says_30 ?_
      refine j_iconst dX12_says_31 ?_
      refine j_iadd dX12_says_32 ?_
      refine j_iconst dX12_says_33 ?_
      refine j_iload 5 dX12_says_34 rfl ?_
      refine j_imul dX12_says_36 ?_
      refine j_iadd dX12_says_37 ?_
      refine j_iaload (w32_R _) dX12_says_38 (fun (v6 : Int) (hv6 : R32 (v6)) => ?_)
      refine j_iload_n 2 dX12_says_39 rfl rfl ?_
      refine j_icmp_ne (tgt := 57) hv6 h2 dX12_says_40 rfl (fun _ => ?_) (fun _ => ?_)
      · refine j_iincL (q := 5) dX12_says_57 rfl (Nat.le_of_ble_eq_true rfl) (fun v7 hv7 => ?_)
        refine j_lv (lv' := [(5, 0, v7), (0, 2, x0), (1, 0, x1), (2, 0, x2), (3, 0, x3), (4, 0, x4)]) rfl ?_
        refine j_goto (tgt := 3) dX12_says_60 rfl ?_
        refine j_sub [1, 2, 3, 4, 5, 0] rfl ?_
        exact k3 x0 x1 x2 x3 x4 v7 S h0 h1 h2 h3 h4 hv7
      · refine j_aload_n 0 dX12_says_43 rfl rfl ?_
        refine j_iload_n 1 dX12_says_44 rfl rfl ?_
        refine j_iload 5 dX12_says_45 rfl ?_
        refine j_callV (ci := 12) (As := [(0, x1), (0, x5)]) (st := []) kc_X12_summedUp (c_X12_summedUp x0 x1 x5 S h0 h1 h5) rfl lm_X12_289 ki_X12_summedUp ke_X12_summedUp rfl (Nat.le_of_ble_eq_true rfl) (Nat.le_trans (m := 4) (Nat.le_of_ble_eq_true rfl) hd0) dX12_says_47 (fun (v8 : Int) (S9 : jSt) (hv8 : R64 (v8)) => ?_)
        refine j_iconst dX12_says_50 ?_
        refine j_iload 4 dX12_says_51 rfl ?_
        refine j_callS (As := [(1, v8), (0, 0), (0, x4)]) (st := []) kc_X12_held (c_X12_held v8 0 x4 S9 hv8 (jZ_R jz0) h4) lm_X12_292 ks_X12_held rfl (Nat.le_of_ble_eq_true rfl) (Nat.le_trans (m := 4) (Nat.le_of_ble_eq_true rfl) hd0) dX12_says_53 (fun (v10 : Int) (S11 : jSt) (hv10 : R32 (v10)) => ?_)
        exact j_ireturn hv10 dX12_says_56
def f_X12_says_b3 : Int → Int → Int → Int → Int → Int → jSt → Option (Int × jSt) := jrep (β := Int → Int → Int → Int → Int → Int → jSt → Option (Int × jSt)) (fun _ _ _ _ _ _ _ => none) (fun r => f_X12_says_b3B r) jN
theorem p_f_X12_says_b3 {G : jG} {d : Nat} {S0 : jSt} (hd0 : 4 ≤ d) : ∀ (x0 : Int) (x1 : Int) (x2 : Int) (x3 : Int) (x4 : Int) (x5 : Int) (S : jSt), (0 ≤ (x0)) → (R32 (x1)) → (R32 (x2)) → (R32 (x3)) → (R32 (x4)) → (R32 (x5)) → J G yX12_says cX12_says 6 (some .int) d S0 3 [(0, 2, x0), (1, 0, x1), (2, 0, x2), (3, 0, x3), (4, 0, x4), (5, 0, x5)] [] S (f_X12_says_b3  x0 x1 x2 x3 x4 x5 S) :=
  jrep_ind (P := fun (r : Int → Int → Int → Int → Int → Int → jSt → Option (Int × jSt)) => ∀ (x0 : Int) (x1 : Int) (x2 : Int) (x3 : Int) (x4 : Int) (x5 : Int) (S : jSt), (0 ≤ (x0)) → (R32 (x1)) → (R32 (x2)) → (R32 (x3)) → (R32 (x4)) → (R32 (x5)) → J G yX12_says cX12_says 6 (some .int) d S0 3 [(0, 2, x0), (1, 0, x1), (2, 0, x2), (3, 0, x3), (4, 0, x4), (5, 0, x5)] [] S (r x0 x1 x2 x3 x4 x5 S)) (by intros; exact j_none) (fun r k => p_f_X12_says_b3B hd0 k) jN
def f_X12_says (a0 : Int) (a1 : Int) (a2 : Int) (a3 : Int) (a4 : Int) (S : jSt) : Option (Int × jSt) :=
  f_X12_says_b3 a0 a1 a2 a3 a4 0 S
theorem e_X12_says {G : jG} {d : Nat} {S0 : jSt} (hd0 : 4 ≤ d) (a0 : Int) (a1 : Int) (a2 : Int) (a3 : Int) (a4 : Int) (S : jSt) (h0 : 0 ≤ (a0)) (h1 : R32 (a1)) (h2 : R32 (a2)) (h3 : R32 (a3)) (h4 : R32 (a4)) : J G yX12_says cX12_says 6 (some .int) d S0 0 [(0, 2, a0), (1, 0, a1), (2, 0, a2), (3, 0, a3), (4, 0, a4)] [] S (f_X12_says a0 a1 a2 a3 a4 S) := by
  unfold f_X12_says
  refine j_iconst dX12_says_0 ?_
  refine j_istore (lv' := [(5, 0, 0), (0, 2, a0), (1, 0, a1), (2, 0, a2), (3, 0, a3), (4, 0, a4)]) dX12_says_1 (Nat.le_of_ble_eq_true rfl) rfl ?_
  refine j_sub [1, 2, 3, 4, 5, 0] rfl ?_
  exact p_f_X12_says_b3 hd0 a0 a1 a2 a3 a4 0 S h0 h1 h2 h3 h4 (jZ_R jz0)
theorem c_X12_says {G : jG} (a0 : Int) (a1 : Int) (a2 : Int) (a3 : Int) (a4 : Int) (S : jSt) (h0 : 0 ≤ (a0)) (h1 : R32 (a1)) (h2 : R32 (a2)) (h3 : R32 (a3)) (h4 : R32 (a4)) : CT G yX12_says cX12_says 6 (some .int) 4 ([(2, a0), (0, a1), (0, a2), (0, a3), (0, a4)].map jval) S (f_X12_says a0 a1 a2 a3 a4 S) := ct_of [(2, a0), (0, a1), (0, a2), (0, a3), (0, a4)] (by decide) rfl (Nat.le_of_ble_eq_true rfl) (e_X12_says (Nat.le_refl _) a0 a1 a2 a3 a4 S h0 h1 h2 h3 h4)
-- X12_bidOf
def f_X12_bidOf_b98 (x0 : Int) (S : jSt) : Option (Int × jSt) :=
  some (x0, S)
theorem p_f_X12_bidOf_b98 {G : jG} {d : Nat} {S0 : jSt} (hd0 : 5 ≤ d) : ∀ (x0 : Int) (S : jSt), (R32 (x0)) → J G yX12_bidOf cX12_bidOf 4 (some .int) d S0 98 [] [(0, x0)] S (f_X12_bidOf_b98  x0 S) := by
  intro x0 S h0
  unfold f_X12_bidOf_b98
  exact j_ireturn h0 dX12_bidOf_98
def f_X12_bidOf (a0 : Int) (a1 : Int) (a2 : Int) (S : jSt) : Option (Int × jSt) :=
  fcallv S a0 12 (f_X12_name a0 a2 S) (fun v1 S2 => fgetr S2 a0 12 20 (fun v3 => fcallv S2 a0 12 (f_X12_own a0 a1 (w32 (1 + a2)) S2) (fun v4 S5 => fast S5 v3 5 1 v4 (fun S6 => fgetr S6 a0 12 20 (fun v7 => fcallv S6 a0 12 (f_X12_own a0 a1 0 S6) (fun v8 S9 => fast S9 v7 6 1 v8 (fun S10 => fgetr S10 a0 12 20 (fun v11 => fast S10 v11 7 1 a1 (fun S12 => fgetr S12 a0 12 20 (fun v13 => fcallv S12 a0 12 (f_X12_hasLots a0 a1 S12) (fun v14 S15 => fcall (f_X12_bits v14 S15) (fun v16 S17 => fast S17 v13 8 1 v16 (fun S18 => fgetr S18 a0 12 0 (fun v19 => fald S18 v19 3 1 (fun v20 => fgetr S18 a0 12 20 (fun v21 => fald S18 v21 5 1 (fun v22 => fcallv S18 a0 12 (f_X12_says a0 v20 0 v22 1000000 S18) (fun v23 S24 => fgetr S24 a0 12 20 (fun v25 => fald S24 v25 6 1 (fun v26 => if v26 ≤ v23 then fgetr S24 a0 12 20 (fun v27 => fald S24 v27 6 1 (fun v28 => f_X12_bidOf_b98 v28 S24)) else f_X12_bidOf_b98 v23 S24))))))))))))))))))))
theorem e_X12_bidOf {G : jG} {d : Nat} {S0 : jSt} (hd0 : 5 ≤ d) (a0 : Int) (a1 : Int) (a2 : Int) (S : jSt) (h0 : 0 ≤ (a0)) (h1 : R32 (a1)) (h2 : R32 (a2)) : J G yX12_bidOf cX12_bidOf 4 (some .int) d S0 0 [(0, 2, a0), (1, 0, a1), (2, 0, a2)] [] S (f_X12_bidOf a0 a1 a2 S) := by
  unfold f_X12_bidOf
  refine j_aload_n 0 dX12_bidOf_0 rfl rfl ?_
  refine j_iload_n 2 dX12_bidOf_1 rfl rfl ?_
  refine j_callV (ci := 12) (As := [(0, a2)]) (st := []) kc_X12_name (c_X12_name a0 a2 S h0 h2) rfl lm_X12_296 ki_X12_name ke_X12_name rfl (Nat.le_of_ble_eq_true rfl) (Nat.le_trans (m := 5) (Nat.le_of_ble_eq_true rfl) hd0) dX12_bidOf_2 (fun v1 S2 _ => ?_)
  refine j_aload_n 0 dX12_bidOf_5 rfl rfl ?_
  refine j_getr (ci := 12) (k := 20) rfl in_X12 (Nat.le_of_ble_eq_true rfl) rfl rfl fl_X12_32 dX12_bidOf_6 (fun (v3 : Int) (hv3 : 0 ≤ v3) => ?_)
  refine j_iconst dX12_bidOf_9 ?_
  refine j_aload_n 0 dX12_bidOf_10 rfl rfl ?_
  refine j_iload_n 1 dX12_bidOf_11 rfl rfl ?_
  refine j_iconst dX12_bidOf_12 ?_
  refine j_iload_n 2 dX12_bidOf_13 rfl rfl ?_
  refine j_iadd dX12_bidOf_14 ?_
  refine j_callV (ci := 12) (As := [(0, a1), (0, w32 (1 + a2))]) (st := [(0, 5), (2, v3)]) kc_X12_own (c_X12_own a0 a1 (w32 (1 + a2)) S2 h0 h1 (w32_R _)) rfl lm_X12_299 ki_X12_own ke_X12_own rfl (Nat.le_of_ble_eq_true rfl) (Nat.le_trans (m := 5) (Nat.le_of_ble_eq_true rfl) hd0) dX12_bidOf_15 (fun (v4 : Int) (S5 : jSt) (hv4 : R32 (v4)) => ?_)
  refine j_iastore (j_r32 5 rfl) hv4 dX12_bidOf_18 (fun S6 => ?_)
  refine j_aload_n 0 dX12_bidOf_19 rfl rfl ?_
  refine j_getr (ci := 12) (k := 20) rfl in_X12 (Nat.le_of_ble_eq_true rfl) rfl rfl fl_X12_32 dX12_bidOf_20 (fun (v7 : Int) (hv7 : 0 ≤ v7) => ?_)
  refine j_bipush dX12_bidOf_23 (by decide) ?_
  refine j_aload_n 0 dX12_bidOf_25 rfl rfl ?_
  refine j_iload_n 1 dX12_bidOf_26 rfl rfl ?_
  refine j_iconst dX12_bidOf_27 ?_
  refine j_callV (ci := 12) (As := [(0, a1), (0, 0)]) (st := [(0, 6), (2, v7)]) kc_X12_own (c_X12_own a0 a1 0 S6 h0 h1 (jZ_R jz0)) rfl lm_X12_299 ki_X12_own ke_X12_own rfl (Nat.le_of_ble_eq_true rfl) (Nat.le_trans (m := 5) (Nat.le_of_ble_eq_true rfl) hd0) dX12_bidOf_28 (fun (v8 : Int) (S9 : jSt) (hv8 : R32 (v8)) => ?_)
  refine j_iastore (j_r32 6 rfl) hv8 dX12_bidOf_31 (fun S10 => ?_)
  refine j_aload_n 0 dX12_bidOf_32 rfl rfl ?_
  refine j_getr (ci := 12) (k := 20) rfl in_X12 (Nat.le_of_ble_eq_true rfl) rfl rfl fl_X12_32 dX12_bidOf_33 (fun (v11 : Int) (hv11 : 0 ≤ v11) => ?_)
  refine j_bipush dX12_bidOf_36 (by decide) ?_
  refine j_iload_n 1 dX12_bidOf_38 rfl rfl ?_
  refine j_iastore (j_r32 7 rfl) h1 dX12_bidOf_39 (fun S12 => ?_)
  refine j_aload_n 0 dX12_bidOf_40 rfl rfl ?_
  refine j_getr (ci := 12) (k := 20) rfl in_X12 (Nat.le_of_ble_eq_true rfl) rfl rfl fl_X12_32 dX12_bidOf_41 (fun (v13 : Int) (hv13 : 0 ≤ v13) => ?_)
  refine j_bipush dX12_bidOf_44 (by decide) ?_
  refine j_aload_n 0 dX12_bidOf_46 rfl rfl ?_
  refine j_iload_n 1 dX12_bidOf_47 rfl rfl ?_
  refine j_callV (ci := 12) (As := [(0, a1)]) (st := [(0, 8), (2, v13)]) kc_X12_hasLots (c_X12_hasLots a0 a1 S12 h0 h1) rfl lm_X12_302 ki_X12_hasLots ke_X12_hasLots rfl (Nat.le_of_ble_eq_true rfl) (Nat.le_trans (m := 5) (Nat.le_of_ble_eq_true rfl) hd0) dX12_bidOf_48 (fun (v14 : Int) (S15 : jSt) (hv14 : R32 (v14)) => ?_)
  refine j_callS (As := [(0, v14)]) (st := [(0, 8), (2, v13)]) kc_X12_bits (c_X12_bits v14 S15 hv14) lm_X12_305 ks_X12_bits rfl (Nat.le_of_ble_eq_true rfl) (Nat.le_trans (m := 5) (Nat.le_of_ble_eq_true rfl) hd0) dX12_bidOf_51 (fun (v16 : Int) (S17 : jSt) (hv16 : R32 (v16)) => ?_)
  refine j_iastore (j_r32 8 rfl) hv16 dX12_bidOf_54 (fun S18 => ?_)
  refine j_aload_n 0 dX12_bidOf_55 rfl rfl ?_
  refine j_aload_n 0 dX12_bidOf_56 rfl rfl ?_
  refine j_getr (ci := 12) (k := 0) rfl in_X12 (Nat.le_of_ble_eq_true rfl) rfl rfl fl_X12_7 dX12_bidOf_57 (fun (v19 : Int) (hv19 : 0 ≤ v19) => ?_)
  refine j_iconst dX12_bidOf_60 ?_
  refine j_iaload (j_r32 3 rfl) dX12_bidOf_61 (fun (v20 : Int) (hv20 : R32 (v20)) => ?_)
  refine j_iconst dX12_bidOf_62 ?_
  refine j_aload_n 0 dX12_bidOf_63 rfl rfl ?_
  refine j_getr (ci := 12) (k := 20) rfl in_X12 (Nat.le_of_ble_eq_true rfl) rfl rfl fl_X12_32 dX12_bidOf_64 (fun (v21 : Int) (hv21 : 0 ≤ v21) => ?_)
  refine j_iconst dX12_bidOf_67 ?_
  refine j_iaload (j_r32 5 rfl) dX12_bidOf_68 (fun (v22 : Int) (hv22 : R32 (v22)) => ?_)
  refine j_ldc_w cn_X12_308 dX12_bidOf_69 ?_
  refine j_callV (ci := 12) (As := [(0, v20), (0, 0), (0, v22), (0, 1000000)]) (st := []) kc_X12_says (c_X12_says a0 v20 0 v22 1000000 S18 h0 hv20 (jZ_R jz0) hv22 (j_r32 1000000 rfl)) rfl lm_X12_309 ki_X12_says ke_X12_says rfl (Nat.le_of_ble_eq_true rfl) (Nat.le_trans (m := 5) (Nat.le_of_ble_eq_true rfl) hd0) dX12_bidOf_72 (fun (v23 : Int) (S24 : jSt) (hv23 : R32 (v23)) => ?_)
  refine j_istore_n (lv' := [(3, 0, v23), (0, 2, a0), (1, 0, a1), (2, 0, a2)]) dX12_bidOf_75 rfl (Nat.le_of_ble_eq_true rfl) rfl ?_
  refine j_iload_n 0 dX12_bidOf_76 rfl rfl ?_
  refine j_aload_n 1 dX12_bidOf_77 rfl rfl ?_
  refine j_getr (ci := 12) (k := 20) rfl in_X12 (Nat.le_of_ble_eq_true rfl) rfl rfl fl_X12_32 dX12_bidOf_78 (fun (v25 : Int) (hv25 : 0 ≤ v25) => ?_)
  refine j_bipush dX12_bidOf_81 (by decide) ?_
  refine j_iaload (j_r32 6 rfl) dX12_bidOf_83 (fun (v26 : Int) (hv26 : R32 (v26)) => ?_)
  refine j_icmp_ge (tgt := 91) hv23 hv26 dX12_bidOf_84 rfl (fun _ => ?_) (fun _ => ?_)
  · refine j_aload_n 1 dX12_bidOf_91 rfl rfl ?_
    refine j_getr (ci := 12) (k := 20) rfl in_X12 (Nat.le_of_ble_eq_true rfl) rfl rfl fl_X12_32 dX12_bidOf_92 (fun (v27 : Int) (hv27 : 0 ≤ v27) => ?_)
    refine j_bipush dX12_bidOf_95 (by decide) ?_
    refine j_iaload (j_r32 6 rfl) dX12_bidOf_97 (fun (v28 : Int) (hv28 : R32 (v28)) => ?_)
    refine j_sub [] rfl ?_
    exact p_f_X12_bidOf_b98 hd0 v28 S24 hv28
  · refine j_iload_n 0 dX12_bidOf_87 rfl rfl ?_
    refine j_goto (tgt := 98) dX12_bidOf_88 rfl ?_
    refine j_sub [] rfl ?_
    exact p_f_X12_bidOf_b98 hd0 v23 S24 hv23
theorem c_X12_bidOf {G : jG} (a0 : Int) (a1 : Int) (a2 : Int) (S : jSt) (h0 : 0 ≤ (a0)) (h1 : R32 (a1)) (h2 : R32 (a2)) : CT G yX12_bidOf cX12_bidOf 4 (some .int) 5 ([(2, a0), (0, a1), (0, a2)].map jval) S (f_X12_bidOf a0 a1 a2 S) := ct_of [(2, a0), (0, a1), (0, a2)] (by decide) rfl (Nat.le_of_ble_eq_true rfl) (e_X12_bidOf (Nat.le_refl _) a0 a1 a2 S h0 h1 h2)
-- X12_reserveOf
def f_X12_reserveOf (a0 : Int) (a1 : Int) (S : jSt) : Option (Int × jSt) :=
  fcallv S a0 12 (f_X12_name a0 a1 S) (fun v1 S2 => fgetr S2 a0 12 0 (fun v3 => fald S2 v3 3 1 (fun v4 => fgetr S2 a0 12 20 (fun v5 => fald S2 v5 2 1 (fun v6 => if 2 = 0 then none else fcallv S2 a0 12 (f_X12_says a0 v4 1 (idiv32 v6 2) 999 S2) (fun v7 S8 => some (v7, S8)))))))
theorem e_X12_reserveOf {G : jG} {d : Nat} {S0 : jSt} (hd0 : 5 ≤ d) (a0 : Int) (a1 : Int) (S : jSt) (h0 : 0 ≤ (a0)) (h1 : R32 (a1)) : J G yX12_reserveOf cX12_reserveOf 2 (some .int) d S0 0 [(0, 2, a0), (1, 0, a1)] [] S (f_X12_reserveOf a0 a1 S) := by
  unfold f_X12_reserveOf
  refine j_aload_n 0 dX12_reserveOf_0 rfl rfl ?_
  refine j_iload_n 1 dX12_reserveOf_1 rfl rfl ?_
  refine j_callV (ci := 12) (As := [(0, a1)]) (st := []) kc_X12_name (c_X12_name a0 a1 S h0 h1) rfl lm_X12_296 ki_X12_name ke_X12_name rfl (Nat.le_of_ble_eq_true rfl) (Nat.le_trans (m := 5) (Nat.le_of_ble_eq_true rfl) hd0) dX12_reserveOf_2 (fun v1 S2 _ => ?_)
  refine j_aload_n 0 dX12_reserveOf_5 rfl rfl ?_
  refine j_aload_n 0 dX12_reserveOf_6 rfl rfl ?_
  refine j_getr (ci := 12) (k := 0) rfl in_X12 (Nat.le_of_ble_eq_true rfl) rfl rfl fl_X12_7 dX12_reserveOf_7 (fun (v3 : Int) (hv3 : 0 ≤ v3) => ?_)
  refine j_iconst dX12_reserveOf_10 ?_
  refine j_iaload (j_r32 3 rfl) dX12_reserveOf_11 (fun (v4 : Int) (hv4 : R32 (v4)) => ?_)
  refine j_iconst dX12_reserveOf_12 ?_
  refine j_aload_n 0 dX12_reserveOf_13 rfl rfl ?_
  refine j_getr (ci := 12) (k := 20) rfl in_X12 (Nat.le_of_ble_eq_true rfl) rfl rfl fl_X12_32 dX12_reserveOf_14 (fun (v5 : Int) (hv5 : 0 ≤ v5) => ?_)
  refine j_iconst dX12_reserveOf_17 ?_
  refine j_iaload (j_r32 2 rfl) dX12_reserveOf_18 (fun (v6 : Int) (hv6 : R32 (v6)) => ?_)
  refine j_iconst dX12_reserveOf_19 ?_
  refine j_idiv (j_r32 2 rfl) dX12_reserveOf_20 ?_
  refine j_sipush dX12_reserveOf_21 (by decide) ?_
  refine j_callV (ci := 12) (As := [(0, v4), (0, 1), (0, idiv32 v6 2), (0, 999)]) (st := []) kc_X12_says (c_X12_says a0 v4 1 (idiv32 v6 2) 999 S2 h0 hv4 (jZ_R jz1) (idiv32_R _ _) (j_r32 999 rfl)) rfl lm_X12_309 ki_X12_says ke_X12_says rfl (Nat.le_of_ble_eq_true rfl) (Nat.le_trans (m := 5) (Nat.le_of_ble_eq_true rfl) hd0) dX12_reserveOf_24 (fun (v7 : Int) (S8 : jSt) (hv7 : R32 (v7)) => ?_)
  exact j_ireturn hv7 dX12_reserveOf_27
theorem c_X12_reserveOf {G : jG} (a0 : Int) (a1 : Int) (S : jSt) (h0 : 0 ≤ (a0)) (h1 : R32 (a1)) : CT G yX12_reserveOf cX12_reserveOf 2 (some .int) 5 ([(2, a0), (0, a1)].map jval) S (f_X12_reserveOf a0 a1 S) := ct_of [(2, a0), (0, a1)] (by decide) rfl (Nat.le_of_ble_eq_true rfl) (e_X12_reserveOf (Nat.le_refl _) a0 a1 S h0 h1)
-- X12_priceOf
def f_X12_priceOf_b51 (r9 : Int → Int → Int → Int → Int → jSt → Option (Int × jSt)) (x0 : Int) (x1 : Int) (x2 : Int) (x3 : Int) (x4 : Int) (S : jSt) : Option (Int × jSt) :=
  flet (w32 (x3 + 1)) (fun v7 => r9 x0 x1 x2 x4 v7 S)
theorem p_f_X12_priceOf_b51 {G : jG} {d : Nat} {S0 : jSt} (hd0 : 6 ≤ d) {r9 : Int → Int → Int → Int → Int → jSt → Option (Int × jSt)} (k9 : ∀ (x0 : Int) (x1 : Int) (x2 : Int) (x3 : Int) (x4 : Int) (S : jSt), (0 ≤ (x0)) → (R32 (x1)) → (R32 (x2)) → (R32 (x3)) → (R32 (x4)) → J G yX12_priceOf cX12_priceOf 6 (some .int) d S0 9 [(0, 2, x0), (1, 0, x1), (2, 0, x2), (3, 0, x3), (4, 0, x4)] [] S (r9 x0 x1 x2 x3 x4 S)) : ∀ (x0 : Int) (x1 : Int) (x2 : Int) (x3 : Int) (x4 : Int) (S : jSt), (0 ≤ (x0)) → (R32 (x1)) → (R32 (x2)) → (R32 (x3)) → (R32 (x4)) → J G yX12_priceOf cX12_priceOf 6 (some .int) d S0 51 [(0, 2, x0), (1, 0, x1), (2, 0, x2), (4, 0, x3)] [(0, x4)] S (f_X12_priceOf_b51 r9 x0 x1 x2 x3 x4 S) := by
  intro x0 x1 x2 x3 x4 S h0 h1 h2 h3 h4
  unfold f_X12_priceOf_b51
  refine j_istore_n (lv' := [(3, 0, x4), (0, 2, x0), (1, 0, x1), (2, 0, x2), (4, 0, x3)]) dX12_priceOf_51 rfl (Nat.le_of_ble_eq_true rfl) rfl ?_
  refine j_iincL (q := 4) dX12_priceOf_52 rfl (Nat.le_of_ble_eq_true rfl) (fun v7 hv7 => ?_)
  refine j_lv (lv' := [(4, 0, v7), (3, 0, x4), (0, 2, x0), (1, 0, x1), (2, 0, x2)]) rfl ?_
  refine j_goto (tgt := 9) dX12_priceOf_55 rfl ?_
  refine j_sub [2, 3, 4, 1, 0] rfl ?_
  exact k9 x0 x1 x2 x4 v7 S h0 h1 h2 h4 hv7
def f_X12_priceOf_b37 (r9 : Int → Int → Int → Int → Int → jSt → Option (Int × jSt)) (x0 : Int) (x1 : Int) (x2 : Int) (x3 : Int) (x4 : Int) (x5 : Int) (S : jSt) : Option (Int × jSt) :=
  if x5 ≤ x3 then f_X12_priceOf_b51 r9 x0 x1 x2 x4 x3 S else f_X12_priceOf_b51 r9 x0 x1 x2 x4 x5 S
theorem p_f_X12_priceOf_b37 {G : jG} {d : Nat} {S0 : jSt} (hd0 : 6 ≤ d) {r9 : Int → Int → Int → Int → Int → jSt → Option (Int × jSt)} (k9 : ∀ (x0 : Int) (x1 : Int) (x2 : Int) (x3 : Int) (x4 : Int) (S : jSt), (0 ≤ (x0)) → (R32 (x1)) → (R32 (x2)) → (R32 (x3)) → (R32 (x4)) → J G yX12_priceOf cX12_priceOf 6 (some .int) d S0 9 [(0, 2, x0), (1, 0, x1), (2, 0, x2), (3, 0, x3), (4, 0, x4)] [] S (r9 x0 x1 x2 x3 x4 S)) : ∀ (x0 : Int) (x1 : Int) (x2 : Int) (x3 : Int) (x4 : Int) (x5 : Int) (S : jSt), (0 ≤ (x0)) → (R32 (x1)) → (R32 (x2)) → (R32 (x3)) → (R32 (x4)) → (R32 (x5)) → J G yX12_priceOf cX12_priceOf 6 (some .int) d S0 37 [(0, 2, x0), (1, 0, x1), (2, 0, x2), (3, 0, x3), (4, 0, x4)] [(0, x5)] S (f_X12_priceOf_b37 r9 x0 x1 x2 x3 x4 x5 S) := by
  intro x0 x1 x2 x3 x4 x5 S h0 h1 h2 h3 h4 h5
  unfold f_X12_priceOf_b37
  refine j_istore (lv' := [(5, 0, x5), (0, 2, x0), (1, 0, x1), (2, 0, x2), (3, 0, x3), (4, 0, x4)]) dX12_priceOf_37 (Nat.le_of_ble_eq_true rfl) rfl ?_
  refine j_iload 0 dX12_priceOf_39 rfl ?_
  refine j_iload_n 4 dX12_priceOf_41 rfl rfl ?_
  refine j_icmp_le (tgt := 50) h5 h3 dX12_priceOf_42 rfl (fun _ => ?_) (fun _ => ?_)
  · refine j_iload_n 4 dX12_priceOf_50 rfl rfl ?_
    refine j_sub [1, 2, 3, 5] rfl ?_
    exact p_f_X12_priceOf_b51 hd0 k9 x0 x1 x2 x4 x3 S h0 h1 h2 h4 h3
  · refine j_iload 0 dX12_priceOf_45 rfl ?_
    refine j_goto (tgt := 51) dX12_priceOf_47 rfl ?_
    refine j_sub [1, 2, 3, 5] rfl ?_
    exact p_f_X12_priceOf_b51 hd0 k9 x0 x1 x2 x4 x5 S h0 h1 h2 h4 h5
def f_X12_priceOf_b9B (r9 : Int → Int → Int → Int → Int → jSt → Option (Int × jSt)) (x0 : Int) (x1 : Int) (x2 : Int) (x3 : Int) (x4 : Int) (S : jSt) : Option (Int × jSt) :=
  fgetr S x0 12 0 (fun v3 => fald S v3 1 1 (fun v4 => if v4 ≤ x4 then some (x3, S) else if x4 = x2 then f_X12_priceOf_b37 r9 x0 x1 x2 x3 x4 0 S else fcallv S x0 12 (f_X12_bidOf x0 x4 x1 S) (fun v5 S6 => f_X12_priceOf_b37 r9 x0 x1 x2 x3 x4 v5 S6)))
theorem p_f_X12_priceOf_b9B {G : jG} {d : Nat} {S0 : jSt} (hd0 : 6 ≤ d) {r9 : Int → Int → Int → Int → Int → jSt → Option (Int × jSt)} (k9 : ∀ (x0 : Int) (x1 : Int) (x2 : Int) (x3 : Int) (x4 : Int) (S : jSt), (0 ≤ (x0)) → (R32 (x1)) → (R32 (x2)) → (R32 (x3)) → (R32 (x4)) → J G yX12_priceOf cX12_priceOf 6 (some .int) d S0 9 [(0, 2, x0), (1, 0, x1), (2, 0, x2), (3, 0, x3), (4, 0, x4)] [] S (r9 x0 x1 x2 x3 x4 S)) : ∀ (x0 : Int) (x1 : Int) (x2 : Int) (x3 : Int) (x4 : Int) (S : jSt), (0 ≤ (x0)) → (R32 (x1)) → (R32 (x2)) → (R32 (x3)) → (R32 (x4)) → J G yX12_priceOf cX12_priceOf 6 (some .int) d S0 9 [(0, 2, x0), (1, 0, x1), (2, 0, x2), (3, 0, x3), (4, 0, x4)] [] S (f_X12_priceOf_b9B r9 x0 x1 x2 x3 x4 S) := by
  intro x0 x1 x2 x3 x4 S h0 h1 h2 h3 h4
  unfold f_X12_priceOf_b9B
  refine j_iload 4 dX12_priceOf_9 rfl ?_
  refine j_aload_n 0 dX12_priceOf_11 rfl rfl ?_
  refine j_getr (ci := 12) (k := 0) rfl in_X12 (Nat.le_of_ble_eq_true rfl) rfl rfl fl_X12_7 dX12_priceOf_12 (fun (v3 : Int) (hv3 : 0 ≤ v3) => ?_)
  refine j_iconst dX12_priceOf_15 ?_
  refine j_iaload (jZ_R jz1) dX12_priceOf_16 (fun (v4 : Int) (hv4 : R32 (v4)) => ?_)
  refine j_icmp_ge (tgt := 58) h4 hv4 dX12_priceOf_17 rfl (fun _ => ?_) (fun _ => ?_)
  · refine j_iload_n 3 dX12_priceOf_58 rfl rfl ?_
    exact j_ireturn h3 dX12_priceOf_59
  · refine j_iload 4 dX12_priceOf_20 rfl ?_
    refine j_iload_n 2 dX12_priceOf_22 rfl rfl ?_
    refine j_icmp_ne (tgt := 30) h4 h2 dX12_priceOf_23 rfl (fun _ => ?_) (fun _ => ?_)
    · refine j_aload_n 0 dX12_priceOf_30 rfl rfl ?_
      refine j_iload 4 dX12_priceOf_31 rfl ?_
      refine j_iload_n 1 dX12_priceOf_33 rfl rfl ?_
      refine j_callV (ci := 12) (As := [(0, x4), (0, x1)]) (st := []) kc_X12_bidOf (c_X12_bidOf x0 x4 x1 S h0 h4 h1) rfl lm_X12_319 ki_X12_bidOf ke_X12_bidOf rfl (Nat.le_of_ble_eq_true rfl) (Nat.le_trans (m := 6) (Nat.le_of_ble_eq_true rfl) hd0) dX12_priceOf_34 (fun (v5 : Int) (S6 : jSt) (hv5 : R32 (v5)) => ?_)
      exact p_f_X12_priceOf_b37 hd0 k9 x0 x1 x2 x3 x4 v5 S6 h0 h1 h2 h3 h4 hv5
    · refine j_iconst dX12_priceOf_26 ?_
      refine j_goto (tgt := 37) dX12_priceOf_27 rfl ?_
      exact p_f_X12_priceOf_b37 hd0 k9 x0 x1 x2 x3 x4 0 S h0 h1 h2 h3 h4 (jZ_R jz0)
def f_X12_priceOf_b9 : Int → Int → Int → Int → Int → jSt → Option (Int × jSt) := jrep (β := Int → Int → Int → Int → Int → jSt → Option (Int × jSt)) (fun _ _ _ _ _ _ => none) (fun r => f_X12_priceOf_b9B r) jN
theorem p_f_X12_priceOf_b9 {G : jG} {d : Nat} {S0 : jSt} (hd0 : 6 ≤ d) : ∀ (x0 : Int) (x1 : Int) (x2 : Int) (x3 : Int) (x4 : Int) (S : jSt), (0 ≤ (x0)) → (R32 (x1)) → (R32 (x2)) → (R32 (x3)) → (R32 (x4)) → J G yX12_priceOf cX12_priceOf 6 (some .int) d S0 9 [(0, 2, x0), (1, 0, x1), (2, 0, x2), (3, 0, x3), (4, 0, x4)] [] S (f_X12_priceOf_b9  x0 x1 x2 x3 x4 S) :=
  jrep_ind (P := fun (r : Int → Int → Int → Int → Int → jSt → Option (Int × jSt)) => ∀ (x0 : Int) (x1 : Int) (x2 : Int) (x3 : Int) (x4 : Int) (S : jSt), (0 ≤ (x0)) → (R32 (x1)) → (R32 (x2)) → (R32 (x3)) → (R32 (x4)) → J G yX12_priceOf cX12_priceOf 6 (some .int) d S0 9 [(0, 2, x0), (1, 0, x1), (2, 0, x2), (3, 0, x3), (4, 0, x4)] [] S (r x0 x1 x2 x3 x4 S)) (by intros; exact j_none) (fun r k => p_f_X12_priceOf_b9B hd0 k) jN
def f_X12_priceOf (a0 : Int) (a1 : Int) (a2 : Int) (S : jSt) : Option (Int × jSt) :=
  fcallv S a0 12 (f_X12_reserveOf a0 a1 S) (fun v1 S2 => f_X12_priceOf_b9 a0 a1 a2 v1 0 S2)
theorem e_X12_priceOf {G : jG} {d : Nat} {S0 : jSt} (hd0 : 6 ≤ d) (a0 : Int) (a1 : Int) (a2 : Int) (S : jSt) (h0 : 0 ≤ (a0)) (h1 : R32 (a1)) (h2 : R32 (a2)) : J G yX12_priceOf cX12_priceOf 6 (some .int) d S0 0 [(0, 2, a0), (1, 0, a1), (2, 0, a2)] [] S (f_X12_priceOf a0 a1 a2 S) := by
  unfold f_X12_priceOf
  refine j_aload_n 0 dX12_priceOf_0 rfl rfl ?_
  refine j_iload_n 1 dX12_priceOf_1 rfl rfl ?_
  refine j_callV (ci := 12) (As := [(0, a1)]) (st := []) kc_X12_reserveOf (c_X12_reserveOf a0 a1 S h0 h1) rfl lm_X12_322 ki_X12_reserveOf ke_X12_reserveOf rfl (Nat.le_of_ble_eq_true rfl) (Nat.le_trans (m := 6) (Nat.le_of_ble_eq_true rfl) hd0) dX12_priceOf_2 (fun (v1 : Int) (S2 : jSt) (hv1 : R32 (v1)) => ?_)
  refine j_istore_n (lv' := [(3, 0, v1), (0, 2, a0), (1, 0, a1), (2, 0, a2)]) dX12_priceOf_5 rfl (Nat.le_of_ble_eq_true rfl) rfl ?_
  refine j_iconst dX12_priceOf_6 ?_
  refine j_istore (lv' := [(4, 0, 0), (3, 0, v1), (0, 2, a0), (1, 0, a1), (2, 0, a2)]) dX12_priceOf_7 (Nat.le_of_ble_eq_true rfl) rfl ?_
  refine j_sub [2, 3, 4, 1, 0] rfl ?_
  exact p_f_X12_priceOf_b9 hd0 a0 a1 a2 v1 0 S2 h0 h1 h2 hv1 (jZ_R jz0)
theorem c_X12_priceOf {G : jG} (a0 : Int) (a1 : Int) (a2 : Int) (S : jSt) (h0 : 0 ≤ (a0)) (h1 : R32 (a1)) (h2 : R32 (a2)) : CT G yX12_priceOf cX12_priceOf 6 (some .int) 6 ([(2, a0), (0, a1), (0, a2)].map jval) S (f_X12_priceOf a0 a1 a2 S) := ct_of [(2, a0), (0, a1), (0, a2)] (by decide) rfl (Nat.le_of_ble_eq_true rfl) (e_X12_priceOf (Nat.le_refl _) a0 a1 a2 S h0 h1 h2)
-- X12_put
def f_X12_put (a0 : Int) (a1 : Int) (a2 : Int) (a3 : Int) (S : jSt) : Option (Int × jSt) :=
  fgetr S a0 12 0 (fun v1 => fast S v1 (w32 ((w32 (11 + (w32 (5 * a1)))) + a2)) 1 a3 (fun S2 => some (0, S2)))
theorem e_X12_put {G : jG} {d : Nat} {S0 : jSt} (hd0 : 1 ≤ d) (a0 : Int) (a1 : Int) (a2 : Int) (a3 : Int) (S : jSt) (h0 : 0 ≤ (a0)) (h1 : R32 (a1)) (h2 : R32 (a2)) (h3 : R32 (a3)) : J G yX12_put cX12_put 4 none d S0 0 [(0, 2, a0), (1, 0, a1), (2, 0, a2), (3, 0, a3)] [] S (f_X12_put a0 a1 a2 a3 S) := by
  unfold f_X12_put
  refine j_aload_n 0 dX12_put_0 rfl rfl ?_
  refine j_getr (ci := 12) (k := 0) rfl in_X12 (Nat.le_of_ble_eq_true rfl) rfl rfl fl_X12_7 dX12_put_1 (fun (v1 : Int) (hv1 : 0 ≤ v1) => ?_)
  refine j_bipush dX12_put_4 (by decide) ?_
  refine j_iconst dX12_put_6 ?_
  refine j_iload_n 1 dX12_put_7 rfl rfl ?_
  refine j_imul dX12_put_8 ?_
  refine j_iadd dX12_put_9 ?_
  refine j_iload_n 2 dX12_put_10 rfl rfl ?_
  refine j_iadd dX12_put_11 ?_
  refine j_iload_n 3 dX12_put_12 rfl rfl ?_
  refine j_iastore (w32_R _) h3 dX12_put_13 (fun S2 => ?_)
  exact j_return dX12_put_14
theorem c_X12_put {G : jG} (a0 : Int) (a1 : Int) (a2 : Int) (a3 : Int) (S : jSt) (h0 : 0 ≤ (a0)) (h1 : R32 (a1)) (h2 : R32 (a2)) (h3 : R32 (a3)) : CT G yX12_put cX12_put 4 none 1 ([(2, a0), (0, a1), (0, a2), (0, a3)].map jval) S (f_X12_put a0 a1 a2 a3 S) := ct_of [(2, a0), (0, a1), (0, a2), (0, a3)] (by decide) rfl (Nat.le_of_ble_eq_true rfl) (e_X12_put (Nat.le_refl _) a0 a1 a2 a3 S h0 h1 h2 h3)
-- X12_winnerOf
def f_X12_winnerOf_b67 (x0 : Int) (S : jSt) : Option (Int × jSt) :=
  some (x0, S)
theorem p_f_X12_winnerOf_b67 {G : jG} {d : Nat} {S0 : jSt} (hd0 : 6 ≤ d) : ∀ (x0 : Int) (S : jSt), (R32 (x0)) → J G yX12_winnerOf cX12_winnerOf 6 (some .int) d S0 67 [] [(0, x0)] S (f_X12_winnerOf_b67  x0 S) := by
  intro x0 S h0
  unfold f_X12_winnerOf_b67
  exact j_ireturn h0 dX12_winnerOf_67
def f_X12_winnerOf_b66 (S : jSt) : Option (Int × jSt) :=
  f_X12_winnerOf_b67 (-1) S
theorem p_f_X12_winnerOf_b66 {G : jG} {d : Nat} {S0 : jSt} (hd0 : 6 ≤ d) : ∀ (S : jSt), J G yX12_winnerOf cX12_winnerOf 6 (some .int) d S0 66 [] [] S (f_X12_winnerOf_b66   S) := by
  intro S
  unfold f_X12_winnerOf_b66
  refine j_iconst dX12_winnerOf_66 ?_
  exact p_f_X12_winnerOf_b67 hd0 (-1) S (j_r32 (-1) rfl)
def f_X12_winnerOf_b42 (r7 : Int → Int → Int → Int → Int → jSt → Option (Int × jSt)) (x0 : Int) (x1 : Int) (x2 : Int) (x3 : Int) (x4 : Int) (S : jSt) : Option (Int × jSt) :=
  flet (w32 (x4 + 1)) (fun v7 => r7 x0 x1 x2 x3 v7 S)
theorem p_f_X12_winnerOf_b42 {G : jG} {d : Nat} {S0 : jSt} (hd0 : 6 ≤ d) {r7 : Int → Int → Int → Int → Int → jSt → Option (Int × jSt)} (k7 : ∀ (x0 : Int) (x1 : Int) (x2 : Int) (x3 : Int) (x4 : Int) (S : jSt), (0 ≤ (x0)) → (R32 (x1)) → (R32 (x2)) → (R32 (x3)) → (R32 (x4)) → J G yX12_winnerOf cX12_winnerOf 6 (some .int) d S0 7 [(0, 2, x0), (1, 0, x1), (2, 0, x2), (3, 0, x3), (4, 0, x4)] [] S (r7 x0 x1 x2 x3 x4 S)) : ∀ (x0 : Int) (x1 : Int) (x2 : Int) (x3 : Int) (x4 : Int) (S : jSt), (0 ≤ (x0)) → (R32 (x1)) → (R32 (x2)) → (R32 (x3)) → (R32 (x4)) → J G yX12_winnerOf cX12_winnerOf 6 (some .int) d S0 42 [(0, 2, x0), (1, 0, x1), (2, 0, x2), (3, 0, x3), (4, 0, x4)] [] S (f_X12_winnerOf_b42 r7 x0 x1 x2 x3 x4 S) := by
  intro x0 x1 x2 x3 x4 S h0 h1 h2 h3 h4
  unfold f_X12_winnerOf_b42
  refine j_iincL (q := 4) dX12_winnerOf_42 rfl (Nat.le_of_ble_eq_true rfl) (fun v7 hv7 => ?_)
  refine j_lv (lv' := [(4, 0, v7), (0, 2, x0), (1, 0, x1), (2, 0, x2), (3, 0, x3)]) rfl ?_
  refine j_goto (tgt := 7) dX12_winnerOf_45 rfl ?_
  refine j_sub [1, 2, 3, 4, 0] rfl ?_
  exact k7 x0 x1 x2 x3 v7 S h0 h1 h2 h3 hv7
def f_X12_winnerOf_b7B (r7 : Int → Int → Int → Int → Int → jSt → Option (Int × jSt)) (x0 : Int) (x1 : Int) (x2 : Int) (x3 : Int) (x4 : Int) (S : jSt) : Option (Int × jSt) :=
  fgetr S x0 12 0 (fun v1 => fald S v1 1 1 (fun v2 => if v2 ≤ x4 then if x2 = (-1) then f_X12_winnerOf_b66 S else fcallv S x0 12 (f_X12_reserveOf x0 x1 S) (fun v3 S4 => if x3 < v3 then f_X12_winnerOf_b66 S4 else f_X12_winnerOf_b67 x2 S4) else fcallv S x0 12 (f_X12_bidOf x0 x4 x1 S) (fun v5 S6 => if x3 < v5 then f_X12_winnerOf_b42 r7 x0 x1 x4 v5 x4 S6 else f_X12_winnerOf_b42 r7 x0 x1 x2 x3 x4 S6)))
theorem p_f_X12_winnerOf_b7B {G : jG} {d : Nat} {S0 : jSt} (hd0 : 6 ≤ d) {r7 : Int → Int → Int → Int → Int → jSt → Option (Int × jSt)} (k7 : ∀ (x0 : Int) (x1 : Int) (x2 : Int) (x3 : Int) (x4 : Int) (S : jSt), (0 ≤ (x0)) → (R32 (x1)) → (R32 (x2)) → (R32 (x3)) → (R32 (x4)) → J G yX12_winnerOf cX12_winnerOf 6 (some .int) d S0 7 [(0, 2, x0), (1, 0, x1), (2, 0, x2), (3, 0, x3), (4, 0, x4)] [] S (r7 x0 x1 x2 x3 x4 S)) : ∀ (x0 : Int) (x1 : Int) (x2 : Int) (x3 : Int) (x4 : Int) (S : jSt), (0 ≤ (x0)) → (R32 (x1)) → (R32 (x2)) → (R32 (x3)) → (R32 (x4)) → J G yX12_winnerOf cX12_winnerOf 6 (some .int) d S0 7 [(0, 2, x0), (1, 0, x1), (2, 0, x2), (3, 0, x3), (4, 0, x4)] [] S (f_X12_winnerOf_b7B r7 x0 x1 x2 x3 x4 S) := by
  intro x0 x1 x2 x3 x4 S h0 h1 h2 h3 h4
  unfold f_X12_winnerOf_b7B
  refine j_iload 4 dX12_winnerOf_7 rfl ?_
  refine j_aload_n 0 dX12_winnerOf_9 rfl rfl ?_
  refine j_getr (ci := 12) (k := 0) rfl in_X12 (Nat.le_of_ble_eq_true rfl) rfl rfl fl_X12_7 dX12_winnerOf_10 (fun (v1 : Int) (hv1 : 0 ≤ v1) => ?_)
  refine j_iconst dX12_winnerOf_13 ?_
  refine j_iaload (jZ_R jz1) dX12_winnerOf_14 (fun (v2 : Int) (hv2 : R32 (v2)) => ?_)
  refine j_icmp_ge (tgt := 48) h4 hv2 dX12_winnerOf_15 rfl (fun _ => ?_) (fun _ => ?_)
  · refine j_iload_n 2 dX12_winnerOf_48 rfl rfl ?_
    refine j_iconst dX12_winnerOf_49 ?_
    refine j_icmp_eq (tgt := 66) h2 (j_r32 (-1) rfl) dX12_winnerOf_50 rfl (fun _ => ?_) (fun _ => ?_)
    · refine j_sub [] rfl ?_
      exact p_f_X12_winnerOf_b66 hd0 S
    · refine j_iload_n 3 dX12_winnerOf_53 rfl rfl ?_
      refine j_aload_n 0 dX12_winnerOf_54 rfl rfl ?_
      refine j_iload_n 1 dX12_winnerOf_55 rfl rfl ?_
      refine j_callV (ci := 12) (As := [(0, x1)]) (st := [(0, x3)]) kc_X12_reserveOf (c_X12_reserveOf x0 x1 S h0 h1) rfl lm_X12_322 ki_X12_reserveOf ke_X12_reserveOf rfl (Nat.le_of_ble_eq_true rfl) (Nat.le_trans (m := 6) (Nat.le_of_ble_eq_true rfl) hd0) dX12_winnerOf_56 (fun (v3 : Int) (S4 : jSt) (hv3 : R32 (v3)) => ?_)
      refine j_icmp_lt (tgt := 66) h3 hv3 dX12_winnerOf_59 rfl (fun _ => ?_) (fun _ => ?_)
      · refine j_sub [] rfl ?_
        exact p_f_X12_winnerOf_b66 hd0 S4
      · refine j_iload_n 2 dX12_winnerOf_62 rfl rfl ?_
        refine j_goto (tgt := 67) dX12_winnerOf_63 rfl ?_
        refine j_sub [] rfl ?_
        exact p_f_X12_winnerOf_b67 hd0 x2 S4 h2
  · refine j_aload_n 0 dX12_winnerOf_18 rfl rfl ?_
    refine j_iload 4 dX12_winnerOf_19 rfl ?_
    refine j_iload_n 1 dX12_winnerOf_21 rfl rfl ?_
    refine j_callV (ci := 12) (As := [(0, x4), (0, x1)]) (st := []) kc_X12_bidOf (c_X12_bidOf x0 x4 x1 S h0 h4 h1) rfl lm_X12_319 ki_X12_bidOf ke_X12_bidOf rfl (Nat.le_of_ble_eq_true rfl) (Nat.le_trans (m := 6) (Nat.le_of_ble_eq_true rfl) hd0) dX12_winnerOf_22 (fun (v5 : Int) (S6 : jSt) (hv5 : R32 (v5)) => ?_)
    refine j_istore (lv' := [(5, 0, v5), (0, 2, x0), (1, 0, x1), (2, 0, x2), (3, 0, x3), (4, 0, x4)]) dX12_winnerOf_25 (Nat.le_of_ble_eq_true rfl) rfl ?_
    refine j_iload 0 dX12_winnerOf_27 rfl ?_
    refine j_iload_n 4 dX12_winnerOf_29 rfl rfl ?_
    refine j_icmp_gt (tgt := 36) hv5 h3 dX12_winnerOf_30 rfl (fun _ => ?_) (fun _ => ?_)
    · refine j_iload 0 dX12_winnerOf_36 rfl ?_
      refine j_istore_n (lv' := [(3, 0, v5), (5, 0, v5), (0, 2, x0), (1, 0, x1), (2, 0, x2), (4, 0, x4)]) dX12_winnerOf_38 rfl (Nat.le_of_ble_eq_true rfl) rfl ?_
      refine j_iload 5 dX12_winnerOf_39 rfl ?_
      refine j_istore_n (lv' := [(2, 0, x4), (3, 0, v5), (5, 0, v5), (0, 2, x0), (1, 0, x1), (4, 0, x4)]) dX12_winnerOf_41 rfl (Nat.le_of_ble_eq_true rfl) rfl ?_
      refine j_sub [3, 4, 0, 1, 5] rfl ?_
      exact p_f_X12_winnerOf_b42 hd0 k7 x0 x1 x4 v5 x4 S6 h0 h1 h4 hv5 h4
    · refine j_goto (tgt := 42) dX12_winnerOf_33 rfl ?_
      refine j_sub [1, 2, 3, 4, 5] rfl ?_
      exact p_f_X12_winnerOf_b42 hd0 k7 x0 x1 x2 x3 x4 S6 h0 h1 h2 h3 h4
def f_X12_winnerOf_b7 : Int → Int → Int → Int → Int → jSt → Option (Int × jSt) := jrep (β := Int → Int → Int → Int → Int → jSt → Option (Int × jSt)) (fun _ _ _ _ _ _ => none) (fun r => f_X12_winnerOf_b7B r) jN
theorem p_f_X12_winnerOf_b7 {G : jG} {d : Nat} {S0 : jSt} (hd0 : 6 ≤ d) : ∀ (x0 : Int) (x1 : Int) (x2 : Int) (x3 : Int) (x4 : Int) (S : jSt), (0 ≤ (x0)) → (R32 (x1)) → (R32 (x2)) → (R32 (x3)) → (R32 (x4)) → J G yX12_winnerOf cX12_winnerOf 6 (some .int) d S0 7 [(0, 2, x0), (1, 0, x1), (2, 0, x2), (3, 0, x3), (4, 0, x4)] [] S (f_X12_winnerOf_b7  x0 x1 x2 x3 x4 S) :=
  jrep_ind (P := fun (r : Int → Int → Int → Int → Int → jSt → Option (Int × jSt)) => ∀ (x0 : Int) (x1 : Int) (x2 : Int) (x3 : Int) (x4 : Int) (S : jSt), (0 ≤ (x0)) → (R32 (x1)) → (R32 (x2)) → (R32 (x3)) → (R32 (x4)) → J G yX12_winnerOf cX12_winnerOf 6 (some .int) d S0 7 [(0, 2, x0), (1, 0, x1), (2, 0, x2), (3, 0, x3), (4, 0, x4)] [] S (r x0 x1 x2 x3 x4 S)) (by intros; exact j_none) (fun r k => p_f_X12_winnerOf_b7B hd0 k) jN
def f_X12_winnerOf (a0 : Int) (a1 : Int) (S : jSt) : Option (Int × jSt) :=
  f_X12_winnerOf_b7 a0 a1 (-1) (-1) 0 S
theorem e_X12_winnerOf {G : jG} {d : Nat} {S0 : jSt} (hd0 : 6 ≤ d) (a0 : Int) (a1 : Int) (S : jSt) (h0 : 0 ≤ (a0)) (h1 : R32 (a1)) : J G yX12_winnerOf cX12_winnerOf 6 (some .int) d S0 0 [(0, 2, a0), (1, 0, a1)] [] S (f_X12_winnerOf a0 a1 S) := by
  unfold f_X12_winnerOf
  refine j_iconst dX12_winnerOf_0 ?_
  refine j_istore_n (lv' := [(2, 0, (-1)), (0, 2, a0), (1, 0, a1)]) dX12_winnerOf_1 rfl (Nat.le_of_ble_eq_true rfl) rfl ?_
  refine j_iconst dX12_winnerOf_2 ?_
  refine j_istore_n (lv' := [(3, 0, (-1)), (2, 0, (-1)), (0, 2, a0), (1, 0, a1)]) dX12_winnerOf_3 rfl (Nat.le_of_ble_eq_true rfl) rfl ?_
  refine j_iconst dX12_winnerOf_4 ?_
  refine j_istore (lv' := [(4, 0, 0), (3, 0, (-1)), (2, 0, (-1)), (0, 2, a0), (1, 0, a1)]) dX12_winnerOf_5 (Nat.le_of_ble_eq_true rfl) rfl ?_
  refine j_sub [3, 4, 2, 1, 0] rfl ?_
  exact p_f_X12_winnerOf_b7 hd0 a0 a1 (-1) (-1) 0 S h0 h1 (j_r32 (-1) rfl) (j_r32 (-1) rfl) (jZ_R jz0)
theorem c_X12_winnerOf {G : jG} (a0 : Int) (a1 : Int) (S : jSt) (h0 : 0 ≤ (a0)) (h1 : R32 (a1)) : CT G yX12_winnerOf cX12_winnerOf 6 (some .int) 6 ([(2, a0), (0, a1)].map jval) S (f_X12_winnerOf a0 a1 S) := ct_of [(2, a0), (0, a1)] (by decide) rfl (Nat.le_of_ble_eq_true rfl) (e_X12_winnerOf (Nat.le_refl _) a0 a1 S h0 h1)
-- X12_write
def f_X12_write_b71 (x0 : Int) (x1 : Int) (x2 : Int) (x3 : Int) (S : jSt) : Option (Int × jSt) :=
  fgetr S x0 12 0 (fun v4 => fgetr S x0 12 0 (fun v5 => fald S v5 10 1 (fun v6 => fgetr S x0 12 0 (fun v7 => fald S v7 7 1 (fun v8 => fast S v4 (w32 (4843 + (w32 (2 * v6)))) 1 (w32 ((w32 ((w32 ((w32 (v8 * 16)) + x1)) * 8)) + x2)) (fun S9 => fgetr S9 x0 12 0 (fun v10 => fgetr S9 x0 12 0 (fun v11 => fald S9 v11 10 1 (fun v12 => fast S9 v10 (w32 ((w32 (4843 + (w32 (2 * v12)))) + 1)) 1 x3 (fun S13 => fgetr S13 x0 12 0 (fun v14 => fald S13 v14 10 1 (fun v15 => fast S13 v14 10 1 (w32 (v15 + 1)) (fun S16 => some (0, S16))))))))))))))
theorem p_f_X12_write_b71 {G : jG} {d : Nat} {S0 : jSt} (hd0 : 1 ≤ d) : ∀ (x0 : Int) (x1 : Int) (x2 : Int) (x3 : Int) (S : jSt), (0 ≤ (x0)) → (R32 (x1)) → (R32 (x2)) → (R32 (x3)) → J G yX12_write cX12_write 5 none d S0 71 [(0, 2, x0), (1, 0, x1), (2, 0, x2), (3, 0, x3)] [] S (f_X12_write_b71  x0 x1 x2 x3 S) := by
  intro x0 x1 x2 x3 S h0 h1 h2 h3
  unfold f_X12_write_b71
  refine j_aload_n 0 dX12_write_71 rfl rfl ?_
  refine j_getr (ci := 12) (k := 0) rfl in_X12 (Nat.le_of_ble_eq_true rfl) rfl rfl fl_X12_7 dX12_write_72 (fun (v4 : Int) (hv4 : 0 ≤ v4) => ?_)
  refine j_sipush dX12_write_75 (by decide) ?_
  refine j_iconst dX12_write_78 ?_
  refine j_aload_n 0 dX12_write_79 rfl rfl ?_
  refine j_getr (ci := 12) (k := 0) rfl in_X12 (Nat.le_of_ble_eq_true rfl) rfl rfl fl_X12_7 dX12_write_80 (fun (v5 : Int) (hv5 : 0 ≤ v5) => ?_)
  refine j_bipush dX12_write_83 (by decide) ?_
  refine j_iaload (j_r32 10 rfl) dX12_write_85 (fun (v6 : Int) (hv6 : R32 (v6)) => ?_)
  refine j_imul dX12_write_86 ?_
  refine j_iadd dX12_write_87 ?_
  refine j_aload_n 0 dX12_write_88 rfl rfl ?_
  refine j_getr (ci := 12) (k := 0) rfl in_X12 (Nat.le_of_ble_eq_true rfl) rfl rfl fl_X12_7 dX12_write_89 (fun (v7 : Int) (hv7 : 0 ≤ v7) => ?_)
  refine j_bipush dX12_write_92 (by decide) ?_
  refine j_iaload (j_r32 7 rfl) dX12_write_94 (fun (v8 : Int) (hv8 : R32 (v8)) => ?_)
  refine j_bipush dX12_write_95 (by decide) ?_
  refine j_imul dX12_write_97 ?_
  refine j_iload_n 1 dX12_write_98 rfl rfl ?_
  refine j_iadd dX12_write_99 ?_
  refine j_bipush dX12_write_100 (by decide) ?_
  refine j_imul dX12_write_102 ?_
  refine j_iload_n 2 dX12_write_103 rfl rfl ?_
  refine j_iadd dX12_write_104 ?_
  refine j_iastore (w32_R _) (w32_R _) dX12_write_105 (fun S9 => ?_)
  refine j_aload_n 0 dX12_write_106 rfl rfl ?_
  refine j_getr (ci := 12) (k := 0) rfl in_X12 (Nat.le_of_ble_eq_true rfl) rfl rfl fl_X12_7 dX12_write_107 (fun (v10 : Int) (hv10 : 0 ≤ v10) => ?_)
  refine j_sipush dX12_write_110 (by decide) ?_
  refine j_iconst dX12_write_113 ?_
  refine j_aload_n 0 dX12_write_114 rfl rfl ?_
  refine j_getr (ci := 12) (k := 0) rfl in_X12 (Nat.le_of_ble_eq_true rfl) rfl rfl fl_X12_7 dX12_write_115 (fun (v11 : Int) (hv11 : 0 ≤ v11) => ?_)
  refine j_bipush dX12_write_118 (by decide) ?_
  refine j_iaload (j_r32 10 rfl) dX12_write_120 (fun (v12 : Int) (hv12 : R32 (v12)) => ?_)
  refine j_imul dX12_write_121 ?_
  refine j_iadd dX12_write_122 ?_
  refine j_iconst dX12_write_123 ?_
  refine j_iadd dX12_write_124 ?_
  refine j_iload_n 3 dX12_write_125 rfl rfl ?_
  refine j_iastore (w32_R _) h3 dX12_write_126 (fun S13 => ?_)
  refine j_aload_n 0 dX12_write_127 rfl rfl ?_
  refine j_getr (ci := 12) (k := 0) rfl in_X12 (Nat.le_of_ble_eq_true rfl) rfl rfl fl_X12_7 dX12_write_128 (fun (v14 : Int) (hv14 : 0 ≤ v14) => ?_)
  refine j_bipush dX12_write_131 (by decide) ?_
  refine j_dup2 dX12_write_133 (fun h => nomatch h) (fun h => nomatch h) ?_
  refine j_iaload (j_r32 10 rfl) dX12_write_134 (fun (v15 : Int) (hv15 : R32 (v15)) => ?_)
  refine j_iconst dX12_write_135 ?_
  refine j_iadd dX12_write_136 ?_
  refine j_iastore (j_r32 10 rfl) (w32_R _) dX12_write_137 (fun S16 => ?_)
  exact j_return dX12_write_138
def f_X12_write_b23B (r23 : Int → Int → Int → Int → Int → jSt → Option (Int × jSt)) (x0 : Int) (x1 : Int) (x2 : Int) (x3 : Int) (x4 : Int) (S : jSt) : Option (Int × jSt) :=
  if 60 ≤ x4 then fgetr S x0 12 0 (fun v17 => fald S v17 10 1 (fun v18 => fast S v17 10 1 (w32 (v18 - 1)) (fun S19 => f_X12_write_b71 x0 x1 x2 x3 S19))) else fgetr S x0 12 0 (fun v20 => fgetr S x0 12 0 (fun v21 => fald S v21 (w32 (4843 + x4)) 1 (fun v22 => fast S v20 (w32 ((w32 (4843 + x4)) - 2)) 1 v22 (fun S23 => flet (w32 (x4 + 1)) (fun v24 => r23 x0 x1 x2 x3 v24 S23)))))
theorem p_f_X12_write_b23B {G : jG} {d : Nat} {S0 : jSt} (hd0 : 1 ≤ d) {r23 : Int → Int → Int → Int → Int → jSt → Option (Int × jSt)} (k23 : ∀ (x0 : Int) (x1 : Int) (x2 : Int) (x3 : Int) (x4 : Int) (S : jSt), (0 ≤ (x0)) → (R32 (x1)) → (R32 (x2)) → (R32 (x3)) → (R32 (x4)) → J G yX12_write cX12_write 5 none d S0 23 [(0, 2, x0), (1, 0, x1), (2, 0, x2), (3, 0, x3), (4, 0, x4)] [] S (r23 x0 x1 x2 x3 x4 S)) : ∀ (x0 : Int) (x1 : Int) (x2 : Int) (x3 : Int) (x4 : Int) (S : jSt), (0 ≤ (x0)) → (R32 (x1)) → (R32 (x2)) → (R32 (x3)) → (R32 (x4)) → J G yX12_write cX12_write 5 none d S0 23 [(0, 2, x0), (1, 0, x1), (2, 0, x2), (3, 0, x3), (4, 0, x4)] [] S (f_X12_write_b23B r23 x0 x1 x2 x3 x4 S) := by
  intro x0 x1 x2 x3 x4 S h0 h1 h2 h3 h4
  unfold f_X12_write_b23B
  refine j_iload 4 dX12_write_23 rfl ?_
  refine j_bipush dX12_write_25 (by decide) ?_
  refine j_icmp_ge (tgt := 60) h4 (j_r32 60 rfl) dX12_write_27 rfl (fun _ => ?_) (fun _ => ?_)
  · refine j_aload_n 0 dX12_write_60 rfl rfl ?_
    refine j_getr (ci := 12) (k := 0) rfl in_X12 (Nat.le_of_ble_eq_true rfl) rfl rfl fl_X12_7 dX12_write_61 (fun (v17 : Int) (hv17 : 0 ≤ v17) => ?_)
    refine j_bipush dX12_write_64 (by decide) ?_
    refine j_dup2 dX12_write_66 (fun h => nomatch h) (fun h => nomatch h) ?_
    refine j_iaload (j_r32 10 rfl) dX12_write_67 (fun (v18 : Int) (hv18 : R32 (v18)) => ?_)
    refine j_iconst dX12_write_68 ?_
    refine j_isub dX12_write_69 ?_
    refine j_iastore (j_r32 10 rfl) (w32_R _) dX12_write_70 (fun S19 => ?_)
    refine j_sub [0, 1, 2, 3] rfl ?_
    exact p_f_X12_write_b71 hd0 x0 x1 x2 x3 S19 h0 h1 h2 h3
  · refine j_aload_n 0 dX12_write_30 rfl rfl ?_
    refine j_getr (ci := 12) (k := 0) rfl in_X12 (Nat.le_of_ble_eq_true rfl) rfl rfl fl_X12_7 dX12_write_31 (fun (v20 : Int) (hv20 : 0 ≤ v20) => ?_)
    refine j_sipush dX12_write_34 (by decide) ?_
    refine j_iload 4 dX12_write_37 rfl ?_
    refine j_iadd dX12_write_39 ?_
    refine j_iconst dX12_write_40 ?_
    refine j_isub dX12_write_41 ?_
    refine j_aload_n 0 dX12_write_42 rfl rfl ?_
    refine j_getr (ci := 12) (k := 0) rfl in_X12 (Nat.le_of_ble_eq_true rfl) rfl rfl fl_X12_7 dX12_write_43 (fun (v21 : Int) (hv21 : 0 ≤ v21) => ?_)
    refine j_sipush dX12_write_46 (by decide) ?_
    refine j_iload 4 dX12_write_49 rfl ?_
    refine j_iadd dX12_write_51 ?_
    refine j_iaload (w32_R _) dX12_write_52 (fun (v22 : Int) (hv22 : R32 (v22)) => ?_)
    refine j_iastore (w32_R _) hv22 dX12_write_53 (fun S23 => ?_)
    refine j_iincL (q := 4) dX12_write_54 rfl (Nat.le_of_ble_eq_true rfl) (fun v24 hv24 => ?_)
    refine j_lv (lv' := [(4, 0, v24), (0, 2, x0), (1, 0, x1), (2, 0, x2), (3, 0, x3)]) rfl ?_
    refine j_goto (tgt := 23) dX12_write_57 rfl ?_
    refine j_sub [1, 2, 3, 4, 0] rfl ?_
    exact k23 x0 x1 x2 x3 v24 S23 h0 h1 h2 h3 hv24
def f_X12_write_b23 : Int → Int → Int → Int → Int → jSt → Option (Int × jSt) := jrep (β := Int → Int → Int → Int → Int → jSt → Option (Int × jSt)) (fun _ _ _ _ _ _ => none) (fun r => f_X12_write_b23B r) jN
theorem p_f_X12_write_b23 {G : jG} {d : Nat} {S0 : jSt} (hd0 : 1 ≤ d) : ∀ (x0 : Int) (x1 : Int) (x2 : Int) (x3 : Int) (x4 : Int) (S : jSt), (0 ≤ (x0)) → (R32 (x1)) → (R32 (x2)) → (R32 (x3)) → (R32 (x4)) → J G yX12_write cX12_write 5 none d S0 23 [(0, 2, x0), (1, 0, x1), (2, 0, x2), (3, 0, x3), (4, 0, x4)] [] S (f_X12_write_b23  x0 x1 x2 x3 x4 S) :=
  jrep_ind (P := fun (r : Int → Int → Int → Int → Int → jSt → Option (Int × jSt)) => ∀ (x0 : Int) (x1 : Int) (x2 : Int) (x3 : Int) (x4 : Int) (S : jSt), (0 ≤ (x0)) → (R32 (x1)) → (R32 (x2)) → (R32 (x3)) → (R32 (x4)) → J G yX12_write cX12_write 5 none d S0 23 [(0, 2, x0), (1, 0, x1), (2, 0, x2), (3, 0, x3), (4, 0, x4)] [] S (r x0 x1 x2 x3 x4 S)) (by intros; exact j_none) (fun r k => p_f_X12_write_b23B hd0 k) jN
def f_X12_write (a0 : Int) (a1 : Int) (a2 : Int) (a3 : Int) (S : jSt) : Option (Int × jSt) :=
  fget S a0 12 23 (fun v1 => if v1 = 0 then some (0, S) else fgetr S a0 12 0 (fun v2 => fald S v2 10 1 (fun v3 => if v3 = 30 then f_X12_write_b23 a0 a1 a2 a3 2 S else f_X12_write_b71 a0 a1 a2 a3 S)))
theorem e_X12_write {G : jG} {d : Nat} {S0 : jSt} (hd0 : 1 ≤ d) (a0 : Int) (a1 : Int) (a2 : Int) (a3 : Int) (S : jSt) (h0 : 0 ≤ (a0)) (h1 : R32 (a1)) (h2 : R32 (a2)) (h3 : R32 (a3)) : J G yX12_write cX12_write 5 none d S0 0 [(0, 2, a0), (1, 0, a1), (2, 0, a2), (3, 0, a3)] [] S (f_X12_write a0 a1 a2 a3 S) := by
  unfold f_X12_write
  refine j_aload_n 0 dX12_write_0 rfl rfl ?_
  refine j_get (ci := 12) (k := 23) (t := 0) rfl in_X12 (Nat.le_of_ble_eq_true rfl) rfl rfl fl_X12_43 dX12_write_1 (fun (v1 : Int) (hv1 : (v1) = 0 ∨ (v1) = 1) => ?_)
  refine j_if_ne (tgt := 8) (jZ_R hv1) dX12_write_4 rfl (fun _ => ?_) (fun _ => ?_)
  · refine j_aload_n 0 dX12_write_8 rfl rfl ?_
    refine j_getr (ci := 12) (k := 0) rfl in_X12 (Nat.le_of_ble_eq_true rfl) rfl rfl fl_X12_7 dX12_write_9 (fun (v2 : Int) (hv2 : 0 ≤ v2) => ?_)
    refine j_bipush dX12_write_12 (by decide) ?_
    refine j_iaload (j_r32 10 rfl) dX12_write_14 (fun (v3 : Int) (hv3 : R32 (v3)) => ?_)
    refine j_bipush dX12_write_15 (by decide) ?_
    refine j_icmp_ne (tgt := 71) hv3 (j_r32 30 rfl) dX12_write_17 rfl (fun _ => ?_) (fun _ => ?_)
    · exact p_f_X12_write_b71 hd0 a0 a1 a2 a3 S h0 h1 h2 h3
    · refine j_iconst dX12_write_20 ?_
      refine j_istore (lv' := [(4, 0, 2), (0, 2, a0), (1, 0, a1), (2, 0, a2), (3, 0, a3)]) dX12_write_21 (Nat.le_of_ble_eq_true rfl) rfl ?_
      refine j_sub [1, 2, 3, 4, 0] rfl ?_
      exact p_f_X12_write_b23 hd0 a0 a1 a2 a3 2 S h0 h1 h2 h3 (j_r32 2 rfl)
  · exact j_return dX12_write_7
theorem c_X12_write {G : jG} (a0 : Int) (a1 : Int) (a2 : Int) (a3 : Int) (S : jSt) (h0 : 0 ≤ (a0)) (h1 : R32 (a1)) (h2 : R32 (a2)) (h3 : R32 (a3)) : CT G yX12_write cX12_write 5 none 1 ([(2, a0), (0, a1), (0, a2), (0, a3)].map jval) S (f_X12_write a0 a1 a2 a3 S) := ct_of [(2, a0), (0, a1), (0, a2), (0, a3)] (by decide) rfl (Nat.le_of_ble_eq_true rfl) (e_X12_write (Nat.le_refl _) a0 a1 a2 a3 S h0 h1 h2 h3)
-- X12_sellNow
def f_X12_sellNow (a0 : Int) (a1 : Int) (S : jSt) : Option (Int × jSt) :=
  fcallv S a0 12 (f_X12_winnerOf a0 a1 S) (fun v1 S2 => if v1 = (-1) then some ((-1), S2) else fcallv S2 a0 12 (f_X12_priceOf a0 a1 v1 S2) (fun v3 S4 => fcallv S4 a0 12 (f_X12_own a0 v1 0 S4) (fun v5 S6 => fcallv S6 a0 12 (f_X12_lay a0 v1 0 (w32 (v5 - v3)) S6) (fun v7 S8 => fgetr S8 a0 12 0 (fun v9 => fgetr S8 a0 12 0 (fun v10 => fald S8 v10 8 1 (fun v11 => fcall (f_X12_held (w32 (v11 + v3)) 0 99999 S8) (fun v12 S13 => fast S13 v9 8 1 v12 (fun S14 => fcallv S14 a0 12 (f_X12_put a0 a1 1 (w32 (3 + v1)) S14) (fun v15 S16 => fget S16 a0 12 24 (fun v17 => fput S16 a0 12 24 (w32 (v17 + 1)) (fun S18 => fcallv S18 a0 12 (f_X12_write a0 a1 v1 v3 S18) (fun v19 S20 => some (v3, S20))))))))))))))
theorem e_X12_sellNow {G : jG} {d : Nat} {S0 : jSt} (hd0 : 7 ≤ d) (a0 : Int) (a1 : Int) (S : jSt) (h0 : 0 ≤ (a0)) (h1 : R32 (a1)) : J G yX12_sellNow cX12_sellNow 4 (some .int) d S0 0 [(0, 2, a0), (1, 0, a1)] [] S (f_X12_sellNow a0 a1 S) := by
  unfold f_X12_sellNow
  refine j_aload_n 0 dX12_sellNow_0 rfl rfl ?_
  refine j_iload_n 1 dX12_sellNow_1 rfl rfl ?_
  refine j_callV (ci := 12) (As := [(0, a1)]) (st := []) kc_X12_winnerOf (c_X12_winnerOf a0 a1 S h0 h1) rfl lm_X12_325 ki_X12_winnerOf ke_X12_winnerOf rfl (Nat.le_of_ble_eq_true rfl) (Nat.le_trans (m := 7) (Nat.le_of_ble_eq_true rfl) hd0) dX12_sellNow_2 (fun (v1 : Int) (S2 : jSt) (hv1 : R32 (v1)) => ?_)
  refine j_istore_n (lv' := [(2, 0, v1), (0, 2, a0), (1, 0, a1)]) dX12_sellNow_5 rfl (Nat.le_of_ble_eq_true rfl) rfl ?_
  refine j_iload_n 0 dX12_sellNow_6 rfl rfl ?_
  refine j_iconst dX12_sellNow_7 ?_
  refine j_icmp_ne (tgt := 13) hv1 (j_r32 (-1) rfl) dX12_sellNow_8 rfl (fun _ => ?_) (fun _ => ?_)
  · refine j_aload_n 1 dX12_sellNow_13 rfl rfl ?_
    refine j_iload_n 2 dX12_sellNow_14 rfl rfl ?_
    refine j_iload_n 0 dX12_sellNow_15 rfl rfl ?_
    refine j_callV (ci := 12) (As := [(0, a1), (0, v1)]) (st := []) kc_X12_priceOf (c_X12_priceOf a0 a1 v1 S2 h0 h1 hv1) rfl lm_X12_328 ki_X12_priceOf ke_X12_priceOf rfl (Nat.le_of_ble_eq_true rfl) (Nat.le_trans (m := 7) (Nat.le_of_ble_eq_true rfl) hd0) dX12_sellNow_16 (fun (v3 : Int) (S4 : jSt) (hv3 : R32 (v3)) => ?_)
    refine j_istore_n (lv' := [(3, 0, v3), (2, 0, v1), (0, 2, a0), (1, 0, a1)]) dX12_sellNow_19 rfl (Nat.le_of_ble_eq_true rfl) rfl ?_
    refine j_aload_n 2 dX12_sellNow_20 rfl rfl ?_
    refine j_iload_n 1 dX12_sellNow_21 rfl rfl ?_
    refine j_iconst dX12_sellNow_22 ?_
    refine j_aload_n 2 dX12_sellNow_23 rfl rfl ?_
    refine j_iload_n 1 dX12_sellNow_24 rfl rfl ?_
    refine j_iconst dX12_sellNow_25 ?_
    refine j_callV (ci := 12) (As := [(0, v1), (0, 0)]) (st := [(0, 0), (0, v1), (2, a0)]) kc_X12_own (c_X12_own a0 v1 0 S4 h0 hv1 (jZ_R jz0)) rfl lm_X12_299 ki_X12_own ke_X12_own rfl (Nat.le_of_ble_eq_true rfl) (Nat.le_trans (m := 7) (Nat.le_of_ble_eq_true rfl) hd0) dX12_sellNow_26 (fun (v5 : Int) (S6 : jSt) (hv5 : R32 (v5)) => ?_)
    refine j_iload_n 0 dX12_sellNow_29 rfl rfl ?_
    refine j_isub dX12_sellNow_30 ?_
    refine j_callV (ci := 12) (As := [(0, v1), (0, 0), (0, w32 (v5 - v3))]) (st := []) kc_X12_lay (c_X12_lay a0 v1 0 (w32 (v5 - v3)) S6 h0 hv1 (jZ_R jz0) (w32_R _)) rfl lm_X12_79 ki_X12_lay ke_X12_lay rfl (Nat.le_of_ble_eq_true rfl) (Nat.le_trans (m := 7) (Nat.le_of_ble_eq_true rfl) hd0) dX12_sellNow_31 (fun v7 S8 _ => ?_)
    refine j_aload_n 2 dX12_sellNow_34 rfl rfl ?_
    refine j_getr (ci := 12) (k := 0) rfl in_X12 (Nat.le_of_ble_eq_true rfl) rfl rfl fl_X12_7 dX12_sellNow_35 (fun (v9 : Int) (hv9 : 0 ≤ v9) => ?_)
    refine j_bipush dX12_sellNow_38 (by decide) ?_
    refine j_aload_n 2 dX12_sellNow_40 rfl rfl ?_
    refine j_getr (ci := 12) (k := 0) rfl in_X12 (Nat.le_of_ble_eq_true rfl) rfl rfl fl_X12_7 dX12_sellNow_41 (fun (v10 : Int) (hv10 : 0 ≤ v10) => ?_)
    refine j_bipush dX12_sellNow_44 (by decide) ?_
    refine j_iaload (j_r32 8 rfl) dX12_sellNow_46 (fun (v11 : Int) (hv11 : R32 (v11)) => ?_)
    refine j_iload_n 0 dX12_sellNow_47 rfl rfl ?_
    refine j_iadd dX12_sellNow_48 ?_
    refine j_i2l (w32_R _) dX12_sellNow_49 ?_
    refine j_iconst dX12_sellNow_50 ?_
    refine j_ldc cn_X12_111 dX12_sellNow_51 ?_
    refine j_callS (As := [(1, w32 (v11 + v3)), (0, 0), (0, 99999)]) (st := [(0, 8), (2, v9)]) kc_X12_held (c_X12_held (w32 (v11 + v3)) 0 99999 S8 (R32_R64 (w32_R _)) (jZ_R jz0) (j_r32 99999 rfl)) lm_X12_292 ks_X12_held rfl (Nat.le_of_ble_eq_true rfl) (Nat.le_trans (m := 7) (Nat.le_of_ble_eq_true rfl) hd0) dX12_sellNow_53 (fun (v12 : Int) (S13 : jSt) (hv12 : R32 (v12)) => ?_)
    refine j_iastore (j_r32 8 rfl) hv12 dX12_sellNow_56 (fun S14 => ?_)
    refine j_aload_n 2 dX12_sellNow_57 rfl rfl ?_
    refine j_iload_n 3 dX12_sellNow_58 rfl rfl ?_
    refine j_iconst dX12_sellNow_59 ?_
    refine j_iconst dX12_sellNow_60 ?_
    refine j_iload_n 1 dX12_sellNow_61 rfl rfl ?_
    refine j_iadd dX12_sellNow_62 ?_
    refine j_callV (ci := 12) (As := [(0, a1), (0, 1), (0, w32 (3 + v1))]) (st := []) kc_X12_put (c_X12_put a0 a1 1 (w32 (3 + v1)) S14 h0 h1 (jZ_R jz1) (w32_R _)) rfl lm_X12_75 ki_X12_put ke_X12_put rfl (Nat.le_of_ble_eq_true rfl) (Nat.le_trans (m := 7) (Nat.le_of_ble_eq_true rfl) hd0) dX12_sellNow_63 (fun v15 S16 _ => ?_)
    refine j_aload_n 2 dX12_sellNow_66 rfl rfl ?_
    refine j_dup dX12_sellNow_67 (fun h => nomatch h) ?_
    refine j_get (ci := 12) (k := 24) (t := 0) rfl in_X12 (Nat.le_of_ble_eq_true rfl) rfl rfl fl_X12_331 dX12_sellNow_68 (fun (v17 : Int) (hv17 : R32 (v17)) => ?_)
    refine j_iconst dX12_sellNow_71 ?_
    refine j_iadd dX12_sellNow_72 ?_
    refine j_puti (ci := 12) (k := 24) (ty0 := tyX12) rfl in_X12 (Nat.le_of_ble_eq_true rfl) rfl tyX12_ok nmX12 rfl rfl (by decide +kernel) (w32_R _) fl_X12_331 dX12_sellNow_73 (fun S18 => ?_)
    refine j_aload_n 2 dX12_sellNow_76 rfl rfl ?_
    refine j_iload_n 3 dX12_sellNow_77 rfl rfl ?_
    refine j_iload_n 1 dX12_sellNow_78 rfl rfl ?_
    refine j_iload_n 0 dX12_sellNow_79 rfl rfl ?_
    refine j_callV (ci := 12) (As := [(0, a1), (0, v1), (0, v3)]) (st := []) kc_X12_write (c_X12_write a0 a1 v1 v3 S18 h0 h1 hv1 hv3) rfl lm_X12_334 ki_X12_write ke_X12_write rfl (Nat.le_of_ble_eq_true rfl) (Nat.le_trans (m := 7) (Nat.le_of_ble_eq_true rfl) hd0) dX12_sellNow_80 (fun v19 S20 _ => ?_)
    refine j_iload_n 0 dX12_sellNow_83 rfl rfl ?_
    exact j_ireturn hv3 dX12_sellNow_84
  · refine j_iconst dX12_sellNow_11 ?_
    exact j_ireturn (j_r32 (-1) rfl) dX12_sellNow_12
theorem c_X12_sellNow {G : jG} (a0 : Int) (a1 : Int) (S : jSt) (h0 : 0 ≤ (a0)) (h1 : R32 (a1)) : CT G yX12_sellNow cX12_sellNow 4 (some .int) 7 ([(2, a0), (0, a1)].map jval) S (f_X12_sellNow a0 a1 S) := ct_of [(2, a0), (0, a1)] (by decide) rfl (Nat.le_of_ble_eq_true rfl) (e_X12_sellNow (Nat.le_refl _) a0 a1 S h0 h1)
-- X12_warmsOf
def f_X12_warmsOf (a0 : Int) (a1 : Int) (a2 : Int) (S : jSt) : Option (Int × jSt) :=
  fcallv S a0 12 (f_X12_name a0 a2 S) (fun v1 S2 => fcallv S2 a0 12 (f_X12_says a0 a1 2 3 10 S2) (fun v3 S4 => some (v3, S4)))
theorem e_X12_warmsOf {G : jG} {d : Nat} {S0 : jSt} (hd0 : 5 ≤ d) (a0 : Int) (a1 : Int) (a2 : Int) (S : jSt) (h0 : 0 ≤ (a0)) (h1 : R32 (a1)) (h2 : R32 (a2)) : J G yX12_warmsOf cX12_warmsOf 3 (some .int) d S0 0 [(0, 2, a0), (1, 0, a1), (2, 0, a2)] [] S (f_X12_warmsOf a0 a1 a2 S) := by
  unfold f_X12_warmsOf
  refine j_aload_n 0 dX12_warmsOf_0 rfl rfl ?_
  refine j_iload_n 2 dX12_warmsOf_1 rfl rfl ?_
  refine j_callV (ci := 12) (As := [(0, a2)]) (st := []) kc_X12_name (c_X12_name a0 a2 S h0 h2) rfl lm_X12_296 ki_X12_name ke_X12_name rfl (Nat.le_of_ble_eq_true rfl) (Nat.le_trans (m := 5) (Nat.le_of_ble_eq_true rfl) hd0) dX12_warmsOf_2 (fun v1 S2 _ => ?_)
  refine j_aload_n 0 dX12_warmsOf_5 rfl rfl ?_
  refine j_iload_n 1 dX12_warmsOf_6 rfl rfl ?_
  refine j_iconst dX12_warmsOf_7 ?_
  refine j_iconst dX12_warmsOf_8 ?_
  refine j_bipush dX12_warmsOf_9 (by decide) ?_
  refine j_callV (ci := 12) (As := [(0, a1), (0, 2), (0, 3), (0, 10)]) (st := []) kc_X12_says (c_X12_says a0 a1 2 3 10 S2 h0 h1 (j_r32 2 rfl) (j_r32 3 rfl) (j_r32 10 rfl)) rfl lm_X12_309 ki_X12_says ke_X12_says rfl (Nat.le_of_ble_eq_true rfl) (Nat.le_trans (m := 5) (Nat.le_of_ble_eq_true rfl) hd0) dX12_warmsOf_11 (fun (v3 : Int) (S4 : jSt) (hv3 : R32 (v3)) => ?_)
  exact j_ireturn hv3 dX12_warmsOf_14
theorem c_X12_warmsOf {G : jG} (a0 : Int) (a1 : Int) (a2 : Int) (S : jSt) (h0 : 0 ≤ (a0)) (h1 : R32 (a1)) (h2 : R32 (a2)) : CT G yX12_warmsOf cX12_warmsOf 3 (some .int) 5 ([(2, a0), (0, a1), (0, a2)].map jval) S (f_X12_warmsOf a0 a1 a2 S) := ct_of [(2, a0), (0, a1), (0, a2)] (by decide) rfl (Nat.le_of_ble_eq_true rfl) (e_X12_warmsOf (Nat.le_refl _) a0 a1 a2 S h0 h1 h2)
-- X12_offer
def f_X12_offer_b74 (x0 : Int) (x1 : Int) (S : jSt) : Option (Int × jSt) :=
  fcallv S x0 12 (f_X12_sellNow x0 x1 S) (fun v15 S16 => some (0, S16))
theorem p_f_X12_offer_b74 {G : jG} {d : Nat} {S0 : jSt} (hd0 : 8 ≤ d) : ∀ (x0 : Int) (x1 : Int) (S : jSt), (0 ≤ (x0)) → (R32 (x1)) → J G yX12_offer cX12_offer 4 none d S0 74 [(0, 2, x0), (1, 0, x1)] [] S (f_X12_offer_b74  x0 x1 S) := by
  intro x0 x1 S h0 h1
  unfold f_X12_offer_b74
  refine j_aload_n 0 dX12_offer_74 rfl rfl ?_
  refine j_iload_n 1 dX12_offer_75 rfl rfl ?_
  refine j_callV (ci := 12) (As := [(0, x1)]) (st := []) kc_X12_sellNow (c_X12_sellNow x0 x1 S h0 h1) rfl lm_X12_346 ki_X12_sellNow ke_X12_sellNow rfl (Nat.le_of_ble_eq_true rfl) (Nat.le_trans (m := 8) (Nat.le_of_ble_eq_true rfl) hd0) dX12_offer_76 (fun (v15 : Int) (S16 : jSt) (hv15 : R32 (v15)) => ?_)
  refine j_pop dX12_offer_79 (fun h => nomatch h) ?_
  exact j_return dX12_offer_80
def f_X12_offer (a0 : Int) (a1 : Int) (S : jSt) : Option (Int × jSt) :=
  fgetr S a0 12 0 (fun v1 => fald S v1 1 1 (fun v2 => if v2 = 0 then some (0, S) else fgetr S a0 12 0 (fun v3 => fald S v3 9 1 (fun v4 => if 10 = 0 then none else flet (irem32 v4 10) (fun v5 => fcallv S a0 12 (f_X12_anew a0 S) (fun v6 S7 => fgetr S7 a0 12 0 (fun v8 => fald S7 v8 1 1 (fun v9 => if v9 = 0 then none else flet (irem32 v5 v9) (fun v10 => fgetr S7 a0 12 0 (fun v11 => fald S7 v11 3 1 (fun v12 => fcallv S7 a0 12 (f_X12_warmsOf a0 v12 a1 S7) (fun v13 S14 => if v13 ≤ v5 then f_X12_offer_b74 a0 a1 S14 else fcallv S14 a0 12 (f_X12_own a0 v10 (w32 (1 + a1)) S14) (fun v17 S18 => fcall (f_X12_held (w32 (v17 + 5)) 0 99 S18) (fun v19 S20 => fcallv S20 a0 12 (f_X12_lay a0 v10 (w32 (1 + a1)) v19 S20) (fun v21 S22 => f_X12_offer_b74 a0 a1 S22)))))))))))))))
theorem e_X12_offer {G : jG} {d : Nat} {S0 : jSt} (hd0 : 8 ≤ d) (a0 : Int) (a1 : Int) (S : jSt) (h0 : 0 ≤ (a0)) (h1 : R32 (a1)) : J G yX12_offer cX12_offer 4 none d S0 0 [(0, 2, a0), (1, 0, a1)] [] S (f_X12_offer a0 a1 S) := by
  unfold f_X12_offer
  refine j_aload_n 0 dX12_offer_0 rfl rfl ?_
  refine j_getr (ci := 12) (k := 0) rfl in_X12 (Nat.le_of_ble_eq_true rfl) rfl rfl fl_X12_7 dX12_offer_1 (fun (v1 : Int) (hv1 : 0 ≤ v1) => ?_)
  refine j_iconst dX12_offer_4 ?_
  refine j_iaload (jZ_R jz1) dX12_offer_5 (fun (v2 : Int) (hv2 : R32 (v2)) => ?_)
  refine j_if_ne (tgt := 10) hv2 dX12_offer_6 rfl (fun _ => ?_) (fun _ => ?_)
  · refine j_aload_n 0 dX12_offer_10 rfl rfl ?_
    refine j_getr (ci := 12) (k := 0) rfl in_X12 (Nat.le_of_ble_eq_true rfl) rfl rfl fl_X12_7 dX12_offer_11 (fun (v3 : Int) (hv3 : 0 ≤ v3) => ?_)
    refine j_bipush dX12_offer_14 (by decide) ?_
    refine j_iaload (j_r32 9 rfl) dX12_offer_16 (fun (v4 : Int) (hv4 : R32 (v4)) => ?_)
    refine j_bipush dX12_offer_17 (by decide) ?_
    refine j_irem (j_r32 10 rfl) dX12_offer_19 ?_
    refine j_leti (irem32_R _ _) (fun v5 hv5 => ?_)
    refine j_istore_n (lv' := [(2, 0, v5), (0, 2, a0), (1, 0, a1)]) dX12_offer_20 rfl (Nat.le_of_ble_eq_true rfl) rfl ?_
    refine j_aload_n 1 dX12_offer_21 rfl rfl ?_
    refine j_callV (ci := 12) (As := []) (st := []) kc_X12_anew (c_X12_anew a0 S h0) rfl lm_X12_340 ki_X12_anew ke_X12_anew rfl (Nat.le_of_ble_eq_true rfl) (Nat.le_trans (m := 8) (Nat.le_of_ble_eq_true rfl) hd0) dX12_offer_22 (fun v6 S7 _ => ?_)
    refine j_iload_n 0 dX12_offer_25 rfl rfl ?_
    refine j_aload_n 1 dX12_offer_26 rfl rfl ?_
    refine j_getr (ci := 12) (k := 0) rfl in_X12 (Nat.le_of_ble_eq_true rfl) rfl rfl fl_X12_7 dX12_offer_27 (fun (v8 : Int) (hv8 : 0 ≤ v8) => ?_)
    refine j_iconst dX12_offer_30 ?_
    refine j_iaload (jZ_R jz1) dX12_offer_31 (fun (v9 : Int) (hv9 : R32 (v9)) => ?_)
    refine j_irem hv9 dX12_offer_32 ?_
    refine j_leti (irem32_R _ _) (fun v10 hv10 => ?_)
    refine j_istore_n (lv' := [(3, 0, v10), (2, 0, v5), (0, 2, a0), (1, 0, a1)]) dX12_offer_33 rfl (Nat.le_of_ble_eq_true rfl) rfl ?_
    refine j_iload_n 1 dX12_offer_34 rfl rfl ?_
    refine j_aload_n 2 dX12_offer_35 rfl rfl ?_
    refine j_aload_n 2 dX12_offer_36 rfl rfl ?_
    refine j_getr (ci := 12) (k := 0) rfl in_X12 (Nat.le_of_ble_eq_true rfl) rfl rfl fl_X12_7 dX12_offer_37 (fun (v11 : Int) (hv11 : 0 ≤ v11) => ?_)
    refine j_iconst dX12_offer_40 ?_
    refine j_iaload (j_r32 3 rfl) dX12_offer_41 (fun (v12 : Int) (hv12 : R32 (v12)) => ?_)
    refine j_iload_n 3 dX12_offer_42 rfl rfl ?_
    refine j_callV (ci := 12) (As := [(0, v12), (0, a1)]) (st := [(0, v5)]) kc_X12_warmsOf (c_X12_warmsOf a0 v12 a1 S7 h0 hv12 h1) rfl lm_X12_343 ki_X12_warmsOf ke_X12_warmsOf rfl (Nat.le_of_ble_eq_true rfl) (Nat.le_trans (m := 8) (Nat.le_of_ble_eq_true rfl) hd0) dX12_offer_43 (fun (v13 : Int) (S14 : jSt) (hv13 : R32 (v13)) => ?_)
    refine j_icmp_ge (tgt := 74) hv5 hv13 dX12_offer_46 rfl (fun _ => ?_) (fun _ => ?_)
    · refine j_sub [2, 3] rfl ?_
      exact p_f_X12_offer_b74 hd0 a0 a1 S14 h0 h1
    · refine j_aload_n 2 dX12_offer_49 rfl rfl ?_
      refine j_iload_n 0 dX12_offer_50 rfl rfl ?_
      refine j_iconst dX12_offer_51 ?_
      refine j_iload_n 3 dX12_offer_52 rfl rfl ?_
      refine j_iadd dX12_offer_53 ?_
      refine j_aload_n 2 dX12_offer_54 rfl rfl ?_
      refine j_iload_n 0 dX12_offer_55 rfl rfl ?_
      refine j_iconst dX12_offer_56 ?_
      refine j_iload_n 3 dX12_offer_57 rfl rfl ?_
      refine j_iadd dX12_offer_58 ?_
      refine j_callV (ci := 12) (As := [(0, v10), (0, w32 (1 + a1))]) (st := [(0, w32 (1 + a1)), (0, v10), (2, a0)]) kc_X12_own (c_X12_own a0 v10 (w32 (1 + a1)) S14 h0 hv10 (w32_R _)) rfl lm_X12_299 ki_X12_own ke_X12_own rfl (Nat.le_of_ble_eq_true rfl) (Nat.le_trans (m := 8) (Nat.le_of_ble_eq_true rfl) hd0) dX12_offer_59 (fun (v17 : Int) (S18 : jSt) (hv17 : R32 (v17)) => ?_)
      refine j_iconst dX12_offer_62 ?_
      refine j_iadd dX12_offer_63 ?_
      refine j_i2l (w32_R _) dX12_offer_64 ?_
      refine j_iconst dX12_offer_65 ?_
      refine j_bipush dX12_offer_66 (by decide) ?_
      refine j_callS (As := [(1, w32 (v17 + 5)), (0, 0), (0, 99)]) (st := [(0, w32 (1 + a1)), (0, v10), (2, a0)]) kc_X12_held (c_X12_held (w32 (v17 + 5)) 0 99 S18 (R32_R64 (w32_R _)) (jZ_R jz0) (j_r32 99 rfl)) lm_X12_292 ks_X12_held rfl (Nat.le_of_ble_eq_true rfl) (Nat.le_trans (m := 8) (Nat.le_of_ble_eq_true rfl) hd0) dX12_offer_68 (fun (v19 : Int) (S20 : jSt) (hv19 : R32 (v19)) => ?_)
      refine j_callV (ci := 12) (As := [(0, v10), (0, w32 (1 + a1)), (0, v19)]) (st := []) kc_X12_lay (c_X12_lay a0 v10 (w32 (1 + a1)) v19 S20 h0 hv10 (w32_R _) hv19) rfl lm_X12_79 ki_X12_lay ke_X12_lay rfl (Nat.le_of_ble_eq_true rfl) (Nat.le_trans (m := 8) (Nat.le_of_ble_eq_true rfl) hd0) dX12_offer_71 (fun v21 S22 _ => ?_)
      refine j_sub [2, 3] rfl ?_
      exact p_f_X12_offer_b74 hd0 a0 a1 S22 h0 h1
  · exact j_return dX12_offer_9
theorem c_X12_offer {G : jG} (a0 : Int) (a1 : Int) (S : jSt) (h0 : 0 ≤ (a0)) (h1 : R32 (a1)) : CT G yX12_offer cX12_offer 4 none 8 ([(2, a0), (0, a1)].map jval) S (f_X12_offer a0 a1 S) := ct_of [(2, a0), (0, a1)] (by decide) rfl (Nat.le_of_ble_eq_true rfl) (e_X12_offer (Nat.le_refl _) a0 a1 S h0 h1)
-- X12_saleFloor
def f_X12_saleFloor_b22 (x0 : Int) (S : jSt) : Option (Int × jSt) :=
  some (x0, S)
theorem p_f_X12_saleFloor_b22 {G : jG} {d : Nat} {S0 : jSt} (hd0 : 1 ≤ d) : ∀ (x0 : Int) (S : jSt), (R32 (x0)) → J G yX12_saleFloor cX12_saleFloor 1 (some .int) d S0 22 [] [(0, x0)] S (f_X12_saleFloor_b22  x0 S) := by
  intro x0 S h0
  unfold f_X12_saleFloor_b22
  exact j_ireturn h0 dX12_saleFloor_22
def f_X12_saleFloor (a0 : Int) (S : jSt) : Option (Int × jSt) :=
  fgetr S a0 12 0 (fun v1 => fald S v1 7 1 (fun v2 => if 5 ≤ v2 then f_X12_saleFloor_b22 5 S else fgetr S a0 12 0 (fun v3 => fald S v3 7 1 (fun v4 => f_X12_saleFloor_b22 v4 S))))
theorem e_X12_saleFloor {G : jG} {d : Nat} {S0 : jSt} (hd0 : 1 ≤ d) (a0 : Int) (S : jSt) (h0 : 0 ≤ (a0)) : J G yX12_saleFloor cX12_saleFloor 1 (some .int) d S0 0 [(0, 2, a0)] [] S (f_X12_saleFloor a0 S) := by
  unfold f_X12_saleFloor
  refine j_aload_n 0 dX12_saleFloor_0 rfl rfl ?_
  refine j_getr (ci := 12) (k := 0) rfl in_X12 (Nat.le_of_ble_eq_true rfl) rfl rfl fl_X12_7 dX12_saleFloor_1 (fun (v1 : Int) (hv1 : 0 ≤ v1) => ?_)
  refine j_bipush dX12_saleFloor_4 (by decide) ?_
  refine j_iaload (j_r32 7 rfl) dX12_saleFloor_6 (fun (v2 : Int) (hv2 : R32 (v2)) => ?_)
  refine j_iconst dX12_saleFloor_7 ?_
  refine j_icmp_ge (tgt := 21) hv2 (j_r32 5 rfl) dX12_saleFloor_8 rfl (fun _ => ?_) (fun _ => ?_)
  · refine j_iconst dX12_saleFloor_21 ?_
    refine j_sub [] rfl ?_
    exact p_f_X12_saleFloor_b22 hd0 5 S (j_r32 5 rfl)
  · refine j_aload_n 0 dX12_saleFloor_11 rfl rfl ?_
    refine j_getr (ci := 12) (k := 0) rfl in_X12 (Nat.le_of_ble_eq_true rfl) rfl rfl fl_X12_7 dX12_saleFloor_12 (fun (v3 : Int) (hv3 : 0 ≤ v3) => ?_)
    refine j_bipush dX12_saleFloor_15 (by decide) ?_
    refine j_iaload (j_r32 7 rfl) dX12_saleFloor_17 (fun (v4 : Int) (hv4 : R32 (v4)) => ?_)
    refine j_goto (tgt := 22) dX12_saleFloor_18 rfl ?_
    refine j_sub [] rfl ?_
    exact p_f_X12_saleFloor_b22 hd0 v4 S hv4
theorem c_X12_saleFloor {G : jG} (a0 : Int) (S : jSt) (h0 : 0 ≤ (a0)) : CT G yX12_saleFloor cX12_saleFloor 1 (some .int) 1 ([(2, a0)].map jval) S (f_X12_saleFloor a0 S) := ct_of [(2, a0)] (by decide) rfl (Nat.le_of_ble_eq_true rfl) (e_X12_saleFloor (Nat.le_refl _) a0 S h0)
-- X12_pass
def f_X12_pass_b40 (r7 : Int → Int → Int → jSt → Option (Int × jSt)) (x0 : Int) (x1 : Int) (x2 : Int) (S : jSt) : Option (Int × jSt) :=
  flet (w32 (x2 + 1)) (fun v10 => r7 x0 x1 v10 S)
theorem p_f_X12_pass_b40 {G : jG} {d : Nat} {S0 : jSt} (hd0 : 9 ≤ d) {r7 : Int → Int → Int → jSt → Option (Int × jSt)} (k7 : ∀ (x0 : Int) (x1 : Int) (x2 : Int) (S : jSt), (0 ≤ (x0)) → (R32 (x1)) → (R32 (x2)) → J G yX12_pass cX12_pass 3 none d S0 7 [(0, 2, x0), (1, 0, x1), (2, 0, x2)] [] S (r7 x0 x1 x2 S)) : ∀ (x0 : Int) (x1 : Int) (x2 : Int) (S : jSt), (0 ≤ (x0)) → (R32 (x1)) → (R32 (x2)) → J G yX12_pass cX12_pass 3 none d S0 40 [(0, 2, x0), (1, 0, x1), (2, 0, x2)] [] S (f_X12_pass_b40 r7 x0 x1 x2 S) := by
  intro x0 x1 x2 S h0 h1 h2
  unfold f_X12_pass_b40
  refine j_iincL (q := 2) dX12_pass_40 rfl (Nat.le_of_ble_eq_true rfl) (fun v10 hv10 => ?_)
  refine j_lv (lv' := [(2, 0, v10), (0, 2, x0), (1, 0, x1)]) rfl ?_
  refine j_goto (tgt := 7) dX12_pass_43 rfl ?_
  refine j_sub [1, 2, 0] rfl ?_
  exact k7 x0 x1 v10 S h0 h1 hv10
def f_X12_pass_b7B (r7 : Int → Int → Int → jSt → Option (Int × jSt)) (x0 : Int) (x1 : Int) (x2 : Int) (S : jSt) : Option (Int × jSt) :=
  fgetr S x0 12 0 (fun v3 => fald S v3 0 1 (fun v4 => if v4 ≤ x2 then fgetr S x0 12 0 (fun v5 => fald S v5 7 1 (fun v6 => fast S v5 7 1 (w32 (v6 + 1)) (fun S7 => some (0, S7)))) else fcallv S x0 12 (f_X12_isInHouse x0 x2 S) (fun v8 S9 => if v8 = 0 then f_X12_pass_b40 r7 x0 x1 x2 S9 else fcallv S9 x0 12 (f_X12_get x0 x2 0 S9) (fun v11 S12 => if v11 = x1 then fcallv S12 x0 12 (f_X12_offer x0 x2 S12) (fun v13 S14 => f_X12_pass_b40 r7 x0 x1 x2 S14) else f_X12_pass_b40 r7 x0 x1 x2 S12))))
theorem p_f_X12_pass_b7B {G : jG} {d : Nat} {S0 : jSt} (hd0 : 9 ≤ d) {r7 : Int → Int → Int → jSt → Option (Int × jSt)} (k7 : ∀ (x0 : Int) (x1 : Int) (x2 : Int) (S : jSt), (0 ≤ (x0)) → (R32 (x1)) → (R32 (x2)) → J G yX12_pass cX12_pass 3 none d S0 7 [(0, 2, x0), (1, 0, x1), (2, 0, x2)] [] S (r7 x0 x1 x2 S)) : ∀ (x0 : Int) (x1 : Int) (x2 : Int) (S : jSt), (0 ≤ (x0)) → (R32 (x1)) → (R32 (x2)) → J G yX12_pass cX12_pass 3 none d S0 7 [(0, 2, x0), (1, 0, x1), (2, 0, x2)] [] S (f_X12_pass_b7B r7 x0 x1 x2 S) := by
  intro x0 x1 x2 S h0 h1 h2
  unfold f_X12_pass_b7B
  refine j_iload_n 2 dX12_pass_7 rfl rfl ?_
  refine j_aload_n 0 dX12_pass_8 rfl rfl ?_
  refine j_getr (ci := 12) (k := 0) rfl in_X12 (Nat.le_of_ble_eq_true rfl) rfl rfl fl_X12_7 dX12_pass_9 (fun (v3 : Int) (hv3 : 0 ≤ v3) => ?_)
  refine j_iconst dX12_pass_12 ?_
  refine j_iaload (jZ_R jz0) dX12_pass_13 (fun (v4 : Int) (hv4 : R32 (v4)) => ?_)
  refine j_icmp_ge (tgt := 46) h2 hv4 dX12_pass_14 rfl (fun _ => ?_) (fun _ => ?_)
  · refine j_aload_n 0 dX12_pass_46 rfl rfl ?_
    refine j_getr (ci := 12) (k := 0) rfl in_X12 (Nat.le_of_ble_eq_true rfl) rfl rfl fl_X12_7 dX12_pass_47 (fun (v5 : Int) (hv5 : 0 ≤ v5) => ?_)
    refine j_bipush dX12_pass_50 (by decide) ?_
    refine j_dup2 dX12_pass_52 (fun h => nomatch h) (fun h => nomatch h) ?_
    refine j_iaload (j_r32 7 rfl) dX12_pass_53 (fun (v6 : Int) (hv6 : R32 (v6)) => ?_)
    refine j_iconst dX12_pass_54 ?_
    refine j_iadd dX12_pass_55 ?_
    refine j_iastore (j_r32 7 rfl) (w32_R _) dX12_pass_56 (fun S7 => ?_)
    exact j_return dX12_pass_57
  · refine j_aload_n 0 dX12_pass_17 rfl rfl ?_
    refine j_iload_n 2 dX12_pass_18 rfl rfl ?_
    refine j_callV (ci := 12) (As := [(0, x2)]) (st := []) kc_X12_isInHouse (c_X12_isInHouse x0 x2 S h0 h2) rfl lm_X12_337 ki_X12_isInHouse ke_X12_isInHouse rfl (Nat.le_of_ble_eq_true rfl) (Nat.le_trans (m := 9) (Nat.le_of_ble_eq_true rfl) hd0) dX12_pass_19 (fun (v8 : Int) (S9 : jSt) (hv8 : (v8) = 0 ∨ (v8) = 1) => ?_)
    refine j_if_eq (tgt := 40) (jZ_R hv8) dX12_pass_22 rfl (fun _ => ?_) (fun _ => ?_)
    · exact p_f_X12_pass_b40 hd0 k7 x0 x1 x2 S9 h0 h1 h2
    · refine j_aload_n 0 dX12_pass_25 rfl rfl ?_
      refine j_iload_n 2 dX12_pass_26 rfl rfl ?_
      refine j_iconst dX12_pass_27 ?_
      refine j_callV (ci := 12) (As := [(0, x2), (0, 0)]) (st := []) kc_X12_get (c_X12_get x0 x2 0 S9 h0 h2 (jZ_R jz0)) rfl lm_X12_68 ki_X12_get ke_X12_get rfl (Nat.le_of_ble_eq_true rfl) (Nat.le_trans (m := 9) (Nat.le_of_ble_eq_true rfl) hd0) dX12_pass_28 (fun (v11 : Int) (S12 : jSt) (hv11 : R32 (v11)) => ?_)
      refine j_iload_n 1 dX12_pass_31 rfl rfl ?_
      refine j_icmp_ne (tgt := 40) hv11 h1 dX12_pass_32 rfl (fun _ => ?_) (fun _ => ?_)
      · exact p_f_X12_pass_b40 hd0 k7 x0 x1 x2 S12 h0 h1 h2
      · refine j_aload_n 0 dX12_pass_35 rfl rfl ?_
        refine j_iload_n 2 dX12_pass_36 rfl rfl ?_
        refine j_callV (ci := 12) (As := [(0, x2)]) (st := []) kc_X12_offer (c_X12_offer x0 x2 S12 h0 h2) rfl lm_X12_352 ki_X12_offer ke_X12_offer rfl (Nat.le_of_ble_eq_true rfl) (Nat.le_trans (m := 9) (Nat.le_of_ble_eq_true rfl) hd0) dX12_pass_37 (fun v13 S14 _ => ?_)
        exact p_f_X12_pass_b40 hd0 k7 x0 x1 x2 S14 h0 h1 h2
def f_X12_pass_b7 : Int → Int → Int → jSt → Option (Int × jSt) := jrep (β := Int → Int → Int → jSt → Option (Int × jSt)) (fun _ _ _ _ => none) (fun r => f_X12_pass_b7B r) jN
theorem p_f_X12_pass_b7 {G : jG} {d : Nat} {S0 : jSt} (hd0 : 9 ≤ d) : ∀ (x0 : Int) (x1 : Int) (x2 : Int) (S : jSt), (0 ≤ (x0)) → (R32 (x1)) → (R32 (x2)) → J G yX12_pass cX12_pass 3 none d S0 7 [(0, 2, x0), (1, 0, x1), (2, 0, x2)] [] S (f_X12_pass_b7  x0 x1 x2 S) :=
  jrep_ind (P := fun (r : Int → Int → Int → jSt → Option (Int × jSt)) => ∀ (x0 : Int) (x1 : Int) (x2 : Int) (S : jSt), (0 ≤ (x0)) → (R32 (x1)) → (R32 (x2)) → J G yX12_pass cX12_pass 3 none d S0 7 [(0, 2, x0), (1, 0, x1), (2, 0, x2)] [] S (r x0 x1 x2 S)) (by intros; exact j_none) (fun r k => p_f_X12_pass_b7B hd0 k) jN
def f_X12_pass (a0 : Int) (S : jSt) : Option (Int × jSt) :=
  fcallv S a0 12 (f_X12_saleFloor a0 S) (fun v1 S2 => f_X12_pass_b7 a0 v1 0 S2)
theorem e_X12_pass {G : jG} {d : Nat} {S0 : jSt} (hd0 : 9 ≤ d) (a0 : Int) (S : jSt) (h0 : 0 ≤ (a0)) : J G yX12_pass cX12_pass 3 none d S0 0 [(0, 2, a0)] [] S (f_X12_pass a0 S) := by
  unfold f_X12_pass
  refine j_aload_n 0 dX12_pass_0 rfl rfl ?_
  refine j_callV (ci := 12) (As := []) (st := []) kc_X12_saleFloor (c_X12_saleFloor a0 S h0) rfl lm_X12_349 ki_X12_saleFloor ke_X12_saleFloor rfl (Nat.le_of_ble_eq_true rfl) (Nat.le_trans (m := 9) (Nat.le_of_ble_eq_true rfl) hd0) dX12_pass_1 (fun (v1 : Int) (S2 : jSt) (hv1 : R32 (v1)) => ?_)
  refine j_istore_n (lv' := [(1, 0, v1), (0, 2, a0)]) dX12_pass_4 rfl (Nat.le_of_ble_eq_true rfl) rfl ?_
  refine j_iconst dX12_pass_5 ?_
  refine j_istore_n (lv' := [(2, 0, 0), (1, 0, v1), (0, 2, a0)]) dX12_pass_6 rfl (Nat.le_of_ble_eq_true rfl) rfl ?_
  refine j_sub [2, 1, 0] rfl ?_
  exact p_f_X12_pass_b7 hd0 a0 v1 0 S2 h0 hv1 (jZ_R jz0)
theorem c_X12_pass {G : jG} (a0 : Int) (S : jSt) (h0 : 0 ≤ (a0)) : CT G yX12_pass cX12_pass 3 none 9 ([(2, a0)].map jval) S (f_X12_pass a0 S) := ct_of [(2, a0)] (by decide) rfl (Nat.le_of_ble_eq_true rfl) (e_X12_pass (Nat.le_refl _) a0 S h0)
