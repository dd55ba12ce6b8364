def f_J0_coder_7d493 (S : jSt) : Option (Int × jSt) := some (0, S)
def f_J0_isLatin1_aae02 (S : jSt) : Option (Int × jSt) := some (1, S)
def f_J0_length_8abf5 (S : jSt) : Option (Int × jSt) := some (143, S)
def f_J3_checkIndex_8e157 (a0 a1 : Int) (S : jSt) : Option (Int × jSt) := if 0 ≤ a0 ∧ a0 < a1 then some (a0, S) else none
def f_J0_checkIndex_df160 (a0 a1 : Int) (S : jSt) : Option (Int × jSt) := if 0 ≤ a0 ∧ a0 < a1 then some (0, S) else none
def f_J1_charAt_3b067 (a1 : Int) (S : jSt) : Option (Int × jSt) := if 0 ≤ a1 ∧ a1 < 143 then some (jch a1, S) else none
def f_J0_charAt_5068e (a1 : Int) (S : jSt) : Option (Int × jSt) := if 0 ≤ a1 ∧ a1 < 143 then some (jch a1, S) else none
theorem c_J0_coder_7d493 {G : jG} (a0 : Int) (S : jSt) (h0 : a0 = ((G.2.2.2.2.2.1 : Nat) : Int)) : CT G yJ0_coder_7d493 cJ0_coder_7d493 1 (some .byte) 1 ([(2, a0)].map jval) S (f_J0_coder_7d493 S) := by
  refine ct_of [(2, a0)] (by decide) rfl (Nat.le_of_ble_eq_true rfl) ?_
  refine j_gets fl_J0_38 dJ0_coder_7d493_0 ?_
  refine j_eqF (tgt := 13) (jZ_R jz1) (by decide) dJ0_coder_7d493_3 rfl ?_
  refine j_aload_n 0 dJ0_coder_7d493_6 rfl rfl ?_
  refine j_getC h0 fl_J0_15 dJ0_coder_7d493_7 ?_
  refine j_goto (tgt := 14) dJ0_coder_7d493_10 rfl ?_
  exact j_rt (rT := some .byte) (r := 0) R32_0 (fun ok hq hf => W.zret (ty := .byte) ok.1 ok.2.1 ok.2.2.2.2.2.2.2.1 rfl hq hf dJ0_coder_7d493_14 ok.2.2.2.2.2.2.1)
theorem c_J0_isLatin1_aae02 {G : jG} (a0 : Int) (S : jSt) (h0 : a0 = ((G.2.2.2.2.2.1 : Nat) : Int)) : CT G yJ0_isLatin1_aae02 cJ0_isLatin1_aae02 1 (some .boolean) 1 ([(2, a0)].map jval) S (f_J0_isLatin1_aae02 S) := by
  refine ct_of [(2, a0)] (by decide) rfl (Nat.le_of_ble_eq_true rfl) ?_
  refine j_gets fl_J0_38 dJ0_isLatin1_aae02_0 ?_
  refine j_eqF (tgt := 17) (jZ_R jz1) (by decide) dJ0_isLatin1_aae02_3 rfl ?_
  refine j_aload_n 0 dJ0_isLatin1_aae02_6 rfl rfl ?_
  refine j_getC h0 fl_J0_15 dJ0_isLatin1_aae02_7 ?_
  refine j_neF (tgt := 17) R32_0 rfl dJ0_isLatin1_aae02_10 rfl ?_
  refine j_iconst dJ0_isLatin1_aae02_13 ?_
  refine j_goto (tgt := 18) dJ0_isLatin1_aae02_14 rfl ?_
  exact j_zreturn jz1 dJ0_isLatin1_aae02_18
theorem c_J0_length_8abf5 {G : jG} (a0 : Int) (S : jSt) (h0 : a0 = ((G.2.2.2.2.2.1 : Nat) : Int)) : CT G yJ0_length_8abf5 cJ0_length_8abf5 1 (some .int) 5 ([(2, a0)].map jval) S (f_J0_length_8abf5 S) := by
  refine ct_of [(2, a0)] (by decide) rfl (Nat.le_of_ble_eq_true rfl) ?_
  refine j_aload_n 0 dJ0_length_8abf5_0 rfl rfl ?_
  refine j_getV h0 fl_J0_9 dJ0_length_8abf5_1 ?_
  refine j_alenV rfl dJ0_length_8abf5_4 ?_
  refine j_aload_n 0 dJ0_length_8abf5_5 rfl rfl ?_
  have e : f_J0_length_8abf5 S = fcall (f_J0_coder_7d493 S) (fun v S1 => some (ishr32 143 v, S1)) := by
    unfold f_J0_length_8abf5 f_J0_coder_7d493
    show some ((143 : Int), S) = some (ishr32 143 0, S)
    rw [show ishr32 143 0 = 143 by decide]
  rw [e]
  refine j_callVs (As := []) (st := [(0, 143)]) h0 kc_J0_coder_7d493 (c_J0_coder_7d493 a0 S h0) lm_J0_335 ki_J0_coder_7d493 ke_J0_coder_7d493 rfl (Nat.le_of_ble_eq_true rfl) (Nat.le_of_ble_eq_true rfl) dJ0_length_8abf5_6 (fun (v : Int) (S1 : jSt) _ => ?_)
  refine j_ishr dJ0_length_8abf5_9 ?_
  exact j_ireturn (ishr32_R _ _) dJ0_length_8abf5_10
theorem c_J3_checkIndex_8e157 {G : jG} (a0 a1 a2 : Int) (S : jSt) (h0 : R32 a0) (h1 : R32 a1) : CT G yJ3_checkIndex_8e157 cJ3_checkIndex_8e157 3 (some .int) 1 ([(0, a0), (0, a1), (3, a2)].map jval) S (f_J3_checkIndex_8e157 a0 a1 S) := by
  refine ct_of [(0, a0), (0, a1), (3, a2)] (by decide) rfl (Nat.le_of_ble_eq_true rfl) ?_
  unfold f_J3_checkIndex_8e157
  refine j_guard fun hq => ?_
  refine j_iload_n 0 dJ3_checkIndex_8e157_0 rfl rfl ?_
  refine j_ltF (tgt := 9) h0 (by omega) dJ3_checkIndex_8e157_1 rfl ?_
  refine j_iload_n 0 dJ3_checkIndex_8e157_4 rfl rfl ?_
  refine j_iload_n 1 dJ3_checkIndex_8e157_5 rfl rfl ?_
  refine j_icltT (tgt := 16) h0 h1 hq.2 dJ3_checkIndex_8e157_6 rfl ?_
  refine j_iload_n 0 dJ3_checkIndex_8e157_16 rfl rfl ?_
  exact j_ireturn h0 dJ3_checkIndex_8e157_17
theorem c_J0_checkIndex_df160 {G : jG} (a0 a1 : Int) (S : jSt) (h0 : R32 a0) (h1 : R32 a1) : CT G yJ0_checkIndex_df160 cJ0_checkIndex_df160 2 none 2 ([(0, a0), (0, a1)].map jval) S (f_J0_checkIndex_df160 a0 a1 S) := by
  refine ct_of [(0, a0), (0, a1)] (by decide) rfl (Nat.le_of_ble_eq_true rfl) ?_
  refine j_iload_n 0 dJ0_checkIndex_df160_0 rfl rfl ?_
  refine j_iload_n 1 dJ0_checkIndex_df160_1 rfl rfl ?_
  refine j_getsq fl_J0_1053 dJ0_checkIndex_df160_2 (fun z => ?_)
  have e : f_J0_checkIndex_df160 a0 a1 S = fcall (f_J3_checkIndex_8e157 a0 a1 S) (fun _ S1 => some (0, S1)) := by
    unfold f_J0_checkIndex_df160 f_J3_checkIndex_8e157
    split <;> rfl
  rw [e]
  refine j_callS (As := [(0, a0), (0, a1), (3, z)]) (st := []) kc_J3_checkIndex_8e157 (c_J3_checkIndex_8e157 a0 a1 z S h0 h1) lm_J0_1059 ks_J3_checkIndex_8e157 rfl (Nat.le_of_ble_eq_true rfl) (Nat.le_of_ble_eq_true rfl) dJ0_checkIndex_df160_5 (fun (v : Int) (S1 : jSt) _ => ?_)
  refine j_pop dJ0_checkIndex_df160_8 (fun h => nomatch h) ?_
  exact j_return dJ0_checkIndex_df160_9
theorem jch_c (i : Int) : i2c32 (jch i) = jch i := by
  unfold i2c32 jch iand32
  rw [jof_toInt, jof_toInt]
  exact congrArg Int32.toInt (sc_c2 _)
theorem jch_nar (i : Int) : narrow .char (.int (Int32.ofInt (jch i))) = .int (Int32.ofInt (jch i)) := by
  unfold jch iand32
  rw [jof_toInt, jof_toInt]
  exact sc_nar _
theorem c_J1_charAt_3b067 {G : jG} (a0 a1 : Int) (S : jSt) (h0 : a0 = ((G.2.2.2.2.2.2.1 : Nat) : Int)) (h1 : R32 a1) : CT G yJ1_charAt_3b067 cJ1_charAt_3b067 2 (some .char) 3 ([(2, a0), (0, a1)].map jval) S (f_J1_charAt_3b067 a1 S) := by
  refine ct_of [(2, a0), (0, a1)] (by decide) rfl (Nat.le_of_ble_eq_true rfl) ?_
  unfold f_J1_charAt_3b067
  refine j_guard fun hq => ?_
  refine j_iload_n 1 dJ1_charAt_3b067_0 rfl rfl ?_
  refine j_aload_n 0 dJ1_charAt_3b067_1 rfl rfl ?_
  refine j_alenV h0 dJ1_charAt_3b067_2 ?_
  have e : (some (jch a1, S) : Option (Int × jSt)) = fcall (f_J0_checkIndex_df160 a1 143 S) (fun _ S1 => some (jch a1, S1)) := by
    unfold f_J0_checkIndex_df160
    rw [if_pos hq]
    rfl
  rw [e]
  refine j_callS (As := [(0, a1), (0, 143)]) (st := []) kc_J0_checkIndex_df160 (c_J0_checkIndex_df160 a1 143 S h1 (j_r32 143 rfl)) lm_J1_9 ks_J0_checkIndex_df160 rfl (Nat.le_of_ble_eq_true rfl) (Nat.le_of_ble_eq_true rfl) dJ1_charAt_3b067_3 (fun (v : Int) (S1 : jSt) _ => ?_)
  refine j_aload_n 0 dJ1_charAt_3b067_6 rfl rfl ?_
  refine j_iload_n 1 dJ1_charAt_3b067_7 rfl rfl ?_
  refine j_baldV h0 h1 hq.1 hq.2 dJ1_charAt_3b067_8 ?_
  refine j_sipush dJ1_charAt_3b067_9 (by decide) ?_
  refine j_iand dJ1_charAt_3b067_12 ?_
  refine j_i2c dJ1_charAt_3b067_13 ?_
  have e2 := jch_c a1
  unfold jch at e2 ⊢
  rw [e2]
  exact j_rt (rT := some .char) (iand32_R _ _) (fun ok hq hf => W.zret (ty := .char) ok.1 ok.2.1 ok.2.2.2.2.2.2.2.1 (jch_nar a1) hq hf dJ1_charAt_3b067_14 ok.2.2.2.2.2.2.1)
theorem c_J0_charAt_5068e {G : jG} (a0 a1 : Int) (S : jSt) (h0 : a0 = ((G.2.2.2.2.2.1 : Nat) : Int)) (h1 : R32 a1) : CT G yJ0_charAt_5068e cJ0_charAt_5068e 2 (some .char) 5 ([(2, a0), (0, a1)].map jval) S (f_J0_charAt_5068e a1 S) := by
  refine ct_of [(2, a0), (0, a1)] (by decide) rfl (Nat.le_of_ble_eq_true rfl) ?_
  refine j_aload_n 0 dJ0_charAt_5068e_0 rfl rfl ?_
  have e : f_J0_charAt_5068e a1 S = fcall (f_J0_isLatin1_aae02 S) (fun v S1 => if v = 0 then none else fcall (f_J1_charAt_3b067 a1 S1) (fun v S2 => some (v, S2))) := by
    unfold f_J0_charAt_5068e f_J0_isLatin1_aae02 f_J1_charAt_3b067
    show _ = if (1 : Int) = 0 then none else _
    rw [if_neg (show ¬ (1 : Int) = 0 by decide)]
    split <;> rfl
  rw [e]
  refine j_callVs (As := []) (st := []) h0 kc_J0_isLatin1_aae02 (c_J0_isLatin1_aae02 a0 S h0) lm_J0_492 ki_J0_isLatin1_aae02 ke_J0_isLatin1_aae02 rfl (Nat.le_of_ble_eq_true rfl) (Nat.le_of_ble_eq_true rfl) dJ0_charAt_5068e_1 (fun (v : Int) (S1 : jSt) (hv : v = 0 ∨ v = 1) => ?_)
  refine j_if_eq (tgt := 16) (jZ_R hv) dJ0_charAt_5068e_4 rfl (fun _ => j_none) (fun _ => ?_)
  refine j_aload_n 0 dJ0_charAt_5068e_7 rfl rfl ?_
  refine j_getV h0 fl_J0_9 dJ0_charAt_5068e_8 ?_
  refine j_iload_n 1 dJ0_charAt_5068e_11 rfl rfl ?_
  have e2 : fcall (f_J1_charAt_3b067 a1 S1) (fun v S2 => some (v, S2)) = fcall (f_J1_charAt_3b067 a1 S1) (fun v S2 => if v = jch a1 then some (v, S2) else none) := by
    unfold f_J1_charAt_3b067
    split
    · show some (jch a1, S1) = if jch a1 = jch a1 then _ else _
      rw [if_pos rfl]
    · rfl
  rw [e2]
  refine j_callS (As := [(2, ((G.2.2.2.2.2.2.1 : Nat) : Int)), (0, a1)]) (st := []) kc_J1_charAt_3b067 (c_J1_charAt_3b067 _ a1 S1 rfl h1) lm_J0_495 ks_J1_charAt_3b067 rfl (Nat.le_of_ble_eq_true rfl) (Nat.le_of_ble_eq_true rfl) dJ0_charAt_5068e_12 (fun (w : Int) (S2 : jSt) (hw : R32 w) => ?_)
  refine j_guard fun hc => ?_
  subst hc
  exact j_rt (rT := some .char) (iand32_R _ _) (fun ok hq hf => W.zret (ty := .char) ok.1 ok.2.1 ok.2.2.2.2.2.2.2.1 (jch_nar a1) hq hf dJ0_charAt_5068e_15 ok.2.2.2.2.2.2.1)
