-- X12_beginOne
def f_X12_beginOne_b81 (x0 : Int) (x1 : Int) (x2 : Int) (x3 : Int) (S : jSt) : Option (Int × jSt) :=
  fcallv S x1 12 (f_X12_emit x1 x2 x3 S) (fun v7 S8 => fcallv S8 x0 12 (f_X12_nextToken x0 S8) (fun v9 S10 => fcallv S10 x0 12 (f_X12_endOne x0 S10) (fun v11 S12 => some (v11, S12))))
theorem p_f_X12_beginOne_b81 {G : jG} {d : Nat} {S0 : jSt} (hd0 : 7 ≤ d) : ∀ (x0 : Int) (x1 : Int) (x2 : Int) (x3 : Int) (S : jSt), (0 ≤ (x0)) → (0 ≤ (x1)) → ((x2) = 0 ∨ (x2) = 1) → (R32 (x3)) → J G yX12_beginOne cX12_beginOne 2 (some .int) d S0 81 [(0, 2, x0)] [(0, x3), (0, x2), (2, x1)] S (f_X12_beginOne_b81  x0 x1 x2 x3 S) := by
  intro x0 x1 x2 x3 S h0 h1 h2 h3
  unfold f_X12_beginOne_b81
  refine j_callV (ci := 12) (As := [(0, x2), (0, x3)]) (st := []) kc_X12_emit (c_X12_emit x1 x2 x3 S h1 (jZ_R h2) h3) rfl lm_X12_156 ki_X12_emit ke_X12_emit rfl (Nat.le_of_ble_eq_true rfl) (Nat.le_trans (m := 7) (Nat.le_of_ble_eq_true rfl) hd0) dX12_beginOne_81 (fun v7 S8 _ => ?_)
  refine j_aload_n 0 dX12_beginOne_84 rfl rfl ?_
  refine j_callV (ci := 12) (As := []) (st := []) kc_X12_nextToken (c_X12_nextToken x0 S8 h0) rfl lm_X12_170 ki_X12_nextToken ke_X12_nextToken rfl (Nat.le_of_ble_eq_true rfl) (Nat.le_trans (m := 7) (Nat.le_of_ble_eq_true rfl) hd0) dX12_beginOne_85 (fun v9 S10 _ => ?_)
  refine j_aload_n 0 dX12_beginOne_88 rfl rfl ?_
  refine j_callV (ci := 12) (As := []) (st := []) kc_X12_endOne (c_X12_endOne x0 S10 h0) rfl lm_X12_179 ki_X12_endOne ke_X12_endOne rfl (Nat.le_of_ble_eq_true rfl) (Nat.le_trans (m := 7) (Nat.le_of_ble_eq_true rfl) hd0) dX12_beginOne_89 (fun (v11 : Int) (S12 : jSt) (hv11 : R32 (v11)) => ?_)
  exact j_ireturn hv11 dX12_beginOne_92
def f_X12_beginOne_b65 (x0 : Int) (x1 : Int) (x2 : Int) (x3 : Int) (S : jSt) : Option (Int × jSt) :=
  fget S x0 12 9 (fun v6 => if v6 = 1 then fget S x0 12 10 (fun v13 => f_X12_beginOne_b81 x0 x2 x3 v13 S) else f_X12_beginOne_b81 x0 x2 x3 x1 S)
theorem p_f_X12_beginOne_b65 {G : jG} {d : Nat} {S0 : jSt} (hd0 : 7 ≤ d) : ∀ (x0 : Int) (x1 : Int) (x2 : Int) (x3 : Int) (S : jSt), (0 ≤ (x0)) → (R32 (x1)) → (0 ≤ (x2)) → ((x3) = 0 ∨ (x3) = 1) → J G yX12_beginOne cX12_beginOne 2 (some .int) d S0 65 [(0, 2, x0), (1, 0, x1)] [(0, x3), (2, x2)] S (f_X12_beginOne_b65  x0 x1 x2 x3 S) := by
  intro x0 x1 x2 x3 S h0 h1 h2 h3
  unfold f_X12_beginOne_b65
  refine j_aload_n 0 dX12_beginOne_65 rfl rfl ?_
  refine j_get (ci := 12) (k := 9) (t := 0) rfl in_X12 (Nat.le_of_ble_eq_true rfl) rfl rfl fl_X12_102 dX12_beginOne_66 (fun (v6 : Int) (hv6 : R32 (v6)) => ?_)
  refine j_iconst dX12_beginOne_69 ?_
  refine j_icmp_ne (tgt := 80) hv6 (jZ_R jz1) dX12_beginOne_70 rfl (fun _ => ?_) (fun _ => ?_)
  · refine j_iload_n 1 dX12_beginOne_80 rfl rfl ?_
    refine j_sub [0] rfl ?_
    exact p_f_X12_beginOne_b81 hd0 x0 x2 x3 x1 S h0 h2 h3 h1
  · refine j_aload_n 0 dX12_beginOne_73 rfl rfl ?_
    refine j_get (ci := 12) (k := 10) (t := 0) rfl in_X12 (Nat.le_of_ble_eq_true rfl) rfl rfl fl_X12_108 dX12_beginOne_74 (fun (v13 : Int) (hv13 : R32 (v13)) => ?_)
    refine j_goto (tgt := 81) dX12_beginOne_77 rfl ?_
    refine j_sub [0] rfl ?_
    exact p_f_X12_beginOne_b81 hd0 x0 x2 x3 v13 S h0 h2 h3 hv13
def f_X12_beginOne_b51 (x0 : Int) (x1 : Int) (S : jSt) : Option (Int × jSt) :=
  fget S x0 12 9 (fun v5 => if v5 = 1 then f_X12_beginOne_b65 x0 x1 x0 0 S else f_X12_beginOne_b65 x0 x1 x0 1 S)
theorem p_f_X12_beginOne_b51 {G : jG} {d : Nat} {S0 : jSt} (hd0 : 7 ≤ d) : ∀ (x0 : Int) (x1 : Int) (S : jSt), (0 ≤ (x0)) → (R32 (x1)) → J G yX12_beginOne cX12_beginOne 2 (some .int) d S0 51 [(0, 2, x0), (1, 0, x1)] [] S (f_X12_beginOne_b51  x0 x1 S) := by
  intro x0 x1 S h0 h1
  unfold f_X12_beginOne_b51
  refine j_aload_n 0 dX12_beginOne_51 rfl rfl ?_
  refine j_aload_n 0 dX12_beginOne_52 rfl rfl ?_
  refine j_get (ci := 12) (k := 9) (t := 0) rfl in_X12 (Nat.le_of_ble_eq_true rfl) rfl rfl fl_X12_102 dX12_beginOne_53 (fun (v5 : Int) (hv5 : R32 (v5)) => ?_)
  refine j_iconst dX12_beginOne_56 ?_
  refine j_icmp_ne (tgt := 64) hv5 (jZ_R jz1) dX12_beginOne_57 rfl (fun _ => ?_) (fun _ => ?_)
  · refine j_iconst dX12_beginOne_64 ?_
    exact p_f_X12_beginOne_b65 hd0 x0 x1 x0 1 S h0 h1 h0 jz1
  · refine j_iconst dX12_beginOne_60 ?_
    refine j_goto (tgt := 65) dX12_beginOne_61 rfl ?_
    exact p_f_X12_beginOne_b65 hd0 x0 x1 x0 0 S h0 h1 h0 jz0
def f_X12_beginOne_b231 (x0 : Int) (S : jSt) : Option (Int × jSt) :=
  some (x0, S)
theorem p_f_X12_beginOne_b231 {G : jG} {d : Nat} {S0 : jSt} (hd0 : 7 ≤ d) : ∀ (x0 : Int) (S : jSt), (R32 (x0)) → J G yX12_beginOne cX12_beginOne 2 (some .int) d S0 231 [] [(0, x0)] S (f_X12_beginOne_b231  x0 S) := by
  intro x0 S h0
  unfold f_X12_beginOne_b231
  exact j_ireturn h0 dX12_beginOne_231
def f_X12_beginOne_b230 (S : jSt) : Option (Int × jSt) :=
  f_X12_beginOne_b231 1 S
theorem p_f_X12_beginOne_b230 {G : jG} {d : Nat} {S0 : jSt} (hd0 : 7 ≤ d) : ∀ (S : jSt), J G yX12_beginOne cX12_beginOne 2 (some .int) d S0 230 [] [] S (f_X12_beginOne_b230   S) := by
  intro S
  unfold f_X12_beginOne_b230
  refine j_iconst dX12_beginOne_230 ?_
  exact p_f_X12_beginOne_b231 hd0 1 S (jZ_R jz1)
def f_X12_beginOne_b39 (x0 : Int) (x1 : Int) (S : jSt) : Option (Int × jSt) :=
  fget S x0 12 9 (fun v4 => if v4 = 1 then f_X12_beginOne_b51 x0 x1 S else if x1 < 0 then fget S x0 12 9 (fun v14 => if v14 = 40 then fcallv S x0 12 (f_X12_opened x0 40 S) (fun v44 S45 => some (v44, S45)) else fget S x0 12 9 (fun v15 => if v15 = 45 then fcallv S x0 12 (f_X12_opened x0 5 S) (fun v42 S43 => some (v42, S43)) else fcall (f_X12_w4 101 118 101 110 S) (fun v16 S17 => fcallv S17 x0 12 (f_X12_isWord x0 v16 S17) (fun v18 S19 => if v18 = 0 then fcall (f_X12_w6 119 111 114 116 104 115 S19) (fun v20 S21 => fcallv S21 x0 12 (f_X12_isWord x0 v20 S21) (fun v22 S23 => if v22 = 0 then fcall (f_X12_w2 105 102 S23) (fun v24 S25 => fcallv S25 x0 12 (f_X12_isWord x0 v24 S25) (fun v26 S27 => if v26 = 0 then fcall (f_X12_w3 110 111 116 S27) (fun v28 S29 => fcallv S29 x0 12 (f_X12_isWord x0 v28 S29) (fun v30 S31 => if v30 = 0 then f_X12_beginOne_b230 S31 else fcallv S31 x0 12 (f_X12_isAskAhead x0 S31) (fun v32 S33 => if v32 = 0 then f_X12_beginOne_b230 S33 else fcallv S33 x0 12 (f_X12_opened x0 20 S33) (fun v34 S35 => f_X12_beginOne_b231 v34 S35)))) else fcallv S27 x0 12 (f_X12_opened x0 42 S27) (fun v36 S37 => some (v36, S37)))) else fcallv S23 x0 12 (f_X12_opened x0 2 S23) (fun v38 S39 => some (v38, S39)))) else fcallv S19 x0 12 (f_X12_opened x0 41 S19) (fun v40 S41 => some (v40, S41)))))) else f_X12_beginOne_b51 x0 x1 S)
theorem p_f_X12_beginOne_b39 {G : jG} {d : Nat} {S0 : jSt} (hd0 : 7 ≤ d) : ∀ (x0 : Int) (x1 : Int) (S : jSt), (0 ≤ (x0)) → (R32 (x1)) → J G yX12_beginOne cX12_beginOne 2 (some .int) d S0 39 [(0, 2, x0), (1, 0, x1)] [] S (f_X12_beginOne_b39  x0 x1 S) := by
  intro x0 x1 S h0 h1
  unfold f_X12_beginOne_b39
  refine j_aload_n 0 dX12_beginOne_39 rfl rfl ?_
  refine j_get (ci := 12) (k := 9) (t := 0) rfl in_X12 (Nat.le_of_ble_eq_true rfl) rfl rfl fl_X12_102 dX12_beginOne_40 (fun (v4 : Int) (hv4 : R32 (v4)) => ?_)
  refine j_iconst dX12_beginOne_43 ?_
  refine j_icmp_eq (tgt := 51) hv4 (jZ_R jz1) dX12_beginOne_44 rfl (fun _ => ?_) (fun _ => ?_)
  · exact p_f_X12_beginOne_b51 hd0 x0 x1 S h0 h1
  · refine j_iload_n 1 dX12_beginOne_47 rfl rfl ?_
    refine j_if_lt (tgt := 93) h1 dX12_beginOne_48 rfl (fun _ => ?_) (fun _ => ?_)
    · refine j_aload_n 0 dX12_beginOne_93 rfl rfl ?_
      refine j_get (ci := 12) (k := 9) (t := 0) rfl in_X12 (Nat.le_of_ble_eq_true rfl) rfl rfl fl_X12_102 dX12_beginOne_94 (fun (v14 : Int) (hv14 : R32 (v14)) => ?_)
      refine j_bipush dX12_beginOne_97 (by decide) ?_
      refine j_icmp_ne (tgt := 109) hv14 (j_r32 40 rfl) dX12_beginOne_99 rfl (fun _ => ?_) (fun _ => ?_)
      · refine j_aload_n 0 dX12_beginOne_109 rfl rfl ?_
        refine j_get (ci := 12) (k := 9) (t := 0) rfl in_X12 (Nat.le_of_ble_eq_true rfl) rfl rfl fl_X12_102 dX12_beginOne_110 (fun (v15 : Int) (hv15 : R32 (v15)) => ?_)
        refine j_bipush dX12_beginOne_113 (by decide) ?_
        refine j_icmp_ne (tgt := 124) hv15 (j_r32 45 rfl) dX12_beginOne_115 rfl (fun _ => ?_) (fun _ => ?_)
        · refine j_aload_n 0 dX12_beginOne_124 rfl rfl ?_
          refine j_bipush dX12_beginOne_125 (by decide) ?_
          refine j_bipush dX12_beginOne_127 (by decide) ?_
          refine j_bipush dX12_beginOne_129 (by decide) ?_
          refine j_bipush dX12_beginOne_131 (by decide) ?_
          refine j_callS (As := [(0, 101), (0, 118), (0, 101), (0, 110)]) (st := [(2, x0)]) kc_X12_w4 (c_X12_w4 101 118 101 110 S (j_r32 101 rfl) (j_r32 118 rfl) (j_r32 101 rfl) (j_r32 110 rfl)) lm_X12_132 ks_X12_w4 rfl (Nat.le_of_ble_eq_true rfl) (Nat.le_trans (m := 7) (Nat.le_of_ble_eq_true rfl) hd0) dX12_beginOne_133 (fun (v16 : Int) (S17 : jSt) (hv16 : R64 (v16)) => ?_)
          refine j_callV (ci := 12) (As := [(1, v16)]) (st := []) kc_X12_isWord (c_X12_isWord x0 v16 S17 h0 hv16) rfl lm_X12_185 ki_X12_isWord ke_X12_isWord rfl (Nat.le_of_ble_eq_true rfl) (Nat.le_trans (m := 7) (Nat.le_of_ble_eq_true rfl) hd0) dX12_beginOne_136 (fun (v18 : Int) (S19 : jSt) (hv18 : (v18) = 0 ∨ (v18) = 1) => ?_)
          refine j_if_eq (tgt := 149) (jZ_R hv18) dX12_beginOne_139 rfl (fun _ => ?_) (fun _ => ?_)
          · refine j_aload_n 0 dX12_beginOne_149 rfl rfl ?_
            refine j_bipush dX12_beginOne_150 (by decide) ?_
            refine j_bipush dX12_beginOne_152 (by decide) ?_
            refine j_bipush dX12_beginOne_154 (by decide) ?_
            refine j_bipush dX12_beginOne_156 (by decide) ?_
            refine j_bipush dX12_beginOne_158 (by decide) ?_
            refine j_bipush dX12_beginOne_160 (by decide) ?_
            refine j_callS (As := [(0, 119), (0, 111), (0, 114), (0, 116), (0, 104), (0, 115)]) (st := [(2, x0)]) kc_X12_w6 (c_X12_w6 119 111 114 116 104 115 S19 (j_r32 119 rfl) (j_r32 111 rfl) (j_r32 114 rfl) (j_r32 116 rfl) (j_r32 104 rfl) (j_r32 115 rfl)) lm_X12_146 ks_X12_w6 rfl (Nat.le_of_ble_eq_true rfl) (Nat.le_trans (m := 7) (Nat.le_of_ble_eq_true rfl) hd0) dX12_beginOne_162 (fun (v20 : Int) (S21 : jSt) (hv20 : R64 (v20)) => ?_)
            refine j_callV (ci := 12) (As := [(1, v20)]) (st := []) kc_X12_isWord (c_X12_isWord x0 v20 S21 h0 hv20) rfl lm_X12_185 ki_X12_isWord ke_X12_isWord rfl (Nat.le_of_ble_eq_true rfl) (Nat.le_trans (m := 7) (Nat.le_of_ble_eq_true rfl) hd0) dX12_beginOne_165 (fun (v22 : Int) (S23 : jSt) (hv22 : (v22) = 0 ∨ (v22) = 1) => ?_)
            refine j_if_eq (tgt := 177) (jZ_R hv22) dX12_beginOne_168 rfl (fun _ => ?_) (fun _ => ?_)
            · refine j_aload_n 0 dX12_beginOne_177 rfl rfl ?_
              refine j_bipush dX12_beginOne_178 (by decide) ?_
              refine j_bipush dX12_beginOne_180 (by decide) ?_
              refine j_callS (As := [(0, 105), (0, 102)]) (st := [(2, x0)]) kc_X12_w2 (c_X12_w2 105 102 S23 (j_r32 105 rfl) (j_r32 102 rfl)) lm_X12_124 ks_X12_w2 rfl (Nat.le_of_ble_eq_true rfl) (Nat.le_trans (m := 7) (Nat.le_of_ble_eq_true rfl) hd0) dX12_beginOne_182 (fun (v24 : Int) (S25 : jSt) (hv24 : R64 (v24)) => ?_)
              refine j_callV (ci := 12) (As := [(1, v24)]) (st := []) kc_X12_isWord (c_X12_isWord x0 v24 S25 h0 hv24) rfl lm_X12_185 ki_X12_isWord ke_X12_isWord rfl (Nat.le_of_ble_eq_true rfl) (Nat.le_trans (m := 7) (Nat.le_of_ble_eq_true rfl) hd0) dX12_beginOne_185 (fun (v26 : Int) (S27 : jSt) (hv26 : (v26) = 0 ∨ (v26) = 1) => ?_)
              refine j_if_eq (tgt := 198) (jZ_R hv26) dX12_beginOne_188 rfl (fun _ => ?_) (fun _ => ?_)
              · refine j_aload_n 0 dX12_beginOne_198 rfl rfl ?_
                refine j_bipush dX12_beginOne_199 (by decide) ?_
                refine j_bipush dX12_beginOne_201 (by decide) ?_
                refine j_bipush dX12_beginOne_203 (by decide) ?_
                refine j_callS (As := [(0, 110), (0, 111), (0, 116)]) (st := [(2, x0)]) kc_X12_w3 (c_X12_w3 110 111 116 S27 (j_r32 110 rfl) (j_r32 111 rfl) (j_r32 116 rfl)) lm_X12_128 ks_X12_w3 rfl (Nat.le_of_ble_eq_true rfl) (Nat.le_trans (m := 7) (Nat.le_of_ble_eq_true rfl) hd0) dX12_beginOne_205 (fun (v28 : Int) (S29 : jSt) (hv28 : R64 (v28)) => ?_)
                refine j_callV (ci := 12) (As := [(1, v28)]) (st := []) kc_X12_isWord (c_X12_isWord x0 v28 S29 h0 hv28) rfl lm_X12_185 ki_X12_isWord ke_X12_isWord rfl (Nat.le_of_ble_eq_true rfl) (Nat.le_trans (m := 7) (Nat.le_of_ble_eq_true rfl) hd0) dX12_beginOne_208 (fun (v30 : Int) (S31 : jSt) (hv30 : (v30) = 0 ∨ (v30) = 1) => ?_)
                refine j_if_eq (tgt := 230) (jZ_R hv30) dX12_beginOne_211 rfl (fun _ => ?_) (fun _ => ?_)
                · refine j_sub [] rfl ?_
                  exact p_f_X12_beginOne_b230 hd0 S31
                · refine j_aload_n 0 dX12_beginOne_214 rfl rfl ?_
                  refine j_callV (ci := 12) (As := []) (st := []) kc_X12_isAskAhead (c_X12_isAskAhead x0 S31 h0) rfl lm_X12_189 ki_X12_isAskAhead ke_X12_isAskAhead rfl (Nat.le_of_ble_eq_true rfl) (Nat.le_trans (m := 7) (Nat.le_of_ble_eq_true rfl) hd0) dX12_beginOne_215 (fun (v32 : Int) (S33 : jSt) (hv32 : (v32) = 0 ∨ (v32) = 1) => ?_)
                  refine j_if_eq (tgt := 230) (jZ_R hv32) dX12_beginOne_218 rfl (fun _ => ?_) (fun _ => ?_)
                  · refine j_sub [] rfl ?_
                    exact p_f_X12_beginOne_b230 hd0 S33
                  · refine j_aload_n 0 dX12_beginOne_221 rfl rfl ?_
                    refine j_bipush dX12_beginOne_222 (by decide) ?_
                    refine j_callV (ci := 12) (As := [(0, 20)]) (st := []) kc_X12_opened (c_X12_opened x0 20 S33 h0 (j_r32 20 rfl)) rfl lm_X12_182 ki_X12_opened ke_X12_opened rfl (Nat.le_of_ble_eq_true rfl) (Nat.le_trans (m := 7) (Nat.le_of_ble_eq_true rfl) hd0) dX12_beginOne_224 (fun (v34 : Int) (S35 : jSt) (hv34 : R32 (v34)) => ?_)
                    refine j_goto (tgt := 231) dX12_beginOne_227 rfl ?_
                    refine j_sub [] rfl ?_
                    exact p_f_X12_beginOne_b231 hd0 v34 S35 hv34
              · refine j_aload_n 0 dX12_beginOne_191 rfl rfl ?_
                refine j_bipush dX12_beginOne_192 (by decide) ?_
                refine j_callV (ci := 12) (As := [(0, 42)]) (st := []) kc_X12_opened (c_X12_opened x0 42 S27 h0 (j_r32 42 rfl)) rfl lm_X12_182 ki_X12_opened ke_X12_opened rfl (Nat.le_of_ble_eq_true rfl) (Nat.le_trans (m := 7) (Nat.le_of_ble_eq_true rfl) hd0) dX12_beginOne_194 (fun (v36 : Int) (S37 : jSt) (hv36 : R32 (v36)) => ?_)
                exact j_ireturn hv36 dX12_beginOne_197
            · refine j_aload_n 0 dX12_beginOne_171 rfl rfl ?_
              refine j_iconst dX12_beginOne_172 ?_
              refine j_callV (ci := 12) (As := [(0, 2)]) (st := []) kc_X12_opened (c_X12_opened x0 2 S23 h0 (j_r32 2 rfl)) rfl lm_X12_182 ki_X12_opened ke_X12_opened rfl (Nat.le_of_ble_eq_true rfl) (Nat.le_trans (m := 7) (Nat.le_of_ble_eq_true rfl) hd0) dX12_beginOne_173 (fun (v38 : Int) (S39 : jSt) (hv38 : R32 (v38)) => ?_)
              exact j_ireturn hv38 dX12_beginOne_176
          · refine j_aload_n 0 dX12_beginOne_142 rfl rfl ?_
            refine j_bipush dX12_beginOne_143 (by decide) ?_
            refine j_callV (ci := 12) (As := [(0, 41)]) (st := []) kc_X12_opened (c_X12_opened x0 41 S19 h0 (j_r32 41 rfl)) rfl lm_X12_182 ki_X12_opened ke_X12_opened rfl (Nat.le_of_ble_eq_true rfl) (Nat.le_trans (m := 7) (Nat.le_of_ble_eq_true rfl) hd0) dX12_beginOne_145 (fun (v40 : Int) (S41 : jSt) (hv40 : R32 (v40)) => ?_)
            exact j_ireturn hv40 dX12_beginOne_148
        · refine j_aload_n 0 dX12_beginOne_118 rfl rfl ?_
          refine j_iconst dX12_beginOne_119 ?_
          refine j_callV (ci := 12) (As := [(0, 5)]) (st := []) kc_X12_opened (c_X12_opened x0 5 S h0 (j_r32 5 rfl)) rfl lm_X12_182 ki_X12_opened ke_X12_opened rfl (Nat.le_of_ble_eq_true rfl) (Nat.le_trans (m := 7) (Nat.le_of_ble_eq_true rfl) hd0) dX12_beginOne_120 (fun (v42 : Int) (S43 : jSt) (hv42 : R32 (v42)) => ?_)
          exact j_ireturn hv42 dX12_beginOne_123
      · refine j_aload_n 0 dX12_beginOne_102 rfl rfl ?_
        refine j_bipush dX12_beginOne_103 (by decide) ?_
        refine j_callV (ci := 12) (As := [(0, 40)]) (st := []) kc_X12_opened (c_X12_opened x0 40 S h0 (j_r32 40 rfl)) rfl lm_X12_182 ki_X12_opened ke_X12_opened rfl (Nat.le_of_ble_eq_true rfl) (Nat.le_trans (m := 7) (Nat.le_of_ble_eq_true rfl) hd0) dX12_beginOne_105 (fun (v44 : Int) (S45 : jSt) (hv44 : R32 (v44)) => ?_)
        exact j_ireturn hv44 dX12_beginOne_108
    · exact p_f_X12_beginOne_b51 hd0 x0 x1 S h0 h1
def f_X12_beginOne_b20 (x0 : Int) (S : jSt) : Option (Int × jSt) :=
  fcallv S x0 12 (f_X12_nameOf x0 S) (fun v2 S3 => if v2 ≤ 4 then f_X12_beginOne_b39 x0 v2 S3 else fget S3 x0 12 14 (fun v46 => if v46 = 0 then f_X12_beginOne_b39 x0 v2 S3 else some (5, S3)))
theorem p_f_X12_beginOne_b20 {G : jG} {d : Nat} {S0 : jSt} (hd0 : 7 ≤ d) : ∀ (x0 : Int) (S : jSt), (0 ≤ (x0)) → J G yX12_beginOne cX12_beginOne 2 (some .int) d S0 20 [(0, 2, x0)] [] S (f_X12_beginOne_b20  x0 S) := by
  intro x0 S h0
  unfold f_X12_beginOne_b20
  refine j_aload_n 0 dX12_beginOne_20 rfl rfl ?_
  refine j_callV (ci := 12) (As := []) (st := []) kc_X12_nameOf (c_X12_nameOf x0 S h0) rfl lm_X12_173 ki_X12_nameOf ke_X12_nameOf rfl (Nat.le_of_ble_eq_true rfl) (Nat.le_trans (m := 7) (Nat.le_of_ble_eq_true rfl) hd0) dX12_beginOne_21 (fun (v2 : Int) (S3 : jSt) (hv2 : R32 (v2)) => ?_)
  refine j_istore_n (lv' := [(1, 0, v2), (0, 2, x0)]) dX12_beginOne_24 rfl (Nat.le_of_ble_eq_true rfl) rfl ?_
  refine j_iload_n 0 dX12_beginOne_25 rfl rfl ?_
  refine j_iconst dX12_beginOne_26 ?_
  refine j_icmp_le (tgt := 39) hv2 (j_r32 4 rfl) dX12_beginOne_27 rfl (fun _ => ?_) (fun _ => ?_)
  · refine j_sub [1, 0] rfl ?_
    exact p_f_X12_beginOne_b39 hd0 x0 v2 S3 h0 hv2
  · refine j_aload_n 1 dX12_beginOne_30 rfl rfl ?_
    refine j_get (ci := 12) (k := 14) (t := 0) rfl in_X12 (Nat.le_of_ble_eq_true rfl) rfl rfl fl_X12_176 dX12_beginOne_31 (fun (v46 : Int) (hv46 : R32 (v46)) => ?_)
    refine j_if_eq (tgt := 39) hv46 dX12_beginOne_34 rfl (fun _ => ?_) (fun _ => ?_)
    · refine j_sub [1, 0] rfl ?_
      exact p_f_X12_beginOne_b39 hd0 x0 v2 S3 h0 hv2
    · refine j_iconst dX12_beginOne_37 ?_
      exact j_ireturn (j_r32 5 rfl) dX12_beginOne_38
def f_X12_beginOne (a0 : Int) (S : jSt) : Option (Int × jSt) :=
  fget S a0 12 9 (fun v1 => if v1 = 1 then fget S a0 12 10 (fun v47 => if v47 ≤ 9999 then f_X12_beginOne_b20 a0 S else some (2, S)) else f_X12_beginOne_b20 a0 S)
theorem e_X12_beginOne {G : jG} {d : Nat} {S0 : jSt} (hd0 : 7 ≤ d) (a0 : Int) (S : jSt) (h0 : 0 ≤ (a0)) : J G yX12_beginOne cX12_beginOne 2 (some .int) d S0 0 [(0, 2, a0)] [] S (f_X12_beginOne a0 S) := by
  unfold f_X12_beginOne
  refine j_aload_n 0 dX12_beginOne_0 rfl rfl ?_
  refine j_get (ci := 12) (k := 9) (t := 0) rfl in_X12 (Nat.le_of_ble_eq_true rfl) rfl rfl fl_X12_102 dX12_beginOne_1 (fun (v1 : Int) (hv1 : R32 (v1)) => ?_)
  refine j_iconst dX12_beginOne_4 ?_
  refine j_icmp_ne (tgt := 20) hv1 (jZ_R jz1) dX12_beginOne_5 rfl (fun _ => ?_) (fun _ => ?_)
  · exact p_f_X12_beginOne_b20 hd0 a0 S h0
  · refine j_aload_n 0 dX12_beginOne_8 rfl rfl ?_
    refine j_get (ci := 12) (k := 10) (t := 0) rfl in_X12 (Nat.le_of_ble_eq_true rfl) rfl rfl fl_X12_108 dX12_beginOne_9 (fun (v47 : Int) (hv47 : R32 (v47)) => ?_)
    refine j_sipush dX12_beginOne_12 (by decide) ?_
    refine j_icmp_le (tgt := 20) hv47 (j_r32 9999 rfl) dX12_beginOne_15 rfl (fun _ => ?_) (fun _ => ?_)
    · exact p_f_X12_beginOne_b20 hd0 a0 S h0
    · refine j_iconst dX12_beginOne_18 ?_
      exact j_ireturn (j_r32 2 rfl) dX12_beginOne_19
theorem c_X12_beginOne {G : jG} (a0 : Int) (S : jSt) (h0 : 0 ≤ (a0)) : CT G yX12_beginOne cX12_beginOne 2 (some .int) 7 ([(2, a0)].map jval) S (f_X12_beginOne a0 S) := ct_of [(2, a0)] (by decide) rfl (Nat.le_of_ble_eq_true rfl) (e_X12_beginOne (Nat.le_refl _) a0 S h0)
-- X12_compareOf
def f_X12_compareOf_b83 (x0 : Int) (S : jSt) : Option (Int × jSt) :=
  some (x0, S)
theorem p_f_X12_compareOf_b83 {G : jG} {d : Nat} {S0 : jSt} (hd0 : 1 ≤ d) : ∀ (x0 : Int) (S : jSt), (R32 (x0)) → J G yX12_compareOf cX12_compareOf 1 (some .int) d S0 83 [] [(0, x0)] S (f_X12_compareOf_b83  x0 S) := by
  intro x0 S h0
  unfold f_X12_compareOf_b83
  exact j_ireturn h0 dX12_compareOf_83
def f_X12_compareOf (a0 : Int) (S : jSt) : Option (Int × jSt) :=
  fget S a0 12 9 (fun v1 => if v1 = 60 then f_X12_compareOf_b83 10 S else fget S a0 12 9 (fun v2 => if v2 = 4 then f_X12_compareOf_b83 11 S else fget S a0 12 9 (fun v3 => if v3 = 62 then f_X12_compareOf_b83 12 S else fget S a0 12 9 (fun v4 => if v4 = 5 then f_X12_compareOf_b83 13 S else fget S a0 12 9 (fun v5 => if v5 = 61 then f_X12_compareOf_b83 14 S else fget S a0 12 9 (fun v6 => if v6 = 35 then f_X12_compareOf_b83 15 S else f_X12_compareOf_b83 (-1) S))))))
theorem e_X12_compareOf {G : jG} {d : Nat} {S0 : jSt} (hd0 : 1 ≤ d) (a0 : Int) (S : jSt) (h0 : 0 ≤ (a0)) : J G yX12_compareOf cX12_compareOf 1 (some .int) d S0 0 [(0, 2, a0)] [] S (f_X12_compareOf a0 S) := by
  unfold f_X12_compareOf
  refine j_aload_n 0 dX12_compareOf_0 rfl rfl ?_
  refine j_get (ci := 12) (k := 9) (t := 0) rfl in_X12 (Nat.le_of_ble_eq_true rfl) rfl rfl fl_X12_102 dX12_compareOf_1 (fun (v1 : Int) (hv1 : R32 (v1)) => ?_)
  refine j_bipush dX12_compareOf_4 (by decide) ?_
  refine j_icmp_ne (tgt := 14) hv1 (j_r32 60 rfl) dX12_compareOf_6 rfl (fun _ => ?_) (fun _ => ?_)
  · refine j_aload_n 0 dX12_compareOf_14 rfl rfl ?_
    refine j_get (ci := 12) (k := 9) (t := 0) rfl in_X12 (Nat.le_of_ble_eq_true rfl) rfl rfl fl_X12_102 dX12_compareOf_15 (fun (v2 : Int) (hv2 : R32 (v2)) => ?_)
    refine j_iconst dX12_compareOf_18 ?_
    refine j_icmp_ne (tgt := 27) hv2 (j_r32 4 rfl) dX12_compareOf_19 rfl (fun _ => ?_) (fun _ => ?_)
    · refine j_aload_n 0 dX12_compareOf_27 rfl rfl ?_
      refine j_get (ci := 12) (k := 9) (t := 0) rfl in_X12 (Nat.le_of_ble_eq_true rfl) rfl rfl fl_X12_102 dX12_compareOf_28 (fun (v3 : Int) (hv3 : R32 (v3)) => ?_)
      refine j_bipush dX12_compareOf_31 (by decide) ?_
      refine j_icmp_ne (tgt := 41) hv3 (j_r32 62 rfl) dX12_compareOf_33 rfl (fun _ => ?_) (fun _ => ?_)
      · refine j_aload_n 0 dX12_compareOf_41 rfl rfl ?_
        refine j_get (ci := 12) (k := 9) (t := 0) rfl in_X12 (Nat.le_of_ble_eq_true rfl) rfl rfl fl_X12_102 dX12_compareOf_42 (fun (v4 : Int) (hv4 : R32 (v4)) => ?_)
        refine j_iconst dX12_compareOf_45 ?_
        refine j_icmp_ne (tgt := 54) hv4 (j_r32 5 rfl) dX12_compareOf_46 rfl (fun _ => ?_) (fun _ => ?_)
        · refine j_aload_n 0 dX12_compareOf_54 rfl rfl ?_
          refine j_get (ci := 12) (k := 9) (t := 0) rfl in_X12 (Nat.le_of_ble_eq_true rfl) rfl rfl fl_X12_102 dX12_compareOf_55 (fun (v5 : Int) (hv5 : R32 (v5)) => ?_)
          refine j_bipush dX12_compareOf_58 (by decide) ?_
          refine j_icmp_ne (tgt := 68) hv5 (j_r32 61 rfl) dX12_compareOf_60 rfl (fun _ => ?_) (fun _ => ?_)
          · refine j_aload_n 0 dX12_compareOf_68 rfl rfl ?_
            refine j_get (ci := 12) (k := 9) (t := 0) rfl in_X12 (Nat.le_of_ble_eq_true rfl) rfl rfl fl_X12_102 dX12_compareOf_69 (fun (v6 : Int) (hv6 : R32 (v6)) => ?_)
            refine j_bipush dX12_compareOf_72 (by decide) ?_
            refine j_icmp_ne (tgt := 82) hv6 (j_r32 35 rfl) dX12_compareOf_74 rfl (fun _ => ?_) (fun _ => ?_)
            · refine j_iconst dX12_compareOf_82 ?_
              refine j_sub [] rfl ?_
              exact p_f_X12_compareOf_b83 hd0 (-1) S (j_r32 (-1) rfl)
            · refine j_bipush dX12_compareOf_77 (by decide) ?_
              refine j_goto (tgt := 83) dX12_compareOf_79 rfl ?_
              refine j_sub [] rfl ?_
              exact p_f_X12_compareOf_b83 hd0 15 S (j_r32 15 rfl)
          · refine j_bipush dX12_compareOf_63 (by decide) ?_
            refine j_goto (tgt := 83) dX12_compareOf_65 rfl ?_
            refine j_sub [] rfl ?_
            exact p_f_X12_compareOf_b83 hd0 14 S (j_r32 14 rfl)
        · refine j_bipush dX12_compareOf_49 (by decide) ?_
          refine j_goto (tgt := 83) dX12_compareOf_51 rfl ?_
          refine j_sub [] rfl ?_
          exact p_f_X12_compareOf_b83 hd0 13 S (j_r32 13 rfl)
      · refine j_bipush dX12_compareOf_36 (by decide) ?_
        refine j_goto (tgt := 83) dX12_compareOf_38 rfl ?_
        refine j_sub [] rfl ?_
        exact p_f_X12_compareOf_b83 hd0 12 S (j_r32 12 rfl)
    · refine j_bipush dX12_compareOf_22 (by decide) ?_
      refine j_goto (tgt := 83) dX12_compareOf_24 rfl ?_
      refine j_sub [] rfl ?_
      exact p_f_X12_compareOf_b83 hd0 11 S (j_r32 11 rfl)
  · refine j_bipush dX12_compareOf_9 (by decide) ?_
    refine j_goto (tgt := 83) dX12_compareOf_11 rfl ?_
    refine j_sub [] rfl ?_
    exact p_f_X12_compareOf_b83 hd0 10 S (j_r32 10 rfl)
theorem c_X12_compareOf {G : jG} (a0 : Int) (S : jSt) (h0 : 0 ≤ (a0)) : CT G yX12_compareOf cX12_compareOf 1 (some .int) 1 ([(2, a0)].map jval) S (f_X12_compareOf a0 S) := ct_of [(2, a0)] (by decide) rfl (Nat.le_of_ble_eq_true rfl) (e_X12_compareOf (Nat.le_refl _) a0 S h0)
-- X12_isCompared
def f_X12_isCompared_b52 (x0 : Int) (S : jSt) : Option (Int × jSt) :=
  some (x0, S)
theorem p_f_X12_isCompared_b52 {G : jG} {d : Nat} {S0 : jSt} (hd0 : 2 ≤ d) : ∀ (x0 : Int) (S : jSt), ((x0) = 0 ∨ (x0) = 1) → J G yX12_isCompared cX12_isCompared 2 (some .boolean) d S0 52 [] [(0, x0)] S (f_X12_isCompared_b52  x0 S) := by
  intro x0 S h0
  unfold f_X12_isCompared_b52
  exact j_zreturn h0 dX12_isCompared_52
def f_X12_isCompared_b51 (S : jSt) : Option (Int × jSt) :=
  f_X12_isCompared_b52 0 S
theorem p_f_X12_isCompared_b51 {G : jG} {d : Nat} {S0 : jSt} (hd0 : 2 ≤ d) : ∀ (S : jSt), J G yX12_isCompared cX12_isCompared 2 (some .boolean) d S0 51 [] [] S (f_X12_isCompared_b51   S) := by
  intro S
  unfold f_X12_isCompared_b51
  refine j_iconst dX12_isCompared_51 ?_
  exact p_f_X12_isCompared_b52 hd0 0 S jz0
def f_X12_isCompared_b30 (x0 : Int) (x1 : Int) (S : jSt) : Option (Int × jSt) :=
  if x1 < 0 then f_X12_isCompared_b51 S else fgetr S x0 12 15 (fun v3 => fald S v3 x1 1 (fun v4 => fcall (f_X12_rank v4 S) (fun v5 S6 => if v5 = 4 then f_X12_isCompared_b52 1 S6 else f_X12_isCompared_b51 S6)))
theorem p_f_X12_isCompared_b30 {G : jG} {d : Nat} {S0 : jSt} (hd0 : 2 ≤ d) : ∀ (x0 : Int) (x1 : Int) (S : jSt), (0 ≤ (x0)) → (R32 (x1)) → J G yX12_isCompared cX12_isCompared 2 (some .boolean) d S0 30 [(0, 2, x0), (1, 0, x1)] [] S (f_X12_isCompared_b30  x0 x1 S) := by
  intro x0 x1 S h0 h1
  unfold f_X12_isCompared_b30
  refine j_iload_n 1 dX12_isCompared_30 rfl rfl ?_
  refine j_if_lt (tgt := 51) h1 dX12_isCompared_31 rfl (fun _ => ?_) (fun _ => ?_)
  · refine j_sub [] rfl ?_
    exact p_f_X12_isCompared_b51 hd0 S
  · refine j_aload_n 0 dX12_isCompared_34 rfl rfl ?_
    refine j_getr (ci := 12) (k := 15) rfl in_X12 (Nat.le_of_ble_eq_true rfl) rfl rfl fl_X12_29 dX12_isCompared_35 (fun (v3 : Int) (hv3 : 0 ≤ v3) => ?_)
    refine j_iload_n 1 dX12_isCompared_38 rfl rfl ?_
    refine j_iaload h1 dX12_isCompared_39 (fun (v4 : Int) (hv4 : R32 (v4)) => ?_)
    refine j_callS (As := [(0, v4)]) (st := []) kc_X12_rank (c_X12_rank v4 S hv4) lm_X12_153 ks_X12_rank rfl (Nat.le_of_ble_eq_true rfl) (Nat.le_trans (m := 2) (Nat.le_of_ble_eq_true rfl) hd0) dX12_isCompared_40 (fun (v5 : Int) (S6 : jSt) (hv5 : R32 (v5)) => ?_)
    refine j_iconst dX12_isCompared_43 ?_
    refine j_icmp_ne (tgt := 51) hv5 (j_r32 4 rfl) dX12_isCompared_44 rfl (fun _ => ?_) (fun _ => ?_)
    · refine j_sub [] rfl ?_
      exact p_f_X12_isCompared_b51 hd0 S6
    · refine j_iconst dX12_isCompared_47 ?_
      refine j_goto (tgt := 52) dX12_isCompared_48 rfl ?_
      refine j_sub [] rfl ?_
      exact p_f_X12_isCompared_b52 hd0 1 S6 jz1
def f_X12_isCompared_b7B (r7 : Int → Int → jSt → Option (Int × jSt)) (x0 : Int) (x1 : Int) (S : jSt) : Option (Int × jSt) :=
  if x1 < 0 then f_X12_isCompared_b30 x0 x1 S else fgetr S x0 12 15 (fun v7 => fald S v7 x1 1 (fun v8 => fcall (f_X12_rank v8 S) (fun v9 S10 => if v9 ≤ 4 then f_X12_isCompared_b30 x0 x1 S10 else flet (w32 (x1 + (-1))) (fun v11 => r7 x0 v11 S10))))
theorem p_f_X12_isCompared_b7B {G : jG} {d : Nat} {S0 : jSt} (hd0 : 2 ≤ d) {r7 : Int → Int → jSt → Option (Int × jSt)} (k7 : ∀ (x0 : Int) (x1 : Int) (S : jSt), (0 ≤ (x0)) → (R32 (x1)) → J G yX12_isCompared cX12_isCompared 2 (some .boolean) d S0 7 [(0, 2, x0), (1, 0, x1)] [] S (r7 x0 x1 S)) : ∀ (x0 : Int) (x1 : Int) (S : jSt), (0 ≤ (x0)) → (R32 (x1)) → J G yX12_isCompared cX12_isCompared 2 (some .boolean) d S0 7 [(0, 2, x0), (1, 0, x1)] [] S (f_X12_isCompared_b7B r7 x0 x1 S) := by
  intro x0 x1 S h0 h1
  unfold f_X12_isCompared_b7B
  refine j_iload_n 1 dX12_isCompared_7 rfl rfl ?_
  refine j_if_lt (tgt := 30) h1 dX12_isCompared_8 rfl (fun _ => ?_) (fun _ => ?_)
  · exact p_f_X12_isCompared_b30 hd0 x0 x1 S h0 h1
  · refine j_aload_n 0 dX12_isCompared_11 rfl rfl ?_
    refine j_getr (ci := 12) (k := 15) rfl in_X12 (Nat.le_of_ble_eq_true rfl) rfl rfl fl_X12_29 dX12_isCompared_12 (fun (v7 : Int) (hv7 : 0 ≤ v7) => ?_)
    refine j_iload_n 1 dX12_isCompared_15 rfl rfl ?_
    refine j_iaload h1 dX12_isCompared_16 (fun (v8 : Int) (hv8 : R32 (v8)) => ?_)
    refine j_callS (As := [(0, v8)]) (st := []) kc_X12_rank (c_X12_rank v8 S hv8) lm_X12_153 ks_X12_rank rfl (Nat.le_of_ble_eq_true rfl) (Nat.le_trans (m := 2) (Nat.le_of_ble_eq_true rfl) hd0) dX12_isCompared_17 (fun (v9 : Int) (S10 : jSt) (hv9 : R32 (v9)) => ?_)
    refine j_iconst dX12_isCompared_20 ?_
    refine j_icmp_le (tgt := 30) hv9 (j_r32 4 rfl) dX12_isCompared_21 rfl (fun _ => ?_) (fun _ => ?_)
    · exact p_f_X12_isCompared_b30 hd0 x0 x1 S10 h0 h1
    · refine j_iincL (q := 1) dX12_isCompared_24 rfl (Nat.le_of_ble_eq_true rfl) (fun v11 hv11 => ?_)
      refine j_lv (lv' := [(1, 0, v11), (0, 2, x0)]) rfl ?_
      refine j_goto (tgt := 7) dX12_isCompared_27 rfl ?_
      refine j_sub [1, 0] rfl ?_
      exact k7 x0 v11 S10 h0 hv11
def f_X12_isCompared_b7 : Int → Int → jSt → Option (Int × jSt) := jrep (β := Int → Int → jSt → Option (Int × jSt)) (fun _ _ _ => none) (fun r => f_X12_isCompared_b7B r) jN
theorem p_f_X12_isCompared_b7 {G : jG} {d : Nat} {S0 : jSt} (hd0 : 2 ≤ d) : ∀ (x0 : Int) (x1 : Int) (S : jSt), (0 ≤ (x0)) → (R32 (x1)) → J G yX12_isCompared cX12_isCompared 2 (some .boolean) d S0 7 [(0, 2, x0), (1, 0, x1)] [] S (f_X12_isCompared_b7  x0 x1 S) :=
  jrep_ind (P := fun (r : Int → Int → jSt → Option (Int × jSt)) => ∀ (x0 : Int) (x1 : Int) (S : jSt), (0 ≤ (x0)) → (R32 (x1)) → J G yX12_isCompared cX12_isCompared 2 (some .boolean) d S0 7 [(0, 2, x0), (1, 0, x1)] [] S (r x0 x1 S)) (by intros; exact j_none) (fun r k => p_f_X12_isCompared_b7B hd0 k) jN
def f_X12_isCompared (a0 : Int) (S : jSt) : Option (Int × jSt) :=
  fget S a0 12 16 (fun v1 => flet (w32 (v1 - 1)) (fun v2 => f_X12_isCompared_b7 a0 v2 S))
theorem e_X12_isCompared {G : jG} {d : Nat} {S0 : jSt} (hd0 : 2 ≤ d) (a0 : Int) (S : jSt) (h0 : 0 ≤ (a0)) : J G yX12_isCompared cX12_isCompared 2 (some .boolean) d S0 0 [(0, 2, a0)] [] S (f_X12_isCompared a0 S) := by
  unfold f_X12_isCompared
  refine j_aload_n 0 dX12_isCompared_0 rfl rfl ?_
  refine j_get (ci := 12) (k := 16) (t := 0) rfl in_X12 (Nat.le_of_ble_eq_true rfl) rfl rfl fl_X12_150 dX12_isCompared_1 (fun (v1 : Int) (hv1 : R32 (v1)) => ?_)
  refine j_iconst dX12_isCompared_4 ?_
  refine j_isub dX12_isCompared_5 ?_
  refine j_leti (w32_R _) (fun v2 hv2 => ?_)
  refine j_istore_n (lv' := [(1, 0, v2), (0, 2, a0)]) dX12_isCompared_6 rfl (Nat.le_of_ble_eq_true rfl) rfl ?_
  refine j_sub [1, 0] rfl ?_
  exact p_f_X12_isCompared_b7 hd0 a0 v2 S h0 hv2
theorem c_X12_isCompared {G : jG} (a0 : Int) (S : jSt) (h0 : 0 ≤ (a0)) : CT G yX12_isCompared cX12_isCompared 2 (some .boolean) 2 ([(2, a0)].map jval) S (f_X12_isCompared a0 S) := ct_of [(2, a0)] (by decide) rfl (Nat.le_of_ble_eq_true rfl) (e_X12_isCompared (Nat.le_refl _) a0 S h0)
-- X12_betweenOf
def f_X12_betweenOf_b112 (x0 : Int) (S : jSt) : Option (Int × jSt) :=
  some (x0, S)
theorem p_f_X12_betweenOf_b112 {G : jG} {d : Nat} {S0 : jSt} (hd0 : 3 ≤ d) : ∀ (x0 : Int) (S : jSt), (R32 (x0)) → J G yX12_betweenOf cX12_betweenOf 1 (some .int) d S0 112 [] [(0, x0)] S (f_X12_betweenOf_b112  x0 S) := by
  intro x0 S h0
  unfold f_X12_betweenOf_b112
  exact j_ireturn h0 dX12_betweenOf_112
def f_X12_betweenOf (a0 : Int) (S : jSt) : Option (Int × jSt) :=
  fget S a0 12 9 (fun v1 => if v1 = 43 then some (6, S) else fget S a0 12 9 (fun v2 => if v2 = 45 then some (7, S) else fget S a0 12 9 (fun v3 => if v3 = 42 then some (8, S) else fget S a0 12 9 (fun v4 => if v4 = 47 then some (9, S) else fcallv S a0 12 (f_X12_openNow a0 S) (fun v5 S6 => if v5 = 42 then fcallv S6 a0 12 (f_X12_isCompared a0 S6) (fun v7 S8 => if v7 = 0 then fcallv S8 a0 12 (f_X12_compareOf a0 S8) (fun v17 S18 => some (v17, S18)) else fcall (f_X12_w3 97 110 100 S8) (fun v9 S10 => fcallv S10 a0 12 (f_X12_isWord a0 v9 S10) (fun v11 S12 => if v11 = 0 then fcall (f_X12_w2 111 114 S12) (fun v13 S14 => fcallv S14 a0 12 (f_X12_isWord a0 v13 S14) (fun v15 S16 => if v15 = 0 then f_X12_betweenOf_b112 (-1) S16 else f_X12_betweenOf_b112 22 S16)) else f_X12_betweenOf_b112 21 S12))) else some ((-1), S6))))))
theorem e_X12_betweenOf {G : jG} {d : Nat} {S0 : jSt} (hd0 : 3 ≤ d) (a0 : Int) (S : jSt) (h0 : 0 ≤ (a0)) : J G yX12_betweenOf cX12_betweenOf 1 (some .int) d S0 0 [(0, 2, a0)] [] S (f_X12_betweenOf a0 S) := by
  unfold f_X12_betweenOf
  refine j_aload_n 0 dX12_betweenOf_0 rfl rfl ?_
  refine j_get (ci := 12) (k := 9) (t := 0) rfl in_X12 (Nat.le_of_ble_eq_true rfl) rfl rfl fl_X12_102 dX12_betweenOf_1 (fun (v1 : Int) (hv1 : R32 (v1)) => ?_)
  refine j_bipush dX12_betweenOf_4 (by decide) ?_
  refine j_icmp_ne (tgt := 12) hv1 (j_r32 43 rfl) dX12_betweenOf_6 rfl (fun _ => ?_) (fun _ => ?_)
  · refine j_aload_n 0 dX12_betweenOf_12 rfl rfl ?_
    refine j_get (ci := 12) (k := 9) (t := 0) rfl in_X12 (Nat.le_of_ble_eq_true rfl) rfl rfl fl_X12_102 dX12_betweenOf_13 (fun (v2 : Int) (hv2 : R32 (v2)) => ?_)
    refine j_bipush dX12_betweenOf_16 (by decide) ?_
    refine j_icmp_ne (tgt := 24) hv2 (j_r32 45 rfl) dX12_betweenOf_18 rfl (fun _ => ?_) (fun _ => ?_)
    · refine j_aload_n 0 dX12_betweenOf_24 rfl rfl ?_
      refine j_get (ci := 12) (k := 9) (t := 0) rfl in_X12 (Nat.le_of_ble_eq_true rfl) rfl rfl fl_X12_102 dX12_betweenOf_25 (fun (v3 : Int) (hv3 : R32 (v3)) => ?_)
      refine j_bipush dX12_betweenOf_28 (by decide) ?_
      refine j_icmp_ne (tgt := 36) hv3 (j_r32 42 rfl) dX12_betweenOf_30 rfl (fun _ => ?_) (fun _ => ?_)
      · refine j_aload_n 0 dX12_betweenOf_36 rfl rfl ?_
        refine j_get (ci := 12) (k := 9) (t := 0) rfl in_X12 (Nat.le_of_ble_eq_true rfl) rfl rfl fl_X12_102 dX12_betweenOf_37 (fun (v4 : Int) (hv4 : R32 (v4)) => ?_)
        refine j_bipush dX12_betweenOf_40 (by decide) ?_
        refine j_icmp_ne (tgt := 48) hv4 (j_r32 47 rfl) dX12_betweenOf_42 rfl (fun _ => ?_) (fun _ => ?_)
        · refine j_aload_n 0 dX12_betweenOf_48 rfl rfl ?_
          refine j_callV (ci := 12) (As := []) (st := []) kc_X12_openNow (c_X12_openNow a0 S h0) rfl lm_X12_167 ki_X12_openNow ke_X12_openNow rfl (Nat.le_of_ble_eq_true rfl) (Nat.le_trans (m := 3) (Nat.le_of_ble_eq_true rfl) hd0) dX12_betweenOf_49 (fun (v5 : Int) (S6 : jSt) (hv5 : R32 (v5)) => ?_)
          refine j_bipush dX12_betweenOf_52 (by decide) ?_
          refine j_icmp_eq (tgt := 59) hv5 (j_r32 42 rfl) dX12_betweenOf_54 rfl (fun _ => ?_) (fun _ => ?_)
          · refine j_aload_n 0 dX12_betweenOf_59 rfl rfl ?_
            refine j_callV (ci := 12) (As := []) (st := []) kc_X12_isCompared (c_X12_isCompared a0 S6 h0) rfl lm_X12_199 ki_X12_isCompared ke_X12_isCompared rfl (Nat.le_of_ble_eq_true rfl) (Nat.le_trans (m := 3) (Nat.le_of_ble_eq_true rfl) hd0) dX12_betweenOf_60 (fun (v7 : Int) (S8 : jSt) (hv7 : (v7) = 0 ∨ (v7) = 1) => ?_)
            refine j_if_ne (tgt := 71) (jZ_R hv7) dX12_betweenOf_63 rfl (fun _ => ?_) (fun _ => ?_)
            · refine j_aload_n 0 dX12_betweenOf_71 rfl rfl ?_
              refine j_bipush dX12_betweenOf_72 (by decide) ?_
              refine j_bipush dX12_betweenOf_74 (by decide) ?_
              refine j_bipush dX12_betweenOf_76 (by decide) ?_
              refine j_callS (As := [(0, 97), (0, 110), (0, 100)]) (st := [(2, a0)]) kc_X12_w3 (c_X12_w3 97 110 100 S8 (j_r32 97 rfl) (j_r32 110 rfl) (j_r32 100 rfl)) lm_X12_128 ks_X12_w3 rfl (Nat.le_of_ble_eq_true rfl) (Nat.le_trans (m := 3) (Nat.le_of_ble_eq_true rfl) hd0) dX12_betweenOf_78 (fun (v9 : Int) (S10 : jSt) (hv9 : R64 (v9)) => ?_)
              refine j_callV (ci := 12) (As := [(1, v9)]) (st := []) kc_X12_isWord (c_X12_isWord a0 v9 S10 h0 hv9) rfl lm_X12_185 ki_X12_isWord ke_X12_isWord rfl (Nat.le_of_ble_eq_true rfl) (Nat.le_trans (m := 3) (Nat.le_of_ble_eq_true rfl) hd0) dX12_betweenOf_81 (fun (v11 : Int) (S12 : jSt) (hv11 : (v11) = 0 ∨ (v11) = 1) => ?_)
              refine j_if_eq (tgt := 92) (jZ_R hv11) dX12_betweenOf_84 rfl (fun _ => ?_) (fun _ => ?_)
              · refine j_aload_n 0 dX12_betweenOf_92 rfl rfl ?_
                refine j_bipush dX12_betweenOf_93 (by decide) ?_
                refine j_bipush dX12_betweenOf_95 (by decide) ?_
                refine j_callS (As := [(0, 111), (0, 114)]) (st := [(2, a0)]) kc_X12_w2 (c_X12_w2 111 114 S12 (j_r32 111 rfl) (j_r32 114 rfl)) lm_X12_124 ks_X12_w2 rfl (Nat.le_of_ble_eq_true rfl) (Nat.le_trans (m := 3) (Nat.le_of_ble_eq_true rfl) hd0) dX12_betweenOf_97 (fun (v13 : Int) (S14 : jSt) (hv13 : R64 (v13)) => ?_)
                refine j_callV (ci := 12) (As := [(1, v13)]) (st := []) kc_X12_isWord (c_X12_isWord a0 v13 S14 h0 hv13) rfl lm_X12_185 ki_X12_isWord ke_X12_isWord rfl (Nat.le_of_ble_eq_true rfl) (Nat.le_trans (m := 3) (Nat.le_of_ble_eq_true rfl) hd0) dX12_betweenOf_100 (fun (v15 : Int) (S16 : jSt) (hv15 : (v15) = 0 ∨ (v15) = 1) => ?_)
                refine j_if_eq (tgt := 111) (jZ_R hv15) dX12_betweenOf_103 rfl (fun _ => ?_) (fun _ => ?_)
                · refine j_iconst dX12_betweenOf_111 ?_
                  refine j_sub [] rfl ?_
                  exact p_f_X12_betweenOf_b112 hd0 (-1) S16 (j_r32 (-1) rfl)
                · refine j_bipush dX12_betweenOf_106 (by decide) ?_
                  refine j_goto (tgt := 112) dX12_betweenOf_108 rfl ?_
                  refine j_sub [] rfl ?_
                  exact p_f_X12_betweenOf_b112 hd0 22 S16 (j_r32 22 rfl)
              · refine j_bipush dX12_betweenOf_87 (by decide) ?_
                refine j_goto (tgt := 112) dX12_betweenOf_89 rfl ?_
                refine j_sub [] rfl ?_
                exact p_f_X12_betweenOf_b112 hd0 21 S12 (j_r32 21 rfl)
            · refine j_aload_n 0 dX12_betweenOf_66 rfl rfl ?_
              refine j_callV (ci := 12) (As := []) (st := []) kc_X12_compareOf (c_X12_compareOf a0 S8 h0) rfl lm_X12_202 ki_X12_compareOf ke_X12_compareOf rfl (Nat.le_of_ble_eq_true rfl) (Nat.le_trans (m := 3) (Nat.le_of_ble_eq_true rfl) hd0) dX12_betweenOf_67 (fun (v17 : Int) (S18 : jSt) (hv17 : R32 (v17)) => ?_)
              exact j_ireturn hv17 dX12_betweenOf_70
          · refine j_iconst dX12_betweenOf_57 ?_
            exact j_ireturn (j_r32 (-1) rfl) dX12_betweenOf_58
        · refine j_bipush dX12_betweenOf_45 (by decide) ?_
          exact j_ireturn (j_r32 9 rfl) dX12_betweenOf_47
      · refine j_bipush dX12_betweenOf_33 (by decide) ?_
        exact j_ireturn (j_r32 8 rfl) dX12_betweenOf_35
    · refine j_bipush dX12_betweenOf_21 (by decide) ?_
      exact j_ireturn (j_r32 7 rfl) dX12_betweenOf_23
  · refine j_bipush dX12_betweenOf_9 (by decide) ?_
    exact j_ireturn (j_r32 6 rfl) dX12_betweenOf_11
theorem c_X12_betweenOf {G : jG} (a0 : Int) (S : jSt) (h0 : 0 ≤ (a0)) : CT G yX12_betweenOf cX12_betweenOf 1 (some .int) 3 ([(2, a0)].map jval) S (f_X12_betweenOf a0 S) := ct_of [(2, a0)] (by decide) rfl (Nat.le_of_ble_eq_true rfl) (e_X12_betweenOf (Nat.le_refl _) a0 S h0)
-- X12_partOf
def f_X12_partOf_b50 (x0 : Int) (S : jSt) : Option (Int × jSt) :=
  some (x0, S)
theorem p_f_X12_partOf_b50 {G : jG} {d : Nat} {S0 : jSt} (hd0 : 4 ≤ d) : ∀ (x0 : Int) (S : jSt), (R32 (x0)) → J G yX12_partOf cX12_partOf 2 (some .int) d S0 50 [] [(0, x0)] S (f_X12_partOf_b50  x0 S) := by
  intro x0 S h0
  unfold f_X12_partOf_b50
  exact j_ireturn h0 dX12_partOf_50
def f_X12_partOf_b130 (S : jSt) : Option (Int × jSt) :=
  some ((-1), S)
theorem p_f_X12_partOf_b130 {G : jG} {d : Nat} {S0 : jSt} (hd0 : 4 ≤ d) : ∀ (S : jSt), J G yX12_partOf cX12_partOf 2 (some .int) d S0 130 [] [] S (f_X12_partOf_b130   S) := by
  intro S
  unfold f_X12_partOf_b130
  refine j_iconst dX12_partOf_130 ?_
  exact j_ireturn (j_r32 (-1) rfl) dX12_partOf_131
def f_X12_partOf_b82 (x0 : Int) (S : jSt) : Option (Int × jSt) :=
  some (x0, S)
theorem p_f_X12_partOf_b82 {G : jG} {d : Nat} {S0 : jSt} (hd0 : 4 ≤ d) : ∀ (x0 : Int) (S : jSt), (R32 (x0)) → J G yX12_partOf cX12_partOf 2 (some .int) d S0 82 [] [(0, x0)] S (f_X12_partOf_b82  x0 S) := by
  intro x0 S h0
  unfold f_X12_partOf_b82
  exact j_ireturn h0 dX12_partOf_82
def f_X12_partOf_b81 (S : jSt) : Option (Int × jSt) :=
  f_X12_partOf_b82 (-1) S
theorem p_f_X12_partOf_b81 {G : jG} {d : Nat} {S0 : jSt} (hd0 : 4 ≤ d) : ∀ (S : jSt), J G yX12_partOf cX12_partOf 2 (some .int) d S0 81 [] [] S (f_X12_partOf_b81   S) := by
  intro S
  unfold f_X12_partOf_b81
  refine j_iconst dX12_partOf_81 ?_
  exact p_f_X12_partOf_b82 hd0 (-1) S (j_r32 (-1) rfl)
def f_X12_partOf_b107 (x0 : Int) (S : jSt) : Option (Int × jSt) :=
  some (x0, S)
theorem p_f_X12_partOf_b107 {G : jG} {d : Nat} {S0 : jSt} (hd0 : 4 ≤ d) : ∀ (x0 : Int) (S : jSt), (R32 (x0)) → J G yX12_partOf cX12_partOf 2 (some .int) d S0 107 [] [(0, x0)] S (f_X12_partOf_b107  x0 S) := by
  intro x0 S h0
  unfold f_X12_partOf_b107
  exact j_ireturn h0 dX12_partOf_107
def f_X12_partOf_b129 (x0 : Int) (S : jSt) : Option (Int × jSt) :=
  some (x0, S)
theorem p_f_X12_partOf_b129 {G : jG} {d : Nat} {S0 : jSt} (hd0 : 4 ≤ d) : ∀ (x0 : Int) (S : jSt), (R32 (x0)) → J G yX12_partOf cX12_partOf 2 (some .int) d S0 129 [] [(0, x0)] S (f_X12_partOf_b129  x0 S) := by
  intro x0 S h0
  unfold f_X12_partOf_b129
  exact j_ireturn h0 dX12_partOf_129
def f_X12_partOf (a0 : Int) (a1 : Int) (S : jSt) : Option (Int × jSt) :=
  if a1 = 40 then fget S a0 12 9 (fun v1 => if v1 = 41 then f_X12_partOf_b50 0 S else f_X12_partOf_b50 (-1) S) else if a1 = 41 then f_X12_partOf_b130 S else if a1 = 42 then fcall (f_X12_w4 116 104 101 110 S) (fun v2 S3 => fcallv S3 a0 12 (f_X12_isWord a0 v2 S3) (fun v4 S5 => if v4 = 0 then f_X12_partOf_b81 S5 else fcallv S5 a0 12 (f_X12_isCompared a0 S5) (fun v6 S7 => if v6 = 0 then f_X12_partOf_b81 S7 else f_X12_partOf_b82 43 S7))) else if a1 = 43 then fcall (f_X12_w4 101 108 115 101 S) (fun v8 S9 => fcallv S9 a0 12 (f_X12_isWord a0 v8 S9) (fun v10 S11 => if v10 = 0 then f_X12_partOf_b107 (-1) S11 else f_X12_partOf_b107 44 S11)) else if a1 = 44 then fcall (f_X12_w3 101 110 100 S) (fun v12 S13 => fcallv S13 a0 12 (f_X12_isWord a0 v12 S13) (fun v14 S15 => if v14 = 0 then f_X12_partOf_b129 (-1) S15 else f_X12_partOf_b129 0 S15)) else f_X12_partOf_b130 S
theorem e_X12_partOf {G : jG} {d : Nat} {S0 : jSt} (hd0 : 4 ≤ d) (a0 : Int) (a1 : Int) (S : jSt) (h0 : 0 ≤ (a0)) (h1 : R32 (a1)) : J G yX12_partOf cX12_partOf 2 (some .int) d S0 0 [(0, 2, a0), (1, 0, a1)] [] S (f_X12_partOf a0 a1 S) := by
  unfold f_X12_partOf
  refine j_iload_n 1 dX12_partOf_0 rfl rfl ?_
  refine j_ite (fun hc0 => ?_) (fun hc0 => ?_)
  · refine j_tableIn (tgt := 36) (off := 35) h1 dX12_partOf_1 (by omega) (by omega) (by rw [hc0]; rfl) rfl ?_
    refine j_aload_n 0 dX12_partOf_36 rfl rfl ?_
    refine j_get (ci := 12) (k := 9) (t := 0) rfl in_X12 (Nat.le_of_ble_eq_true rfl) rfl rfl fl_X12_102 dX12_partOf_37 (fun (v1 : Int) (hv1 : R32 (v1)) => ?_)
    refine j_bipush dX12_partOf_40 (by decide) ?_
    refine j_icmp_ne (tgt := 49) hv1 (j_r32 41 rfl) dX12_partOf_42 rfl (fun _ => ?_) (fun _ => ?_)
    · refine j_iconst dX12_partOf_49 ?_
      refine j_sub [] rfl ?_
      exact p_f_X12_partOf_b50 hd0 (-1) S (j_r32 (-1) rfl)
    · refine j_iconst dX12_partOf_45 ?_
      refine j_goto (tgt := 50) dX12_partOf_46 rfl ?_
      refine j_sub [] rfl ?_
      exact p_f_X12_partOf_b50 hd0 0 S (jZ_R jz0)
  refine j_ite (fun hc1 => ?_) (fun hc1 => ?_)
  · refine j_tableIn (tgt := 130) (off := 129) h1 dX12_partOf_1 (by omega) (by omega) (by rw [hc1]; rfl) rfl ?_
    refine j_sub [] rfl ?_
    exact p_f_X12_partOf_b130 hd0 S
  refine j_ite (fun hc2 => ?_) (fun hc2 => ?_)
  · refine j_tableIn (tgt := 51) (off := 50) h1 dX12_partOf_1 (by omega) (by omega) (by rw [hc2]; rfl) rfl ?_
    refine j_aload_n 0 dX12_partOf_51 rfl rfl ?_
    refine j_bipush dX12_partOf_52 (by decide) ?_
    refine j_bipush dX12_partOf_54 (by decide) ?_
    refine j_bipush dX12_partOf_56 (by decide) ?_
    refine j_bipush dX12_partOf_58 (by decide) ?_
    refine j_callS (As := [(0, 116), (0, 104), (0, 101), (0, 110)]) (st := [(2, a0)]) kc_X12_w4 (c_X12_w4 116 104 101 110 S (j_r32 116 rfl) (j_r32 104 rfl) (j_r32 101 rfl) (j_r32 110 rfl)) lm_X12_132 ks_X12_w4 rfl (Nat.le_of_ble_eq_true rfl) (Nat.le_trans (m := 4) (Nat.le_of_ble_eq_true rfl) hd0) dX12_partOf_60 (fun (v2 : Int) (S3 : jSt) (hv2 : R64 (v2)) => ?_)
    refine j_callV (ci := 12) (As := [(1, v2)]) (st := []) kc_X12_isWord (c_X12_isWord a0 v2 S3 h0 hv2) rfl lm_X12_185 ki_X12_isWord ke_X12_isWord rfl (Nat.le_of_ble_eq_true rfl) (Nat.le_trans (m := 4) (Nat.le_of_ble_eq_true rfl) hd0) dX12_partOf_63 (fun (v4 : Int) (S5 : jSt) (hv4 : (v4) = 0 ∨ (v4) = 1) => ?_)
    refine j_if_eq (tgt := 81) (jZ_R hv4) dX12_partOf_66 rfl (fun _ => ?_) (fun _ => ?_)
    · refine j_sub [] rfl ?_
      exact p_f_X12_partOf_b81 hd0 S5
    · refine j_aload_n 0 dX12_partOf_69 rfl rfl ?_
      refine j_callV (ci := 12) (As := []) (st := []) kc_X12_isCompared (c_X12_isCompared a0 S5 h0) rfl lm_X12_199 ki_X12_isCompared ke_X12_isCompared rfl (Nat.le_of_ble_eq_true rfl) (Nat.le_trans (m := 4) (Nat.le_of_ble_eq_true rfl) hd0) dX12_partOf_70 (fun (v6 : Int) (S7 : jSt) (hv6 : (v6) = 0 ∨ (v6) = 1) => ?_)
      refine j_if_eq (tgt := 81) (jZ_R hv6) dX12_partOf_73 rfl (fun _ => ?_) (fun _ => ?_)
      · refine j_sub [] rfl ?_
        exact p_f_X12_partOf_b81 hd0 S7
      · refine j_bipush dX12_partOf_76 (by decide) ?_
        refine j_goto (tgt := 82) dX12_partOf_78 rfl ?_
        refine j_sub [] rfl ?_
        exact p_f_X12_partOf_b82 hd0 43 S7 (j_r32 43 rfl)
  refine j_ite (fun hc3 => ?_) (fun hc3 => ?_)
  · refine j_tableIn (tgt := 83) (off := 82) h1 dX12_partOf_1 (by omega) (by omega) (by rw [hc3]; rfl) rfl ?_
    refine j_aload_n 0 dX12_partOf_83 rfl rfl ?_
    refine j_bipush dX12_partOf_84 (by decide) ?_
    refine j_bipush dX12_partOf_86 (by decide) ?_
    refine j_bipush dX12_partOf_88 (by decide) ?_
    refine j_bipush dX12_partOf_90 (by decide) ?_
    refine j_callS (As := [(0, 101), (0, 108), (0, 115), (0, 101)]) (st := [(2, a0)]) kc_X12_w4 (c_X12_w4 101 108 115 101 S (j_r32 101 rfl) (j_r32 108 rfl) (j_r32 115 rfl) (j_r32 101 rfl)) lm_X12_132 ks_X12_w4 rfl (Nat.le_of_ble_eq_true rfl) (Nat.le_trans (m := 4) (Nat.le_of_ble_eq_true rfl) hd0) dX12_partOf_92 (fun (v8 : Int) (S9 : jSt) (hv8 : R64 (v8)) => ?_)
    refine j_callV (ci := 12) (As := [(1, v8)]) (st := []) kc_X12_isWord (c_X12_isWord a0 v8 S9 h0 hv8) rfl lm_X12_185 ki_X12_isWord ke_X12_isWord rfl (Nat.le_of_ble_eq_true rfl) (Nat.le_trans (m := 4) (Nat.le_of_ble_eq_true rfl) hd0) dX12_partOf_95 (fun (v10 : Int) (S11 : jSt) (hv10 : (v10) = 0 ∨ (v10) = 1) => ?_)
    refine j_if_eq (tgt := 106) (jZ_R hv10) dX12_partOf_98 rfl (fun _ => ?_) (fun _ => ?_)
    · refine j_iconst dX12_partOf_106 ?_
      refine j_sub [] rfl ?_
      exact p_f_X12_partOf_b107 hd0 (-1) S11 (j_r32 (-1) rfl)
    · refine j_bipush dX12_partOf_101 (by decide) ?_
      refine j_goto (tgt := 107) dX12_partOf_103 rfl ?_
      refine j_sub [] rfl ?_
      exact p_f_X12_partOf_b107 hd0 44 S11 (j_r32 44 rfl)
  refine j_ite (fun hc4 => ?_) (fun hc4 => ?_)
  · refine j_tableIn (tgt := 108) (off := 107) h1 dX12_partOf_1 (by omega) (by omega) (by rw [hc4]; rfl) rfl ?_
    refine j_aload_n 0 dX12_partOf_108 rfl rfl ?_
    refine j_bipush dX12_partOf_109 (by decide) ?_
    refine j_bipush dX12_partOf_111 (by decide) ?_
    refine j_bipush dX12_partOf_113 (by decide) ?_
    refine j_callS (As := [(0, 101), (0, 110), (0, 100)]) (st := [(2, a0)]) kc_X12_w3 (c_X12_w3 101 110 100 S (j_r32 101 rfl) (j_r32 110 rfl) (j_r32 100 rfl)) lm_X12_128 ks_X12_w3 rfl (Nat.le_of_ble_eq_true rfl) (Nat.le_trans (m := 4) (Nat.le_of_ble_eq_true rfl) hd0) dX12_partOf_115 (fun (v12 : Int) (S13 : jSt) (hv12 : R64 (v12)) => ?_)
    refine j_callV (ci := 12) (As := [(1, v12)]) (st := []) kc_X12_isWord (c_X12_isWord a0 v12 S13 h0 hv12) rfl lm_X12_185 ki_X12_isWord ke_X12_isWord rfl (Nat.le_of_ble_eq_true rfl) (Nat.le_trans (m := 4) (Nat.le_of_ble_eq_true rfl) hd0) dX12_partOf_118 (fun (v14 : Int) (S15 : jSt) (hv14 : (v14) = 0 ∨ (v14) = 1) => ?_)
    refine j_if_eq (tgt := 128) (jZ_R hv14) dX12_partOf_121 rfl (fun _ => ?_) (fun _ => ?_)
    · refine j_iconst dX12_partOf_128 ?_
      refine j_sub [] rfl ?_
      exact p_f_X12_partOf_b129 hd0 (-1) S15 (j_r32 (-1) rfl)
    · refine j_iconst dX12_partOf_124 ?_
      refine j_goto (tgt := 129) dX12_partOf_125 rfl ?_
      refine j_sub [] rfl ?_
      exact p_f_X12_partOf_b129 hd0 0 S15 (jZ_R jz0)
  refine j_tableOut (tgt := 130) h1 dX12_partOf_1 (by omega) rfl ?_
  refine j_sub [] rfl ?_
  exact p_f_X12_partOf_b130 hd0 S
theorem c_X12_partOf {G : jG} (a0 : Int) (a1 : Int) (S : jSt) (h0 : 0 ≤ (a0)) (h1 : R32 (a1)) : CT G yX12_partOf cX12_partOf 2 (some .int) 4 ([(2, a0), (0, a1)].map jval) S (f_X12_partOf a0 a1 S) := ct_of [(2, a0), (0, a1)] (by decide) rfl (Nat.le_of_ble_eq_true rfl) (e_X12_partOf (Nat.le_refl _) a0 a1 S h0 h1)
-- X12_behindOne
def f_X12_behindOne_b122 (x0 : Int) (S : jSt) : Option (Int × jSt) :=
  fcallv S x0 12 (f_X12_endOne x0 S) (fun v20 S21 => some (v20, S21))
theorem p_f_X12_behindOne_b122 {G : jG} {d : Nat} {S0 : jSt} (hd0 : 5 ≤ d) : ∀ (x0 : Int) (S : jSt), (0 ≤ (x0)) → J G yX12_behindOne cX12_behindOne 4 (some .int) d S0 122 [(0, 2, x0)] [] S (f_X12_behindOne_b122  x0 S) := by
  intro x0 S h0
  unfold f_X12_behindOne_b122
  refine j_aload_n 0 dX12_behindOne_122 rfl rfl ?_
  refine j_callV (ci := 12) (As := []) (st := []) kc_X12_endOne (c_X12_endOne x0 S h0) rfl lm_X12_179 ki_X12_endOne ke_X12_endOne rfl (Nat.le_of_ble_eq_true rfl) (Nat.le_trans (m := 5) (Nat.le_of_ble_eq_true rfl) hd0) dX12_behindOne_123 (fun (v20 : Int) (S21 : jSt) (hv20 : R32 (v20)) => ?_)
  exact j_ireturn hv20 dX12_behindOne_126
def f_X12_behindOne_b26 (x0 : Int) (x1 : Int) (x2 : Int) (x3 : Int) (S : jSt) : Option (Int × jSt) :=
  fcallv S x2 12 (f_X12_settle x2 x3 S) (fun v28 S29 => fgetr S29 x0 12 15 (fun v30 => fget S29 x0 12 16 (fun v31 => fast S29 v30 v31 1 x1 (fun S32 => fget S32 x0 12 16 (fun v33 => fput S32 x0 12 16 (w32 (v33 + 1)) (fun S34 => fput S34 x0 12 18 0 (fun S35 => fcallv S35 x0 12 (f_X12_nextToken x0 S35) (fun v36 S37 => some (0, S37)))))))))
theorem p_f_X12_behindOne_b26 {G : jG} {d : Nat} {S0 : jSt} (hd0 : 5 ≤ d) : ∀ (x0 : Int) (x1 : Int) (x2 : Int) (x3 : Int) (S : jSt), (0 ≤ (x0)) → (R32 (x1)) → (0 ≤ (x2)) → (R32 (x3)) → J G yX12_behindOne cX12_behindOne 4 (some .int) d S0 26 [(0, 2, x0), (1, 0, x1)] [(0, x3), (2, x2)] S (f_X12_behindOne_b26  x0 x1 x2 x3 S) := by
  intro x0 x1 x2 x3 S h0 h1 h2 h3
  unfold f_X12_behindOne_b26
  refine j_callV (ci := 12) (As := [(0, x3)]) (st := []) kc_X12_settle (c_X12_settle x2 x3 S h2 h3) rfl lm_X12_193 ki_X12_settle ke_X12_settle rfl (Nat.le_of_ble_eq_true rfl) (Nat.le_trans (m := 5) (Nat.le_of_ble_eq_true rfl) hd0) dX12_behindOne_26 (fun v28 S29 _ => ?_)
  refine j_aload_n 0 dX12_behindOne_29 rfl rfl ?_
  refine j_getr (ci := 12) (k := 15) rfl in_X12 (Nat.le_of_ble_eq_true rfl) rfl rfl fl_X12_29 dX12_behindOne_30 (fun (v30 : Int) (hv30 : 0 ≤ v30) => ?_)
  refine j_aload_n 0 dX12_behindOne_33 rfl rfl ?_
  refine j_get (ci := 12) (k := 16) (t := 0) rfl in_X12 (Nat.le_of_ble_eq_true rfl) rfl rfl fl_X12_150 dX12_behindOne_34 (fun (v31 : Int) (hv31 : R32 (v31)) => ?_)
  refine j_iload_n 1 dX12_behindOne_37 rfl rfl ?_
  refine j_iastore hv31 h1 dX12_behindOne_38 (fun S32 => ?_)
  refine j_aload_n 0 dX12_behindOne_39 rfl rfl ?_
  refine j_dup dX12_behindOne_40 (fun h => nomatch h) ?_
  refine j_get (ci := 12) (k := 16) (t := 0) rfl in_X12 (Nat.le_of_ble_eq_true rfl) rfl rfl fl_X12_150 dX12_behindOne_41 (fun (v33 : Int) (hv33 : R32 (v33)) => ?_)
  refine j_iconst dX12_behindOne_44 ?_
  refine j_iadd dX12_behindOne_45 ?_
  refine j_puti (ci := 12) (k := 16) (ty0 := tyX12) rfl in_X12 (Nat.le_of_ble_eq_true rfl) rfl tyX12_ok nmX12 rfl rfl (by decide +kernel) (w32_R _) fl_X12_150 dX12_behindOne_46 (fun S34 => ?_)
  refine j_aload_n 0 dX12_behindOne_49 rfl rfl ?_
  refine j_iconst dX12_behindOne_50 ?_
  refine j_putz (ci := 12) (k := 18) (ty0 := tyX12) rfl in_X12 (Nat.le_of_ble_eq_true rfl) rfl tyX12_ok nmX12 rfl rfl (by decide +kernel) jz0 fl_X12_196 dX12_behindOne_51 (fun S35 => ?_)
  refine j_aload_n 0 dX12_behindOne_54 rfl rfl ?_
  refine j_callV (ci := 12) (As := []) (st := []) kc_X12_nextToken (c_X12_nextToken x0 S35 h0) rfl lm_X12_170 ki_X12_nextToken ke_X12_nextToken rfl (Nat.le_of_ble_eq_true rfl) (Nat.le_trans (m := 5) (Nat.le_of_ble_eq_true rfl) hd0) dX12_behindOne_55 (fun v36 S37 _ => ?_)
  refine j_iconst dX12_behindOne_58 ?_
  exact j_ireturn (jZ_R jz0) dX12_behindOne_59
def f_X12_behindOne (a0 : Int) (S : jSt) : Option (Int × jSt) :=
  fcallv S a0 12 (f_X12_betweenOf a0 S) (fun v1 S2 => if v1 < 0 then fcallv S2 a0 12 (f_X12_openNow a0 S2) (fun v3 S4 => fcallv S4 a0 12 (f_X12_partOf a0 v3 S4) (fun v5 S6 => if 0 ≤ v5 then fcallv S6 a0 12 (f_X12_settle a0 1 S6) (fun v7 S8 => fcallv S8 a0 12 (f_X12_nextToken a0 S8) (fun v9 S10 => if v5 = 0 then fget S10 a0 12 17 (fun v16 => fput S10 a0 12 17 (w32 (v16 - 1)) (fun S17 => fget S17 a0 12 16 (fun v18 => fput S17 a0 12 16 (w32 (v18 - 1)) (fun S19 => if v3 = 44 then fcallv S19 a0 12 (f_X12_emit a0 3 0 S19) (fun v22 S23 => f_X12_behindOne_b122 a0 S23) else f_X12_behindOne_b122 a0 S19)))) else fgetr S10 a0 12 15 (fun v11 => fcallv S10 a0 12 (f_X12_openAt a0 S10) (fun v12 S13 => fast S13 v11 v12 1 v5 (fun S14 => fput S14 a0 12 18 0 (fun S15 => some (0, S15))))))) else some ((-1), S6))) else fcall (f_X12_rank v1 S2) (fun v24 S25 => if v24 = 4 then f_X12_behindOne_b26 a0 v1 a0 5 S25 else fcall (f_X12_rank v1 S25) (fun v26 S27 => f_X12_behindOne_b26 a0 v1 a0 v26 S27)))
theorem e_X12_behindOne {G : jG} {d : Nat} {S0 : jSt} (hd0 : 5 ≤ d) (a0 : Int) (S : jSt) (h0 : 0 ≤ (a0)) : J G yX12_behindOne cX12_behindOne 4 (some .int) d S0 0 [(0, 2, a0)] [] S (f_X12_behindOne a0 S) := by
  unfold f_X12_behindOne
  refine j_aload_n 0 dX12_behindOne_0 rfl rfl ?_
  refine j_callV (ci := 12) (As := []) (st := []) kc_X12_betweenOf (c_X12_betweenOf a0 S h0) rfl lm_X12_205 ki_X12_betweenOf ke_X12_betweenOf rfl (Nat.le_of_ble_eq_true rfl) (Nat.le_trans (m := 5) (Nat.le_of_ble_eq_true rfl) hd0) dX12_behindOne_1 (fun (v1 : Int) (S2 : jSt) (hv1 : R32 (v1)) => ?_)
  refine j_istore_n (lv' := [(1, 0, v1), (0, 2, a0)]) dX12_behindOne_4 rfl (Nat.le_of_ble_eq_true rfl) rfl ?_
  refine j_iload_n 0 dX12_behindOne_5 rfl rfl ?_
  refine j_if_lt (tgt := 60) hv1 dX12_behindOne_6 rfl (fun _ => ?_) (fun _ => ?_)
  · refine j_aload_n 1 dX12_behindOne_60 rfl rfl ?_
    refine j_callV (ci := 12) (As := []) (st := []) kc_X12_openNow (c_X12_openNow a0 S2 h0) rfl lm_X12_167 ki_X12_openNow ke_X12_openNow rfl (Nat.le_of_ble_eq_true rfl) (Nat.le_trans (m := 5) (Nat.le_of_ble_eq_true rfl) hd0) dX12_behindOne_61 (fun (v3 : Int) (S4 : jSt) (hv3 : R32 (v3)) => ?_)
    refine j_istore_n (lv' := [(2, 0, v3), (1, 0, v1), (0, 2, a0)]) dX12_behindOne_64 rfl (Nat.le_of_ble_eq_true rfl) rfl ?_
    refine j_aload_n 2 dX12_behindOne_65 rfl rfl ?_
    refine j_iload_n 0 dX12_behindOne_66 rfl rfl ?_
    refine j_callV (ci := 12) (As := [(0, v3)]) (st := []) kc_X12_partOf (c_X12_partOf a0 v3 S4 h0 hv3) rfl lm_X12_208 ki_X12_partOf ke_X12_partOf rfl (Nat.le_of_ble_eq_true rfl) (Nat.le_trans (m := 5) (Nat.le_of_ble_eq_true rfl) hd0) dX12_behindOne_67 (fun (v5 : Int) (S6 : jSt) (hv5 : R32 (v5)) => ?_)
    refine j_istore_n (lv' := [(3, 0, v5), (2, 0, v3), (1, 0, v1), (0, 2, a0)]) dX12_behindOne_70 rfl (Nat.le_of_ble_eq_true rfl) rfl ?_
    refine j_iload_n 0 dX12_behindOne_71 rfl rfl ?_
    refine j_if_ge (tgt := 77) hv5 dX12_behindOne_72 rfl (fun _ => ?_) (fun _ => ?_)
    · refine j_aload_n 3 dX12_behindOne_77 rfl rfl ?_
      refine j_iconst dX12_behindOne_78 ?_
      refine j_callV (ci := 12) (As := [(0, 1)]) (st := []) kc_X12_settle (c_X12_settle a0 1 S6 h0 (jZ_R jz1)) rfl lm_X12_193 ki_X12_settle ke_X12_settle rfl (Nat.le_of_ble_eq_true rfl) (Nat.le_trans (m := 5) (Nat.le_of_ble_eq_true rfl) hd0) dX12_behindOne_79 (fun v7 S8 _ => ?_)
      refine j_aload_n 3 dX12_behindOne_82 rfl rfl ?_
      refine j_callV (ci := 12) (As := []) (st := []) kc_X12_nextToken (c_X12_nextToken a0 S8 h0) rfl lm_X12_170 ki_X12_nextToken ke_X12_nextToken rfl (Nat.le_of_ble_eq_true rfl) (Nat.le_trans (m := 5) (Nat.le_of_ble_eq_true rfl) hd0) dX12_behindOne_83 (fun v9 S10 _ => ?_)
      refine j_iload_n 0 dX12_behindOne_86 rfl rfl ?_
      refine j_if_ne (tgt := 127) hv5 dX12_behindOne_87 rfl (fun _ => ?_) (fun _ => ?_)
      · refine j_aload_n 3 dX12_behindOne_127 rfl rfl ?_
        refine j_getr (ci := 12) (k := 15) rfl in_X12 (Nat.le_of_ble_eq_true rfl) rfl rfl fl_X12_29 dX12_behindOne_128 (fun (v11 : Int) (hv11 : 0 ≤ v11) => ?_)
        refine j_aload_n 3 dX12_behindOne_131 rfl rfl ?_
        refine j_callV (ci := 12) (As := []) (st := [(2, v11)]) kc_X12_openAt (c_X12_openAt a0 S10 h0) rfl lm_X12_163 ki_X12_openAt ke_X12_openAt rfl (Nat.le_of_ble_eq_true rfl) (Nat.le_trans (m := 5) (Nat.le_of_ble_eq_true rfl) hd0) dX12_behindOne_132 (fun (v12 : Int) (S13 : jSt) (hv12 : R32 (v12)) => ?_)
        refine j_iload_n 0 dX12_behindOne_135 rfl rfl ?_
        refine j_iastore hv12 hv5 dX12_behindOne_136 (fun S14 => ?_)
        refine j_aload_n 3 dX12_behindOne_137 rfl rfl ?_
        refine j_iconst dX12_behindOne_138 ?_
        refine j_putz (ci := 12) (k := 18) (ty0 := tyX12) rfl in_X12 (Nat.le_of_ble_eq_true rfl) rfl tyX12_ok nmX12 rfl rfl (by decide +kernel) jz0 fl_X12_196 dX12_behindOne_139 (fun S15 => ?_)
        refine j_iconst dX12_behindOne_142 ?_
        exact j_ireturn (jZ_R jz0) dX12_behindOne_143
      · refine j_aload_n 3 dX12_behindOne_90 rfl rfl ?_
        refine j_dup dX12_behindOne_91 (fun h => nomatch h) ?_
        refine j_get (ci := 12) (k := 17) (t := 0) rfl in_X12 (Nat.le_of_ble_eq_true rfl) rfl rfl fl_X12_160 dX12_behindOne_92 (fun (v16 : Int) (hv16 : R32 (v16)) => ?_)
        refine j_iconst dX12_behindOne_95 ?_
        refine j_isub dX12_behindOne_96 ?_
        refine j_puti (ci := 12) (k := 17) (ty0 := tyX12) rfl in_X12 (Nat.le_of_ble_eq_true rfl) rfl tyX12_ok nmX12 rfl rfl (by decide +kernel) (w32_R _) fl_X12_160 dX12_behindOne_97 (fun S17 => ?_)
        refine j_aload_n 3 dX12_behindOne_100 rfl rfl ?_
        refine j_dup dX12_behindOne_101 (fun h => nomatch h) ?_
        refine j_get (ci := 12) (k := 16) (t := 0) rfl in_X12 (Nat.le_of_ble_eq_true rfl) rfl rfl fl_X12_150 dX12_behindOne_102 (fun (v18 : Int) (hv18 : R32 (v18)) => ?_)
        refine j_iconst dX12_behindOne_105 ?_
        refine j_isub dX12_behindOne_106 ?_
        refine j_puti (ci := 12) (k := 16) (ty0 := tyX12) rfl in_X12 (Nat.le_of_ble_eq_true rfl) rfl tyX12_ok nmX12 rfl rfl (by decide +kernel) (w32_R _) fl_X12_150 dX12_behindOne_107 (fun S19 => ?_)
        refine j_iload_n 1 dX12_behindOne_110 rfl rfl ?_
        refine j_bipush dX12_behindOne_111 (by decide) ?_
        refine j_icmp_ne (tgt := 122) hv3 (j_r32 44 rfl) dX12_behindOne_113 rfl (fun _ => ?_) (fun _ => ?_)
        · refine j_sub [3] rfl ?_
          exact p_f_X12_behindOne_b122 hd0 a0 S19 h0
        · refine j_aload_n 3 dX12_behindOne_116 rfl rfl ?_
          refine j_iconst dX12_behindOne_117 ?_
          refine j_iconst dX12_behindOne_118 ?_
          refine j_callV (ci := 12) (As := [(0, 3), (0, 0)]) (st := []) kc_X12_emit (c_X12_emit a0 3 0 S19 h0 (j_r32 3 rfl) (jZ_R jz0)) rfl lm_X12_156 ki_X12_emit ke_X12_emit rfl (Nat.le_of_ble_eq_true rfl) (Nat.le_trans (m := 5) (Nat.le_of_ble_eq_true rfl) hd0) dX12_behindOne_119 (fun v22 S23 _ => ?_)
          refine j_sub [3] rfl ?_
          exact p_f_X12_behindOne_b122 hd0 a0 S23 h0
    · refine j_iconst dX12_behindOne_75 ?_
      exact j_ireturn (j_r32 (-1) rfl) dX12_behindOne_76
  · refine j_aload_n 1 dX12_behindOne_9 rfl rfl ?_
    refine j_iload_n 0 dX12_behindOne_10 rfl rfl ?_
    refine j_callS (As := [(0, v1)]) (st := [(2, a0)]) kc_X12_rank (c_X12_rank v1 S2 hv1) lm_X12_153 ks_X12_rank rfl (Nat.le_of_ble_eq_true rfl) (Nat.le_trans (m := 5) (Nat.le_of_ble_eq_true rfl) hd0) dX12_behindOne_11 (fun (v24 : Int) (S25 : jSt) (hv24 : R32 (v24)) => ?_)
    refine j_iconst dX12_behindOne_14 ?_
    refine j_icmp_ne (tgt := 22) hv24 (j_r32 4 rfl) dX12_behindOne_15 rfl (fun _ => ?_) (fun _ => ?_)
    · refine j_iload_n 0 dX12_behindOne_22 rfl rfl ?_
      refine j_callS (As := [(0, v1)]) (st := [(2, a0)]) kc_X12_rank (c_X12_rank v1 S25 hv1) lm_X12_153 ks_X12_rank rfl (Nat.le_of_ble_eq_true rfl) (Nat.le_trans (m := 5) (Nat.le_of_ble_eq_true rfl) hd0) dX12_behindOne_23 (fun (v26 : Int) (S27 : jSt) (hv26 : R32 (v26)) => ?_)
      refine j_sub [1, 0] rfl ?_
      exact p_f_X12_behindOne_b26 hd0 a0 v1 a0 v26 S27 h0 hv1 h0 hv26
    · refine j_iconst dX12_behindOne_18 ?_
      refine j_goto (tgt := 26) dX12_behindOne_19 rfl ?_
      refine j_sub [1, 0] rfl ?_
      exact p_f_X12_behindOne_b26 hd0 a0 v1 a0 5 S25 h0 hv1 h0 (j_r32 5 rfl)
theorem c_X12_behindOne {G : jG} (a0 : Int) (S : jSt) (h0 : 0 ≤ (a0)) : CT G yX12_behindOne cX12_behindOne 4 (some .int) 5 ([(2, a0)].map jval) S (f_X12_behindOne a0 S) := ct_of [(2, a0)] (by decide) rfl (Nat.le_of_ble_eq_true rfl) (e_X12_behindOne (Nat.le_refl _) a0 S h0)
-- X12_pricesOf
def f_X12_pricesOf_b84 (S : jSt) : Option (Int × jSt) :=
  some ((-1), S)
theorem p_f_X12_pricesOf_b84 {G : jG} {d : Nat} {S0 : jSt} (hd0 : 2 ≤ d) : ∀ (S : jSt), J G yX12_pricesOf cX12_pricesOf 8 (some .int) d S0 84 [] [] S (f_X12_pricesOf_b84   S) := by
  intro S
  unfold f_X12_pricesOf_b84
  refine j_iconst dX12_pricesOf_84 ?_
  exact j_ireturn (j_r32 (-1) rfl) dX12_pricesOf_85
def f_X12_pricesOf_b126 (r11 : Int → Int → Int → Int → Int → Int → Int → jSt → Option (Int × jSt)) (x0 : Int) (x1 : Int) (x2 : Int) (x3 : Int) (x4 : Int) (x5 : Int) (x6 : Int) (S : jSt) : Option (Int × jSt) :=
  flet (w32 (x6 + 1)) (fun v23 => r11 x0 x1 x2 x3 x4 x5 v23 S)
theorem p_f_X12_pricesOf_b126 {G : jG} {d : Nat} {S0 : jSt} (hd0 : 2 ≤ d) {r11 : Int → Int → Int → Int → Int → Int → Int → jSt → Option (Int × jSt)} (k11 : ∀ (x0 : Int) (x1 : Int) (x2 : Int) (x3 : Int) (x4 : Int) (x5 : Int) (x6 : Int) (S : jSt), (0 ≤ (x0)) → (R32 (x1)) → (R32 (x2)) → (R32 (x3)) → (R32 (x4)) → (R32 (x5)) → (R32 (x6)) → J G yX12_pricesOf cX12_pricesOf 8 (some .int) d S0 11 [(0, 2, x0), (1, 0, x1), (2, 0, x2), (3, 0, x3), (4, 0, x4), (5, 0, x5), (6, 0, x6)] [] S (r11 x0 x1 x2 x3 x4 x5 x6 S)) : ∀ (x0 : Int) (x1 : Int) (x2 : Int) (x3 : Int) (x4 : Int) (x5 : Int) (x6 : Int) (S : jSt), (0 ≤ (x0)) → (R32 (x1)) → (R32 (x2)) → (R32 (x3)) → (R32 (x4)) → (R32 (x5)) → (R32 (x6)) → J G yX12_pricesOf cX12_pricesOf 8 (some .int) d S0 126 [(0, 2, x0), (1, 0, x1), (2, 0, x2), (3, 0, x3), (4, 0, x4), (5, 0, x5), (6, 0, x6)] [] S (f_X12_pricesOf_b126 r11 x0 x1 x2 x3 x4 x5 x6 S) := by
  intro x0 x1 x2 x3 x4 x5 x6 S h0 h1 h2 h3 h4 h5 h6
  unfold f_X12_pricesOf_b126
  refine j_iincL (q := 6) dX12_pricesOf_126 rfl (Nat.le_of_ble_eq_true rfl) (fun v23 hv23 => ?_)
  refine j_lv (lv' := [(6, 0, v23), (0, 2, x0), (1, 0, x1), (2, 0, x2), (3, 0, x3), (4, 0, x4), (5, 0, x5)]) rfl ?_
  refine j_goto (tgt := 11) dX12_pricesOf_129 rfl ?_
  refine j_sub [1, 2, 3, 4, 5, 6, 0] rfl ?_
  exact k11 x0 x1 x2 x3 x4 x5 v23 S h0 h1 h2 h3 h4 h5 hv23
def f_X12_pricesOf_b11B (r11 : Int → Int → Int → Int → Int → Int → Int → jSt → Option (Int × jSt)) (x0 : Int) (x1 : Int) (x2 : Int) (x3 : Int) (x4 : Int) (x5 : Int) (x6 : Int) (S : jSt) : Option (Int × jSt) :=
  fgetr S x0 12 0 (fun v1 => fald S v1 5 1 (fun v2 => if v2 ≤ x6 then some (x5, S) else fcall (f_X12_has x1 x6 S) (fun v3 S4 => if v3 = 0 then f_X12_pricesOf_b126 r11 x0 x1 x2 x3 x4 x5 x6 S4 else flet (w32 (153 + (w32 (3 * x6)))) (fun v5 => fgetr S4 x0 12 0 (fun v6 => fald S4 v6 v5 1 (fun v7 => if v7 = x2 then f_X12_pricesOf_b84 S4 else fgetr S4 x0 12 0 (fun v8 => fald S4 v8 v5 1 (fun v9 => fcall (f_X12_has x4 v9 S4) (fun v10 S11 => if v10 = 0 then fgetr S11 x0 12 0 (fun v12 => fald S11 v12 (w32 (v5 + 1)) 1 (fun v13 => if (iand32 x3 v13) = 0 then fgetr S11 x0 12 0 (fun v14 => fald S11 v14 v5 1 (fun v15 => flet (ior32 x4 (ishl32 1 v15)) (fun v16 => fgetr S11 x0 12 0 (fun v17 => fald S11 v17 (w32 (v5 + 1)) 1 (fun v18 => flet (ior32 x3 v18) (fun v19 => fgetr S11 x0 12 0 (fun v20 => fald S11 v20 (w32 (v5 + 2)) 1 (fun v21 => flet (w32 (x5 + v21)) (fun v22 => f_X12_pricesOf_b126 r11 x0 x1 x2 v19 v16 v22 x6 S11))))))))) else f_X12_pricesOf_b84 S11)) else f_X12_pricesOf_b84 S11)))))))))
theorem p_f_X12_pricesOf_b11B {G : jG} {d : Nat} {S0 : jSt} (hd0 : 2 ≤ d) {r11 : Int → Int → Int → Int → Int → Int → Int → jSt → Option (Int × jSt)} (k11 : ∀ (x0 : Int) (x1 : Int) (x2 : Int) (x3 : Int) (x4 : Int) (x5 : Int) (x6 : Int) (S : jSt), (0 ≤ (x0)) → (R32 (x1)) → (R32 (x2)) → (R32 (x3)) → (R32 (x4)) → (R32 (x5)) → (R32 (x6)) → J G yX12_pricesOf cX12_pricesOf 8 (some .int) d S0 11 [(0, 2, x0), (1, 0, x1), (2, 0, x2), (3, 0, x3), (4, 0, x4), (5, 0, x5), (6, 0, x6)] [] S (r11 x0 x1 x2 x3 x4 x5 x6 S)) : ∀ (x0 : Int) (x1 : Int) (x2 : Int) (x3 : Int) (x4 : Int) (x5 : Int) (x6 : Int) (S : jSt), (0 ≤ (x0)) → (R32 (x1)) → (R32 (x2)) → (R32 (x3)) → (R32 (x4)) → (R32 (x5)) → (R32 (x6)) → J G yX12_pricesOf cX12_pricesOf 8 (some .int) d S0 11 [(0, 2, x0), (1, 0, x1), (2, 0, x2), (3, 0, x3), (4, 0, x4), (5, 0, x5), (6, 0, x6)] [] S (f_X12_pricesOf_b11B r11 x0 x1 x2 x3 x4 x5 x6 S) := by
  intro x0 x1 x2 x3 x4 x5 x6 S h0 h1 h2 h3 h4 h5 h6
  unfold f_X12_pricesOf_b11B
  refine j_iload 6 dX12_pricesOf_11 rfl ?_
  refine j_aload_n 0 dX12_pricesOf_13 rfl rfl ?_
  refine j_getr (ci := 12) (k := 0) rfl in_X12 (Nat.le_of_ble_eq_true rfl) rfl rfl fl_X12_7 dX12_pricesOf_14 (fun (v1 : Int) (hv1 : 0 ≤ v1) => ?_)
  refine j_iconst dX12_pricesOf_17 ?_
  refine j_iaload (j_r32 5 rfl) dX12_pricesOf_18 (fun (v2 : Int) (hv2 : R32 (v2)) => ?_)
  refine j_icmp_ge (tgt := 132) h6 hv2 dX12_pricesOf_19 rfl (fun _ => ?_) (fun _ => ?_)
  · refine j_iload 5 dX12_pricesOf_132 rfl ?_
    exact j_ireturn h5 dX12_pricesOf_134
  · refine j_iload_n 1 dX12_pricesOf_22 rfl rfl ?_
    refine j_iload 6 dX12_pricesOf_23 rfl ?_
    refine j_callS (As := [(0, x1), (0, x6)]) (st := []) kc_X12_has (c_X12_has x1 x6 S h1 h6) lm_X12_249 ks_X12_has rfl (Nat.le_of_ble_eq_true rfl) (Nat.le_trans (m := 2) (Nat.le_of_ble_eq_true rfl) hd0) dX12_pricesOf_25 (fun (v3 : Int) (S4 : jSt) (hv3 : (v3) = 0 ∨ (v3) = 1) => ?_)
    refine j_if_ne (tgt := 34) (jZ_R hv3) dX12_pricesOf_28 rfl (fun _ => ?_) (fun _ => ?_)
    · refine j_sipush dX12_pricesOf_34 (by decide) ?_
      refine j_iconst dX12_pricesOf_37 ?_
      refine j_iload 6 dX12_pricesOf_38 rfl ?_
      refine j_imul dX12_pricesOf_40 ?_
      refine j_iadd dX12_pricesOf_41 ?_
      refine j_leti (w32_R _) (fun v5 hv5 => ?_)
      refine j_istore (lv' := [(7, 0, v5), (0, 2, x0), (1, 0, x1), (2, 0, x2), (3, 0, x3), (4, 0, x4), (5, 0, x5), (6, 0, x6)]) dX12_pricesOf_42 (Nat.le_of_ble_eq_true rfl) rfl ?_
      refine j_aload_n 1 dX12_pricesOf_44 rfl rfl ?_
      refine j_getr (ci := 12) (k := 0) rfl in_X12 (Nat.le_of_ble_eq_true rfl) rfl rfl fl_X12_7 dX12_pricesOf_45 (fun (v6 : Int) (hv6 : 0 ≤ v6) => ?_)
      refine j_iload 0 dX12_pricesOf_48 rfl ?_
      refine j_iaload hv5 dX12_pricesOf_50 (fun (v7 : Int) (hv7 : R32 (v7)) => ?_)
      refine j_iload_n 3 dX12_pricesOf_51 rfl rfl ?_
      refine j_icmp_eq (tgt := 84) hv7 h2 dX12_pricesOf_52 rfl (fun _ => ?_) (fun _ => ?_)
      · refine j_sub [] rfl ?_
        exact p_f_X12_pricesOf_b84 hd0 S4
      · refine j_iload 5 dX12_pricesOf_55 rfl ?_
        refine j_aload_n 1 dX12_pricesOf_57 rfl rfl ?_
        refine j_getr (ci := 12) (k := 0) rfl in_X12 (Nat.le_of_ble_eq_true rfl) rfl rfl fl_X12_7 dX12_pricesOf_58 (fun (v8 : Int) (hv8 : 0 ≤ v8) => ?_)
        refine j_iload 0 dX12_pricesOf_61 rfl ?_
        refine j_iaload hv5 dX12_pricesOf_63 (fun (v9 : Int) (hv9 : R32 (v9)) => ?_)
        refine j_callS (As := [(0, x4), (0, v9)]) (st := []) kc_X12_has (c_X12_has x4 v9 S4 h4 hv9) lm_X12_249 ks_X12_has rfl (Nat.le_of_ble_eq_true rfl) (Nat.le_trans (m := 2) (Nat.le_of_ble_eq_true rfl) hd0) dX12_pricesOf_64 (fun (v10 : Int) (S11 : jSt) (hv10 : (v10) = 0 ∨ (v10) = 1) => ?_)
        refine j_if_ne (tgt := 84) (jZ_R hv10) dX12_pricesOf_67 rfl (fun _ => ?_) (fun _ => ?_)
        · refine j_sub [] rfl ?_
          exact p_f_X12_pricesOf_b84 hd0 S11
        · refine j_iload_n 4 dX12_pricesOf_70 rfl rfl ?_
          refine j_aload_n 1 dX12_pricesOf_71 rfl rfl ?_
          refine j_getr (ci := 12) (k := 0) rfl in_X12 (Nat.le_of_ble_eq_true rfl) rfl rfl fl_X12_7 dX12_pricesOf_72 (fun (v12 : Int) (hv12 : 0 ≤ v12) => ?_)
          refine j_iload 0 dX12_pricesOf_75 rfl ?_
          refine j_iconst dX12_pricesOf_77 ?_
          refine j_iadd dX12_pricesOf_78 ?_
          refine j_iaload (w32_R _) dX12_pricesOf_79 (fun (v13 : Int) (hv13 : R32 (v13)) => ?_)
          refine j_iand dX12_pricesOf_80 ?_
          refine j_if_eq (tgt := 86) (iand32_R _ _) dX12_pricesOf_81 rfl (fun _ => ?_) (fun _ => ?_)
          · refine j_iload 5 dX12_pricesOf_86 rfl ?_
            refine j_iconst dX12_pricesOf_88 ?_
            refine j_aload_n 1 dX12_pricesOf_89 rfl rfl ?_
            refine j_getr (ci := 12) (k := 0) rfl in_X12 (Nat.le_of_ble_eq_true rfl) rfl rfl fl_X12_7 dX12_pricesOf_90 (fun (v14 : Int) (hv14 : 0 ≤ v14) => ?_)
            refine j_iload 0 dX12_pricesOf_93 rfl ?_
            refine j_iaload hv5 dX12_pricesOf_95 (fun (v15 : Int) (hv15 : R32 (v15)) => ?_)
            refine j_ishl dX12_pricesOf_96 ?_
            refine j_ior dX12_pricesOf_97 ?_
            refine j_leti (ior32_R _ _) (fun v16 hv16 => ?_)
            refine j_istore (lv' := [(4, 0, v16), (7, 0, v5), (0, 2, x0), (1, 0, x1), (2, 0, x2), (3, 0, x3), (5, 0, x5), (6, 0, x6)]) dX12_pricesOf_98 (Nat.le_of_ble_eq_true rfl) rfl ?_
            refine j_iload_n 5 dX12_pricesOf_100 rfl rfl ?_
            refine j_aload_n 2 dX12_pricesOf_101 rfl rfl ?_
            refine j_getr (ci := 12) (k := 0) rfl in_X12 (Nat.le_of_ble_eq_true rfl) rfl rfl fl_X12_7 dX12_pricesOf_102 (fun (v17 : Int) (hv17 : 0 ≤ v17) => ?_)
            refine j_iload 1 dX12_pricesOf_105 rfl ?_
            refine j_iconst dX12_pricesOf_107 ?_
            refine j_iadd dX12_pricesOf_108 ?_
            refine j_iaload (w32_R _) dX12_pricesOf_109 (fun (v18 : Int) (hv18 : R32 (v18)) => ?_)
            refine j_ior dX12_pricesOf_110 ?_
            refine j_leti (ior32_R _ _) (fun v19 hv19 => ?_)
            refine j_istore_n (lv' := [(3, 0, v19), (4, 0, v16), (7, 0, v5), (0, 2, x0), (1, 0, x1), (2, 0, x2), (5, 0, x5), (6, 0, x6)]) dX12_pricesOf_111 rfl (Nat.le_of_ble_eq_true rfl) rfl ?_
            refine j_iload 6 dX12_pricesOf_112 rfl ?_
            refine j_aload_n 3 dX12_pricesOf_114 rfl rfl ?_
            refine j_getr (ci := 12) (k := 0) rfl in_X12 (Nat.le_of_ble_eq_true rfl) rfl rfl fl_X12_7 dX12_pricesOf_115 (fun (v20 : Int) (hv20 : 0 ≤ v20) => ?_)
            refine j_iload 2 dX12_pricesOf_118 rfl ?_
            refine j_iconst dX12_pricesOf_120 ?_
            refine j_iadd dX12_pricesOf_121 ?_
            refine j_iaload (w32_R _) dX12_pricesOf_122 (fun (v21 : Int) (hv21 : R32 (v21)) => ?_)
            refine j_iadd dX12_pricesOf_123 ?_
            refine j_leti (w32_R _) (fun v22 hv22 => ?_)
            refine j_istore (lv' := [(5, 0, v22), (3, 0, v19), (4, 0, v16), (7, 0, v5), (0, 2, x0), (1, 0, x1), (2, 0, x2), (6, 0, x6)]) dX12_pricesOf_124 (Nat.le_of_ble_eq_true rfl) rfl ?_
            refine j_sub [4, 5, 6, 1, 2, 0, 7] rfl ?_
            exact p_f_X12_pricesOf_b126 hd0 k11 x0 x1 x2 v19 v16 v22 x6 S11 h0 h1 h2 hv19 hv16 hv22 h6
          · refine j_sub [] rfl ?_
            exact p_f_X12_pricesOf_b84 hd0 S11
    · refine j_goto (tgt := 126) dX12_pricesOf_31 rfl ?_
      exact p_f_X12_pricesOf_b126 hd0 k11 x0 x1 x2 x3 x4 x5 x6 S4 h0 h1 h2 h3 h4 h5 h6
def f_X12_pricesOf_b11 : Int → Int → Int → Int → Int → Int → Int → jSt → Option (Int × jSt) := jrep (β := Int → Int → Int → Int → Int → Int → Int → jSt → Option (Int × jSt)) (fun _ _ _ _ _ _ _ _ => none) (fun r => f_X12_pricesOf_b11B r) jN
theorem p_f_X12_pricesOf_b11 {G : jG} {d : Nat} {S0 : jSt} (hd0 : 2 ≤ d) : ∀ (x0 : Int) (x1 : Int) (x2 : Int) (x3 : Int) (x4 : Int) (x5 : Int) (x6 : Int) (S : jSt), (0 ≤ (x0)) → (R32 (x1)) → (R32 (x2)) → (R32 (x3)) → (R32 (x4)) → (R32 (x5)) → (R32 (x6)) → J G yX12_pricesOf cX12_pricesOf 8 (some .int) d S0 11 [(0, 2, x0), (1, 0, x1), (2, 0, x2), (3, 0, x3), (4, 0, x4), (5, 0, x5), (6, 0, x6)] [] S (f_X12_pricesOf_b11  x0 x1 x2 x3 x4 x5 x6 S) :=
  jrep_ind (P := fun (r : Int → Int → Int → Int → Int → Int → Int → jSt → Option (Int × jSt)) => ∀ (x0 : Int) (x1 : Int) (x2 : Int) (x3 : Int) (x4 : Int) (x5 : Int) (x6 : Int) (S : jSt), (0 ≤ (x0)) → (R32 (x1)) → (R32 (x2)) → (R32 (x3)) → (R32 (x4)) → (R32 (x5)) → (R32 (x6)) → J G yX12_pricesOf cX12_pricesOf 8 (some .int) d S0 11 [(0, 2, x0), (1, 0, x1), (2, 0, x2), (3, 0, x3), (4, 0, x4), (5, 0, x5), (6, 0, x6)] [] S (r x0 x1 x2 x3 x4 x5 x6 S)) (by intros; exact j_none) (fun r k => p_f_X12_pricesOf_b11B hd0 k) jN
def f_X12_pricesOf (a0 : Int) (a1 : Int) (a2 : Int) (S : jSt) : Option (Int × jSt) :=
  f_X12_pricesOf_b11 a0 a1 a2 0 0 0 0 S
theorem e_X12_pricesOf {G : jG} {d : Nat} {S0 : jSt} (hd0 : 2 ≤ d) (a0 : Int) (a1 : Int) (a2 : Int) (S : jSt) (h0 : 0 ≤ (a0)) (h1 : R32 (a1)) (h2 : R32 (a2)) : J G yX12_pricesOf cX12_pricesOf 8 (some .int) d S0 0 [(0, 2, a0), (1, 0, a1), (2, 0, a2)] [] S (f_X12_pricesOf a0 a1 a2 S) := by
  unfold f_X12_pricesOf
  refine j_iconst dX12_pricesOf_0 ?_
  refine j_istore_n (lv' := [(3, 0, 0), (0, 2, a0), (1, 0, a1), (2, 0, a2)]) dX12_pricesOf_1 rfl (Nat.le_of_ble_eq_true rfl) rfl ?_
  refine j_iconst dX12_pricesOf_2 ?_
  refine j_istore (lv' := [(4, 0, 0), (3, 0, 0), (0, 2, a0), (1, 0, a1), (2, 0, a2)]) dX12_pricesOf_3 (Nat.le_of_ble_eq_true rfl) rfl ?_
  refine j_iconst dX12_pricesOf_5 ?_
  refine j_istore (lv' := [(5, 0, 0), (4, 0, 0), (3, 0, 0), (0, 2, a0), (1, 0, a1), (2, 0, a2)]) dX12_pricesOf_6 (Nat.le_of_ble_eq_true rfl) rfl ?_
  refine j_iconst dX12_pricesOf_8 ?_
  refine j_istore (lv' := [(6, 0, 0), (5, 0, 0), (4, 0, 0), (3, 0, 0), (0, 2, a0), (1, 0, a1), (2, 0, a2)]) dX12_pricesOf_9 (Nat.le_of_ble_eq_true rfl) rfl ?_
  refine j_sub [4, 5, 6, 3, 2, 1, 0] rfl ?_
  exact p_f_X12_pricesOf_b11 hd0 a0 a1 a2 0 0 0 0 S h0 h1 h2 (jZ_R jz0) (jZ_R jz0) (jZ_R jz0) (jZ_R jz0)
theorem c_X12_pricesOf {G : jG} (a0 : Int) (a1 : Int) (a2 : Int) (S : jSt) (h0 : 0 ≤ (a0)) (h1 : R32 (a1)) (h2 : R32 (a2)) : CT G yX12_pricesOf cX12_pricesOf 8 (some .int) 2 ([(2, a0), (0, a1), (0, a2)].map jval) S (f_X12_pricesOf a0 a1 a2 S) := ct_of [(2, a0), (0, a1), (0, a2)] (by decide) rfl (Nat.le_of_ble_eq_true rfl) (e_X12_pricesOf (Nat.le_refl _) a0 a1 a2 S h0 h1 h2)
-- X12_bestSet
def f_X12_bestSet_b33 (r4 : Int → Int → Int → Int → jSt → Option (Int × jSt)) (x0 : Int) (x1 : Int) (x2 : Int) (x3 : Int) (S : jSt) : Option (Int × jSt) :=
  flet (w32 (x3 + 1)) (fun v7 => r4 x0 x1 x2 v7 S)
theorem p_f_X12_bestSet_b33 {G : jG} {d : Nat} {S0 : jSt} (hd0 : 3 ≤ d) {r4 : Int → Int → Int → Int → jSt → Option (Int × jSt)} (k4 : ∀ (x0 : Int) (x1 : Int) (x2 : Int) (x3 : Int) (S : jSt), (0 ≤ (x0)) → (R32 (x1)) → (R32 (x2)) → (R32 (x3)) → J G yX12_bestSet cX12_bestSet 4 (some .int) d S0 4 [(0, 2, x0), (1, 0, x1), (2, 0, x2), (3, 0, x3)] [] S (r4 x0 x1 x2 x3 S)) : ∀ (x0 : Int) (x1 : Int) (x2 : Int) (x3 : Int) (S : jSt), (0 ≤ (x0)) → (R32 (x1)) → (R32 (x2)) → (R32 (x3)) → J G yX12_bestSet cX12_bestSet 4 (some .int) d S0 33 [(0, 2, x0), (1, 0, x1), (2, 0, x2), (3, 0, x3)] [] S (f_X12_bestSet_b33 r4 x0 x1 x2 x3 S) := by
  intro x0 x1 x2 x3 S h0 h1 h2 h3
  unfold f_X12_bestSet_b33
  refine j_iincL (q := 3) dX12_bestSet_33 rfl (Nat.le_of_ble_eq_true rfl) (fun v7 hv7 => ?_)
  refine j_lv (lv' := [(3, 0, v7), (0, 2, x0), (1, 0, x1), (2, 0, x2)]) rfl ?_
  refine j_goto (tgt := 4) dX12_bestSet_36 rfl ?_
  refine j_sub [1, 2, 3, 0] rfl ?_
  exact k4 x0 x1 x2 v7 S h0 h1 h2 hv7
def f_X12_bestSet_b4B (r4 : Int → Int → Int → Int → jSt → Option (Int × jSt)) (x0 : Int) (x1 : Int) (x2 : Int) (x3 : Int) (S : jSt) : Option (Int × jSt) :=
  fgetr S x0 12 0 (fun v1 => fald S v1 5 1 (fun v2 => if (ishl32 1 v2) ≤ x3 then some (x2, S) else fcallv S x0 12 (f_X12_pricesOf x0 x3 x1 S) (fun v3 S4 => fcallv S4 x0 12 (f_X12_pricesOf x0 x2 x1 S4) (fun v5 S6 => if v3 ≤ v5 then f_X12_bestSet_b33 r4 x0 x1 x2 x3 S6 else f_X12_bestSet_b33 r4 x0 x1 x3 x3 S6))))
theorem p_f_X12_bestSet_b4B {G : jG} {d : Nat} {S0 : jSt} (hd0 : 3 ≤ d) {r4 : Int → Int → Int → Int → jSt → Option (Int × jSt)} (k4 : ∀ (x0 : Int) (x1 : Int) (x2 : Int) (x3 : Int) (S : jSt), (0 ≤ (x0)) → (R32 (x1)) → (R32 (x2)) → (R32 (x3)) → J G yX12_bestSet cX12_bestSet 4 (some .int) d S0 4 [(0, 2, x0), (1, 0, x1), (2, 0, x2), (3, 0, x3)] [] S (r4 x0 x1 x2 x3 S)) : ∀ (x0 : Int) (x1 : Int) (x2 : Int) (x3 : Int) (S : jSt), (0 ≤ (x0)) → (R32 (x1)) → (R32 (x2)) → (R32 (x3)) → J G yX12_bestSet cX12_bestSet 4 (some .int) d S0 4 [(0, 2, x0), (1, 0, x1), (2, 0, x2), (3, 0, x3)] [] S (f_X12_bestSet_b4B r4 x0 x1 x2 x3 S) := by
  intro x0 x1 x2 x3 S h0 h1 h2 h3
  unfold f_X12_bestSet_b4B
  refine j_iload_n 3 dX12_bestSet_4 rfl rfl ?_
  refine j_iconst dX12_bestSet_5 ?_
  refine j_aload_n 0 dX12_bestSet_6 rfl rfl ?_
  refine j_getr (ci := 12) (k := 0) rfl in_X12 (Nat.le_of_ble_eq_true rfl) rfl rfl fl_X12_7 dX12_bestSet_7 (fun (v1 : Int) (hv1 : 0 ≤ v1) => ?_)
  refine j_iconst dX12_bestSet_10 ?_
  refine j_iaload (j_r32 5 rfl) dX12_bestSet_11 (fun (v2 : Int) (hv2 : R32 (v2)) => ?_)
  refine j_ishl dX12_bestSet_12 ?_
  refine j_icmp_ge (tgt := 39) h3 (ishl32_R _ _) dX12_bestSet_13 rfl (fun _ => ?_) (fun _ => ?_)
  · refine j_iload_n 2 dX12_bestSet_39 rfl rfl ?_
    exact j_ireturn h2 dX12_bestSet_40
  · refine j_aload_n 0 dX12_bestSet_16 rfl rfl ?_
    refine j_iload_n 3 dX12_bestSet_17 rfl rfl ?_
    refine j_iload_n 1 dX12_bestSet_18 rfl rfl ?_
    refine j_callV (ci := 12) (As := [(0, x3), (0, x1)]) (st := []) kc_X12_pricesOf (c_X12_pricesOf x0 x3 x1 S h0 h3 h1) rfl lm_X12_433 ki_X12_pricesOf ke_X12_pricesOf rfl (Nat.le_of_ble_eq_true rfl) (Nat.le_trans (m := 3) (Nat.le_of_ble_eq_true rfl) hd0) dX12_bestSet_19 (fun (v3 : Int) (S4 : jSt) (hv3 : R32 (v3)) => ?_)
    refine j_aload_n 0 dX12_bestSet_22 rfl rfl ?_
    refine j_iload_n 2 dX12_bestSet_23 rfl rfl ?_
    refine j_iload_n 1 dX12_bestSet_24 rfl rfl ?_
    refine j_callV (ci := 12) (As := [(0, x2), (0, x1)]) (st := [(0, v3)]) kc_X12_pricesOf (c_X12_pricesOf x0 x2 x1 S4 h0 h2 h1) rfl lm_X12_433 ki_X12_pricesOf ke_X12_pricesOf rfl (Nat.le_of_ble_eq_true rfl) (Nat.le_trans (m := 3) (Nat.le_of_ble_eq_true rfl) hd0) dX12_bestSet_25 (fun (v5 : Int) (S6 : jSt) (hv5 : R32 (v5)) => ?_)
    refine j_icmp_le (tgt := 33) hv3 hv5 dX12_bestSet_28 rfl (fun _ => ?_) (fun _ => ?_)
    · exact p_f_X12_bestSet_b33 hd0 k4 x0 x1 x2 x3 S6 h0 h1 h2 h3
    · refine j_iload_n 3 dX12_bestSet_31 rfl rfl ?_
      refine j_istore_n (lv' := [(2, 0, x3), (0, 2, x0), (1, 0, x1), (3, 0, x3)]) dX12_bestSet_32 rfl (Nat.le_of_ble_eq_true rfl) rfl ?_
      refine j_sub [1, 2, 0, 3] rfl ?_
      exact p_f_X12_bestSet_b33 hd0 k4 x0 x1 x3 x3 S6 h0 h1 h3 h3
def f_X12_bestSet_b4 : Int → Int → Int → Int → jSt → Option (Int × jSt) := jrep (β := Int → Int → Int → Int → jSt → Option (Int × jSt)) (fun _ _ _ _ _ => none) (fun r => f_X12_bestSet_b4B r) jN
theorem p_f_X12_bestSet_b4 {G : jG} {d : Nat} {S0 : jSt} (hd0 : 3 ≤ d) : ∀ (x0 : Int) (x1 : Int) (x2 : Int) (x3 : Int) (S : jSt), (0 ≤ (x0)) → (R32 (x1)) → (R32 (x2)) → (R32 (x3)) → J G yX12_bestSet cX12_bestSet 4 (some .int) d S0 4 [(0, 2, x0), (1, 0, x1), (2, 0, x2), (3, 0, x3)] [] S (f_X12_bestSet_b4  x0 x1 x2 x3 S) :=
  jrep_ind (P := fun (r : Int → Int → Int → Int → jSt → Option (Int × jSt)) => ∀ (x0 : Int) (x1 : Int) (x2 : Int) (x3 : Int) (S : jSt), (0 ≤ (x0)) → (R32 (x1)) → (R32 (x2)) → (R32 (x3)) → J G yX12_bestSet cX12_bestSet 4 (some .int) d S0 4 [(0, 2, x0), (1, 0, x1), (2, 0, x2), (3, 0, x3)] [] S (r x0 x1 x2 x3 S)) (by intros; exact j_none) (fun r k => p_f_X12_bestSet_b4B hd0 k) jN
def f_X12_bestSet (a0 : Int) (a1 : Int) (S : jSt) : Option (Int × jSt) :=
  f_X12_bestSet_b4 a0 a1 0 1 S
theorem e_X12_bestSet {G : jG} {d : Nat} {S0 : jSt} (hd0 : 3 ≤ d) (a0 : Int) (a1 : Int) (S : jSt) (h0 : 0 ≤ (a0)) (h1 : R32 (a1)) : J G yX12_bestSet cX12_bestSet 4 (some .int) d S0 0 [(0, 2, a0), (1, 0, a1)] [] S (f_X12_bestSet a0 a1 S) := by
  unfold f_X12_bestSet
  refine j_iconst dX12_bestSet_0 ?_
  refine j_istore_n (lv' := [(2, 0, 0), (0, 2, a0), (1, 0, a1)]) dX12_bestSet_1 rfl (Nat.le_of_ble_eq_true rfl) rfl ?_
  refine j_iconst dX12_bestSet_2 ?_
  refine j_istore_n (lv' := [(3, 0, 1), (2, 0, 0), (0, 2, a0), (1, 0, a1)]) dX12_bestSet_3 rfl (Nat.le_of_ble_eq_true rfl) rfl ?_
  refine j_sub [2, 3, 1, 0] rfl ?_
  exact p_f_X12_bestSet_b4 hd0 a0 a1 0 1 S h0 h1 (jZ_R jz0) (jZ_R jz1)
theorem c_X12_bestSet {G : jG} (a0 : Int) (a1 : Int) (S : jSt) (h0 : 0 ≤ (a0)) (h1 : R32 (a1)) : CT G yX12_bestSet cX12_bestSet 4 (some .int) 3 ([(2, a0), (0, a1)].map jval) S (f_X12_bestSet a0 a1 S) := ct_of [(2, a0), (0, a1)] (by decide) rfl (Nat.le_of_ble_eq_true rfl) (e_X12_bestSet (Nat.le_refl _) a0 a1 S h0 h1)
-- X12_bidder
def f_X12_bidder_b21 (S : jSt) : Option (Int × jSt) :=
  some ((-1), S)
theorem p_f_X12_bidder_b21 {G : jG} {d : Nat} {S0 : jSt} (hd0 : 2 ≤ d) : ∀ (S : jSt), J G yX12_bidder cX12_bidder 4 (some .int) d S0 21 [] [] S (f_X12_bidder_b21   S) := by
  intro S
  unfold f_X12_bidder_b21
  refine j_iconst dX12_bidder_21 ?_
  exact j_ireturn (j_r32 (-1) rfl) dX12_bidder_22
def f_X12_bidder_b47B (r47 : Int → Int → Int → jSt → Option (Int × jSt)) (x0 : Int) (x1 : Int) (x2 : Int) (S : jSt) : Option (Int × jSt) :=
  if 12 ≤ x2 then fgetr S x0 12 0 (fun v11 => fald S v11 1 1 (fun v12 => fast S v11 1 1 (w32 (v12 + 1)) (fun S13 => some (x1, S13)))) else fcallv S x0 12 (f_X12_lay x0 x1 (w32 (1 + x2)) 0 S) (fun v14 S15 => flet (w32 (x2 + 1)) (fun v16 => r47 x0 x1 v16 S15))
theorem p_f_X12_bidder_b47B {G : jG} {d : Nat} {S0 : jSt} (hd0 : 2 ≤ d) {r47 : Int → Int → Int → jSt → Option (Int × jSt)} (k47 : ∀ (x0 : Int) (x1 : Int) (x2 : Int) (S : jSt), (0 ≤ (x0)) → (R32 (x1)) → (R32 (x2)) → J G yX12_bidder cX12_bidder 4 (some .int) d S0 47 [(0, 2, x0), (2, 0, x1), (3, 0, x2)] [] S (r47 x0 x1 x2 S)) : ∀ (x0 : Int) (x1 : Int) (x2 : Int) (S : jSt), (0 ≤ (x0)) → (R32 (x1)) → (R32 (x2)) → J G yX12_bidder cX12_bidder 4 (some .int) d S0 47 [(0, 2, x0), (2, 0, x1), (3, 0, x2)] [] S (f_X12_bidder_b47B r47 x0 x1 x2 S) := by
  intro x0 x1 x2 S h0 h1 h2
  unfold f_X12_bidder_b47B
  refine j_iload_n 2 dX12_bidder_47 rfl rfl ?_
  refine j_bipush dX12_bidder_48 (by decide) ?_
  refine j_icmp_ge (tgt := 68) h2 (j_r32 12 rfl) dX12_bidder_50 rfl (fun _ => ?_) (fun _ => ?_)
  · refine j_aload_n 0 dX12_bidder_68 rfl rfl ?_
    refine j_getr (ci := 12) (k := 0) rfl in_X12 (Nat.le_of_ble_eq_true rfl) rfl rfl fl_X12_7 dX12_bidder_69 (fun (v11 : Int) (hv11 : 0 ≤ v11) => ?_)
    refine j_iconst dX12_bidder_72 ?_
    refine j_dup2 dX12_bidder_73 (fun h => nomatch h) (fun h => nomatch h) ?_
    refine j_iaload (jZ_R jz1) dX12_bidder_74 (fun (v12 : Int) (hv12 : R32 (v12)) => ?_)
    refine j_iconst dX12_bidder_75 ?_
    refine j_iadd dX12_bidder_76 ?_
    refine j_iastore (jZ_R jz1) (w32_R _) dX12_bidder_77 (fun S13 => ?_)
    refine j_iload_n 1 dX12_bidder_78 rfl rfl ?_
    exact j_ireturn h1 dX12_bidder_79
  · refine j_aload_n 0 dX12_bidder_53 rfl rfl ?_
    refine j_iload_n 1 dX12_bidder_54 rfl rfl ?_
    refine j_iconst dX12_bidder_55 ?_
    refine j_iload_n 2 dX12_bidder_56 rfl rfl ?_
    refine j_iadd dX12_bidder_57 ?_
    refine j_iconst dX12_bidder_58 ?_
    refine j_callV (ci := 12) (As := [(0, x1), (0, w32 (1 + x2)), (0, 0)]) (st := []) kc_X12_lay (c_X12_lay x0 x1 (w32 (1 + x2)) 0 S h0 h1 (w32_R _) (jZ_R jz0)) rfl lm_X12_79 ki_X12_lay ke_X12_lay rfl (Nat.le_of_ble_eq_true rfl) (Nat.le_trans (m := 2) (Nat.le_of_ble_eq_true rfl) hd0) dX12_bidder_59 (fun v14 S15 _ => ?_)
    refine j_iincL (q := 2) dX12_bidder_62 rfl (Nat.le_of_ble_eq_true rfl) (fun v16 hv16 => ?_)
    refine j_lv (lv' := [(3, 0, v16), (0, 2, x0), (2, 0, x1)]) rfl ?_
    refine j_goto (tgt := 47) dX12_bidder_65 rfl ?_
    refine j_sub [1, 2, 0] rfl ?_
    exact k47 x0 x1 v16 S15 h0 h1 hv16
def f_X12_bidder_b47 : Int → Int → Int → jSt → Option (Int × jSt) := jrep (β := Int → Int → Int → jSt → Option (Int × jSt)) (fun _ _ _ _ => none) (fun r => f_X12_bidder_b47B r) jN
theorem p_f_X12_bidder_b47 {G : jG} {d : Nat} {S0 : jSt} (hd0 : 2 ≤ d) : ∀ (x0 : Int) (x1 : Int) (x2 : Int) (S : jSt), (0 ≤ (x0)) → (R32 (x1)) → (R32 (x2)) → J G yX12_bidder cX12_bidder 4 (some .int) d S0 47 [(0, 2, x0), (2, 0, x1), (3, 0, x2)] [] S (f_X12_bidder_b47  x0 x1 x2 S) :=
  jrep_ind (P := fun (r : Int → Int → Int → jSt → Option (Int × jSt)) => ∀ (x0 : Int) (x1 : Int) (x2 : Int) (S : jSt), (0 ≤ (x0)) → (R32 (x1)) → (R32 (x2)) → J G yX12_bidder cX12_bidder 4 (some .int) d S0 47 [(0, 2, x0), (2, 0, x1), (3, 0, x2)] [] S (r x0 x1 x2 S)) (by intros; exact j_none) (fun r k => p_f_X12_bidder_b47B hd0 k) jN
def f_X12_bidder (a0 : Int) (a1 : Int) (S : jSt) : Option (Int × jSt) :=
  fcall (f_X12_isIn a1 0 9999 S) (fun v1 S2 => if v1 = 0 then f_X12_bidder_b21 S2 else fgetr S2 a0 12 0 (fun v3 => fald S2 v3 1 1 (fun v4 => if v4 = 5 then f_X12_bidder_b21 S2 else fgetr S2 a0 12 0 (fun v5 => fald S2 v5 1 1 (fun v6 => fcallv S2 a0 12 (f_X12_lay a0 v6 0 a1 S2) (fun v7 S8 => fcallv S8 a0 12 (f_X12_lay a0 v6 13 a1 S8) (fun v9 S10 => f_X12_bidder_b47 a0 v6 0 S10)))))))
theorem e_X12_bidder {G : jG} {d : Nat} {S0 : jSt} (hd0 : 2 ≤ d) (a0 : Int) (a1 : Int) (S : jSt) (h0 : 0 ≤ (a0)) (h1 : R32 (a1)) : J G yX12_bidder cX12_bidder 4 (some .int) d S0 0 [(0, 2, a0), (1, 0, a1)] [] S (f_X12_bidder a0 a1 S) := by
  unfold f_X12_bidder
  refine j_iload_n 1 dX12_bidder_0 rfl rfl ?_
  refine j_iconst dX12_bidder_1 ?_
  refine j_sipush dX12_bidder_2 (by decide) ?_
  refine j_callS (As := [(0, a1), (0, 0), (0, 9999)]) (st := []) kc_X12_isIn (c_X12_isIn a1 0 9999 S h1 (jZ_R jz0) (j_r32 9999 rfl)) lm_X12_60 ks_X12_isIn rfl (Nat.le_of_ble_eq_true rfl) (Nat.le_trans (m := 2) (Nat.le_of_ble_eq_true rfl) hd0) dX12_bidder_5 (fun (v1 : Int) (S2 : jSt) (hv1 : (v1) = 0 ∨ (v1) = 1) => ?_)
  refine j_if_eq (tgt := 21) (jZ_R hv1) dX12_bidder_8 rfl (fun _ => ?_) (fun _ => ?_)
  · refine j_sub [] rfl ?_
    exact p_f_X12_bidder_b21 hd0 S2
  · refine j_aload_n 0 dX12_bidder_11 rfl rfl ?_
    refine j_getr (ci := 12) (k := 0) rfl in_X12 (Nat.le_of_ble_eq_true rfl) rfl rfl fl_X12_7 dX12_bidder_12 (fun (v3 : Int) (hv3 : 0 ≤ v3) => ?_)
    refine j_iconst dX12_bidder_15 ?_
    refine j_iaload (jZ_R jz1) dX12_bidder_16 (fun (v4 : Int) (hv4 : R32 (v4)) => ?_)
    refine j_iconst dX12_bidder_17 ?_
    refine j_icmp_ne (tgt := 23) hv4 (j_r32 5 rfl) dX12_bidder_18 rfl (fun _ => ?_) (fun _ => ?_)
    · refine j_aload_n 0 dX12_bidder_23 rfl rfl ?_
      refine j_getr (ci := 12) (k := 0) rfl in_X12 (Nat.le_of_ble_eq_true rfl) rfl rfl fl_X12_7 dX12_bidder_24 (fun (v5 : Int) (hv5 : 0 ≤ v5) => ?_)
      refine j_iconst dX12_bidder_27 ?_
      refine j_iaload (jZ_R jz1) dX12_bidder_28 (fun (v6 : Int) (hv6 : R32 (v6)) => ?_)
      refine j_istore_n (lv' := [(2, 0, v6), (0, 2, a0), (1, 0, a1)]) dX12_bidder_29 rfl (Nat.le_of_ble_eq_true rfl) rfl ?_
      refine j_aload_n 1 dX12_bidder_30 rfl rfl ?_
      refine j_iload_n 0 dX12_bidder_31 rfl rfl ?_
      refine j_iconst dX12_bidder_32 ?_
      refine j_iload_n 2 dX12_bidder_33 rfl rfl ?_
      refine j_callV (ci := 12) (As := [(0, v6), (0, 0), (0, a1)]) (st := []) kc_X12_lay (c_X12_lay a0 v6 0 a1 S2 h0 hv6 (jZ_R jz0) h1) rfl lm_X12_79 ki_X12_lay ke_X12_lay rfl (Nat.le_of_ble_eq_true rfl) (Nat.le_trans (m := 2) (Nat.le_of_ble_eq_true rfl) hd0) dX12_bidder_34 (fun v7 S8 _ => ?_)
      refine j_aload_n 1 dX12_bidder_37 rfl rfl ?_
      refine j_iload_n 0 dX12_bidder_38 rfl rfl ?_
      refine j_bipush dX12_bidder_39 (by decide) ?_
      refine j_iload_n 2 dX12_bidder_41 rfl rfl ?_
      refine j_callV (ci := 12) (As := [(0, v6), (0, 13), (0, a1)]) (st := []) kc_X12_lay (c_X12_lay a0 v6 13 a1 S8 h0 hv6 (j_r32 13 rfl) h1) rfl lm_X12_79 ki_X12_lay ke_X12_lay rfl (Nat.le_of_ble_eq_true rfl) (Nat.le_trans (m := 2) (Nat.le_of_ble_eq_true rfl) hd0) dX12_bidder_42 (fun v9 S10 _ => ?_)
      refine j_iconst dX12_bidder_45 ?_
      refine j_istore_n (lv' := [(3, 0, 0), (2, 0, v6), (0, 2, a0), (1, 0, a1)]) dX12_bidder_46 rfl (Nat.le_of_ble_eq_true rfl) rfl ?_
      refine j_sub [2, 1, 0] rfl ?_
      exact p_f_X12_bidder_b47 hd0 a0 v6 0 S10 h0 hv6 (jZ_R jz0)
    · refine j_sub [] rfl ?_
      exact p_f_X12_bidder_b21 hd0 S2
theorem c_X12_bidder {G : jG} (a0 : Int) (a1 : Int) (S : jSt) (h0 : 0 ≤ (a0)) (h1 : R32 (a1)) : CT G yX12_bidder cX12_bidder 4 (some .int) 2 ([(2, a0), (0, a1)].map jval) S (f_X12_bidder a0 a1 S) := ct_of [(2, a0), (0, a1)] (by decide) rfl (Nat.le_of_ble_eq_true rfl) (e_X12_bidder (Nat.le_refl _) a0 a1 S h0 h1)
-- X12_isBidder
def f_X12_isBidder (a0 : Int) (a1 : Int) (S : jSt) : Option (Int × jSt) :=
  fgetr S a0 12 0 (fun v1 => fald S v1 1 1 (fun v2 => fcall (f_X12_isIn a1 0 (w32 (v2 - 1)) S) (fun v3 S4 => some (v3, S4))))
theorem e_X12_isBidder {G : jG} {d : Nat} {S0 : jSt} (hd0 : 2 ≤ d) (a0 : Int) (a1 : Int) (S : jSt) (h0 : 0 ≤ (a0)) (h1 : R32 (a1)) : J G yX12_isBidder cX12_isBidder 2 (some .boolean) d S0 0 [(0, 2, a0), (1, 0, a1)] [] S (f_X12_isBidder a0 a1 S) := by
  unfold f_X12_isBidder
  refine j_iload_n 1 dX12_isBidder_0 rfl rfl ?_
  refine j_iconst dX12_isBidder_1 ?_
  refine j_aload_n 0 dX12_isBidder_2 rfl rfl ?_
  refine j_getr (ci := 12) (k := 0) rfl in_X12 (Nat.le_of_ble_eq_true rfl) rfl rfl fl_X12_7 dX12_isBidder_3 (fun (v1 : Int) (hv1 : 0 ≤ v1) => ?_)
  refine j_iconst dX12_isBidder_6 ?_
  refine j_iaload (jZ_R jz1) dX12_isBidder_7 (fun (v2 : Int) (hv2 : R32 (v2)) => ?_)
  refine j_iconst dX12_isBidder_8 ?_
  refine j_isub dX12_isBidder_9 ?_
  refine j_callS (As := [(0, a1), (0, 0), (0, w32 (v2 - 1))]) (st := []) kc_X12_isIn (c_X12_isIn a1 0 (w32 (v2 - 1)) S h1 (jZ_R jz0) (w32_R _)) lm_X12_60 ks_X12_isIn rfl (Nat.le_of_ble_eq_true rfl) (Nat.le_trans (m := 2) (Nat.le_of_ble_eq_true rfl) hd0) dX12_isBidder_10 (fun (v3 : Int) (S4 : jSt) (hv3 : (v3) = 0 ∨ (v3) = 1) => ?_)
  exact j_zreturn hv3 dX12_isBidder_13
theorem c_X12_isBidder {G : jG} (a0 : Int) (a1 : Int) (S : jSt) (h0 : 0 ≤ (a0)) (h1 : R32 (a1)) : CT G yX12_isBidder cX12_isBidder 2 (some .boolean) 2 ([(2, a0), (0, a1)].map jval) S (f_X12_isBidder a0 a1 S) := ct_of [(2, a0), (0, a1)] (by decide) rfl (Nat.le_of_ble_eq_true rfl) (e_X12_isBidder (Nat.le_refl _) a0 a1 S h0 h1)
-- X12_bids
def f_X12_bids_b26 (x0 : Int) (S : jSt) : Option (Int × jSt) :=
  some (x0, S)
theorem p_f_X12_bids_b26 {G : jG} {d : Nat} {S0 : jSt} (hd0 : 6 ≤ d) : ∀ (x0 : Int) (S : jSt), (R32 (x0)) → J G yX12_bids cX12_bids 3 (some .int) d S0 26 [] [(0, x0)] S (f_X12_bids_b26  x0 S) := by
  intro x0 S h0
  unfold f_X12_bids_b26
  exact j_ireturn h0 dX12_bids_26
def f_X12_bids_b25 (S : jSt) : Option (Int × jSt) :=
  f_X12_bids_b26 (-1) S
theorem p_f_X12_bids_b25 {G : jG} {d : Nat} {S0 : jSt} (hd0 : 6 ≤ d) : ∀ (S : jSt), J G yX12_bids cX12_bids 3 (some .int) d S0 25 [] [] S (f_X12_bids_b25   S) := by
  intro S
  unfold f_X12_bids_b25
  refine j_iconst dX12_bids_25 ?_
  exact p_f_X12_bids_b26 hd0 (-1) S (j_r32 (-1) rfl)
def f_X12_bids (a0 : Int) (a1 : Int) (a2 : Int) (S : jSt) : Option (Int × jSt) :=
  fcallv S a0 12 (f_X12_isBidder a0 a1 S) (fun v1 S2 => if v1 = 0 then f_X12_bids_b25 S2 else fcallv S2 a0 12 (f_X12_isLot a0 a2 S2) (fun v3 S4 => if v3 = 0 then f_X12_bids_b25 S4 else fcallv S4 a0 12 (f_X12_bidOf a0 a1 a2 S4) (fun v5 S6 => f_X12_bids_b26 v5 S6)))
theorem e_X12_bids {G : jG} {d : Nat} {S0 : jSt} (hd0 : 6 ≤ d) (a0 : Int) (a1 : Int) (a2 : Int) (S : jSt) (h0 : 0 ≤ (a0)) (h1 : R32 (a1)) (h2 : R32 (a2)) : J G yX12_bids cX12_bids 3 (some .int) d S0 0 [(0, 2, a0), (1, 0, a1), (2, 0, a2)] [] S (f_X12_bids a0 a1 a2 S) := by
  unfold f_X12_bids
  refine j_aload_n 0 dX12_bids_0 rfl rfl ?_
  refine j_iload_n 1 dX12_bids_1 rfl rfl ?_
  refine j_callV (ci := 12) (As := [(0, a1)]) (st := []) kc_X12_isBidder (c_X12_isBidder a0 a1 S h0 h1) rfl lm_X12_82 ki_X12_isBidder ke_X12_isBidder rfl (Nat.le_of_ble_eq_true rfl) (Nat.le_trans (m := 6) (Nat.le_of_ble_eq_true rfl) hd0) dX12_bids_2 (fun (v1 : Int) (S2 : jSt) (hv1 : (v1) = 0 ∨ (v1) = 1) => ?_)
  refine j_if_eq (tgt := 25) (jZ_R hv1) dX12_bids_5 rfl (fun _ => ?_) (fun _ => ?_)
  · refine j_sub [] rfl ?_
    exact p_f_X12_bids_b25 hd0 S2
  · refine j_aload_n 0 dX12_bids_8 rfl rfl ?_
    refine j_iload_n 2 dX12_bids_9 rfl rfl ?_
    refine j_callV (ci := 12) (As := [(0, a2)]) (st := []) kc_X12_isLot (c_X12_isLot a0 a2 S2 h0 h2) rfl lm_X12_64 ki_X12_isLot ke_X12_isLot rfl (Nat.le_of_ble_eq_true rfl) (Nat.le_trans (m := 6) (Nat.le_of_ble_eq_true rfl) hd0) dX12_bids_10 (fun (v3 : Int) (S4 : jSt) (hv3 : (v3) = 0 ∨ (v3) = 1) => ?_)
    refine j_if_eq (tgt := 25) (jZ_R hv3) dX12_bids_13 rfl (fun _ => ?_) (fun _ => ?_)
    · refine j_sub [] rfl ?_
      exact p_f_X12_bids_b25 hd0 S4
    · refine j_aload_n 0 dX12_bids_16 rfl rfl ?_
      refine j_iload_n 1 dX12_bids_17 rfl rfl ?_
      refine j_iload_n 2 dX12_bids_18 rfl rfl ?_
      refine j_callV (ci := 12) (As := [(0, a1), (0, a2)]) (st := []) kc_X12_bidOf (c_X12_bidOf a0 a1 a2 S4 h0 h1 h2) rfl lm_X12_319 ki_X12_bidOf ke_X12_bidOf rfl (Nat.le_of_ble_eq_true rfl) (Nat.le_trans (m := 6) (Nat.le_of_ble_eq_true rfl) hd0) dX12_bids_19 (fun (v5 : Int) (S6 : jSt) (hv5 : R32 (v5)) => ?_)
      refine j_goto (tgt := 26) dX12_bids_22 rfl ?_
      refine j_sub [] rfl ?_
      exact p_f_X12_bids_b26 hd0 v5 S6 hv5
theorem c_X12_bids {G : jG} (a0 : Int) (a1 : Int) (a2 : Int) (S : jSt) (h0 : 0 ≤ (a0)) (h1 : R32 (a1)) (h2 : R32 (a2)) : CT G yX12_bids cX12_bids 3 (some .int) 6 ([(2, a0), (0, a1), (0, a2)].map jval) S (f_X12_bids a0 a1 a2 S) := ct_of [(2, a0), (0, a1), (0, a2)] (by decide) rfl (Nat.le_of_ble_eq_true rfl) (e_X12_bids (Nat.le_refl _) a0 a1 a2 S h0 h1 h2)
-- X12_figure
def f_X12_figure (a0 : Int) (a1 : Int) (a2 : Int) (a3 : Int) (S : jSt) : Option (Int × jSt) :=
  fget S a0 12 9 (fun v1 => if v1 = 1 then fget S a0 12 10 (fun v2 => fcall (f_X12_isIn v2 a2 a3 S) (fun v3 S4 => if v3 = 0 then some (2, S4) else fgetr S4 a0 12 2 (fun v5 => fget S4 a0 12 10 (fun v6 => fast S4 v5 a1 1 v6 (fun S7 => fcallv S7 a0 12 (f_X12_nextToken a0 S7) (fun v8 S9 => some (0, S9))))))) else some (1, S))
theorem e_X12_figure {G : jG} {d : Nat} {S0 : jSt} (hd0 : 3 ≤ d) (a0 : Int) (a1 : Int) (a2 : Int) (a3 : Int) (S : jSt) (h0 : 0 ≤ (a0)) (h1 : R32 (a1)) (h2 : R32 (a2)) (h3 : R32 (a3)) : J G yX12_figure cX12_figure 4 (some .int) d S0 0 [(0, 2, a0), (1, 0, a1), (2, 0, a2), (3, 0, a3)] [] S (f_X12_figure a0 a1 a2 a3 S) := by
  unfold f_X12_figure
  refine j_aload_n 0 dX12_figure_0 rfl rfl ?_
  refine j_get (ci := 12) (k := 9) (t := 0) rfl in_X12 (Nat.le_of_ble_eq_true rfl) rfl rfl fl_X12_102 dX12_figure_1 (fun (v1 : Int) (hv1 : R32 (v1)) => ?_)
  refine j_iconst dX12_figure_4 ?_
  refine j_icmp_eq (tgt := 10) hv1 (jZ_R jz1) dX12_figure_5 rfl (fun _ => ?_) (fun _ => ?_)
  · refine j_aload_n 0 dX12_figure_10 rfl rfl ?_
    refine j_get (ci := 12) (k := 10) (t := 0) rfl in_X12 (Nat.le_of_ble_eq_true rfl) rfl rfl fl_X12_108 dX12_figure_11 (fun (v2 : Int) (hv2 : R32 (v2)) => ?_)
    refine j_iload_n 2 dX12_figure_14 rfl rfl ?_
    refine j_iload_n 3 dX12_figure_15 rfl rfl ?_
    refine j_callS (As := [(0, v2), (0, a2), (0, a3)]) (st := []) kc_X12_isIn (c_X12_isIn v2 a2 a3 S hv2 h2 h3) lm_X12_60 ks_X12_isIn rfl (Nat.le_of_ble_eq_true rfl) (Nat.le_trans (m := 3) (Nat.le_of_ble_eq_true rfl) hd0) dX12_figure_16 (fun (v3 : Int) (S4 : jSt) (hv3 : (v3) = 0 ∨ (v3) = 1) => ?_)
    refine j_if_ne (tgt := 24) (jZ_R hv3) dX12_figure_19 rfl (fun _ => ?_) (fun _ => ?_)
    · refine j_aload_n 0 dX12_figure_24 rfl rfl ?_
      refine j_getr (ci := 12) (k := 2) rfl in_X12 (Nat.le_of_ble_eq_true rfl) rfl rfl fl_X12_16 dX12_figure_25 (fun (v5 : Int) (hv5 : 0 ≤ v5) => ?_)
      refine j_iload_n 1 dX12_figure_28 rfl rfl ?_
      refine j_aload_n 0 dX12_figure_29 rfl rfl ?_
      refine j_get (ci := 12) (k := 10) (t := 0) rfl in_X12 (Nat.le_of_ble_eq_true rfl) rfl rfl fl_X12_108 dX12_figure_30 (fun (v6 : Int) (hv6 : R32 (v6)) => ?_)
      refine j_iastore h1 hv6 dX12_figure_33 (fun S7 => ?_)
      refine j_aload_n 0 dX12_figure_34 rfl rfl ?_
      refine j_callV (ci := 12) (As := []) (st := []) kc_X12_nextToken (c_X12_nextToken a0 S7 h0) rfl lm_X12_170 ki_X12_nextToken ke_X12_nextToken rfl (Nat.le_of_ble_eq_true rfl) (Nat.le_trans (m := 3) (Nat.le_of_ble_eq_true rfl) hd0) dX12_figure_35 (fun v8 S9 _ => ?_)
      refine j_iconst dX12_figure_38 ?_
      exact j_ireturn (jZ_R jz0) dX12_figure_39
    · refine j_iconst dX12_figure_22 ?_
      exact j_ireturn (j_r32 2 rfl) dX12_figure_23
  · refine j_iconst dX12_figure_8 ?_
    exact j_ireturn (jZ_R jz1) dX12_figure_9
theorem c_X12_figure {G : jG} (a0 : Int) (a1 : Int) (a2 : Int) (a3 : Int) (S : jSt) (h0 : 0 ≤ (a0)) (h1 : R32 (a1)) (h2 : R32 (a2)) (h3 : R32 (a3)) : CT G yX12_figure cX12_figure 4 (some .int) 3 ([(2, a0), (0, a1), (0, a2), (0, a3)].map jval) S (f_X12_figure a0 a1 a2 a3 S) := ct_of [(2, a0), (0, a1), (0, a2), (0, a3)] (by decide) rfl (Nat.le_of_ble_eq_true rfl) (e_X12_figure (Nat.le_refl _) a0 a1 a2 a3 S h0 h1 h2 h3)
-- X12_worded
def f_X12_worded (a0 : Int) (a1 : Int) (a2 : Int) (a3 : Int) (a4 : Int) (S : jSt) : Option (Int × jSt) :=
  fcallv S a0 12 (f_X12_isWord a0 a1 S) (fun v1 S2 => if v1 = 0 then some (1, S2) else fcallv S2 a0 12 (f_X12_nextToken a0 S2) (fun v3 S4 => fcallv S4 a0 12 (f_X12_figure a0 a2 a3 a4 S4) (fun v5 S6 => some (v5, S6))))
theorem e_X12_worded {G : jG} {d : Nat} {S0 : jSt} (hd0 : 4 ≤ d) (a0 : Int) (a1 : Int) (a2 : Int) (a3 : Int) (a4 : Int) (S : jSt) (h0 : 0 ≤ (a0)) (h1 : R64 (a1)) (h2 : R32 (a2)) (h3 : R32 (a3)) (h4 : R32 (a4)) : J G yX12_worded cX12_worded 6 (some .int) d S0 0 [(0, 2, a0), (1, 1, a1), (3, 0, a2), (4, 0, a3), (5, 0, a4)] [] S (f_X12_worded a0 a1 a2 a3 a4 S) := by
  unfold f_X12_worded
  refine j_aload_n 0 dX12_worded_0 rfl rfl ?_
  refine j_lload_n 1 dX12_worded_1 rfl rfl ?_
  refine j_callV (ci := 12) (As := [(1, a1)]) (st := []) kc_X12_isWord (c_X12_isWord a0 a1 S h0 h1) rfl lm_X12_185 ki_X12_isWord ke_X12_isWord rfl (Nat.le_of_ble_eq_true rfl) (Nat.le_trans (m := 4) (Nat.le_of_ble_eq_true rfl) hd0) dX12_worded_2 (fun (v1 : Int) (S2 : jSt) (hv1 : (v1) = 0 ∨ (v1) = 1) => ?_)
  refine j_if_ne (tgt := 10) (jZ_R hv1) dX12_worded_5 rfl (fun _ => ?_) (fun _ => ?_)
  · refine j_aload_n 0 dX12_worded_10 rfl rfl ?_
    refine j_callV (ci := 12) (As := []) (st := []) kc_X12_nextToken (c_X12_nextToken a0 S2 h0) rfl lm_X12_170 ki_X12_nextToken ke_X12_nextToken rfl (Nat.le_of_ble_eq_true rfl) (Nat.le_trans (m := 4) (Nat.le_of_ble_eq_true rfl) hd0) dX12_worded_11 (fun v3 S4 _ => ?_)
    refine j_aload_n 0 dX12_worded_14 rfl rfl ?_
    refine j_iload_n 2 dX12_worded_15 rfl rfl ?_
    refine j_iload 3 dX12_worded_16 rfl ?_
    refine j_iload 4 dX12_worded_18 rfl ?_
    refine j_callV (ci := 12) (As := [(0, a2), (0, a3), (0, a4)]) (st := []) kc_X12_figure (c_X12_figure a0 a2 a3 a4 S4 h0 h2 h3 h4) rfl lm_X12_217 ki_X12_figure ke_X12_figure rfl (Nat.le_of_ble_eq_true rfl) (Nat.le_trans (m := 4) (Nat.le_of_ble_eq_true rfl) hd0) dX12_worded_20 (fun (v5 : Int) (S6 : jSt) (hv5 : R32 (v5)) => ?_)
    exact j_ireturn hv5 dX12_worded_23
  · refine j_iconst dX12_worded_8 ?_
    exact j_ireturn (jZ_R jz1) dX12_worded_9
theorem c_X12_worded {G : jG} (a0 : Int) (a1 : Int) (a2 : Int) (a3 : Int) (a4 : Int) (S : jSt) (h0 : 0 ≤ (a0)) (h1 : R64 (a1)) (h2 : R32 (a2)) (h3 : R32 (a3)) (h4 : R32 (a4)) : CT G yX12_worded cX12_worded 6 (some .int) 4 ([(2, a0), (1, a1), (0, a2), (0, a3), (0, a4)].map jval) S (f_X12_worded a0 a1 a2 a3 a4 S) := ct_of [(2, a0), (1, a1), (0, a2), (0, a3), (0, a4)] (by decide) rfl (Nat.le_of_ble_eq_true rfl) (e_X12_worded (Nat.le_refl _) a0 a1 a2 a3 a4 S h0 h1 h2 h3 h4)
-- X12_buyClause
def f_X12_buyClause_b39 (x0 : Int) (S : jSt) : Option (Int × jSt) :=
  some (x0, S)
theorem p_f_X12_buyClause_b39 {G : jG} {d : Nat} {S0 : jSt} (hd0 : 5 ≤ d) : ∀ (x0 : Int) (S : jSt), (R32 (x0)) → J G yX12_buyClause cX12_buyClause 3 (some .int) d S0 39 [] [(0, x0)] S (f_X12_buyClause_b39  x0 S) := by
  intro x0 S h0
  unfold f_X12_buyClause_b39
  exact j_ireturn h0 dX12_buyClause_39
def f_X12_buyClause (a0 : Int) (a1 : Int) (S : jSt) : Option (Int × jSt) :=
  fcallv S a0 12 (f_X12_figure a0 (w32 (a1 + 1)) 0 11 S) (fun v1 S2 => if v1 = 0 then fcall (f_X12_w3 102 111 114 S2) (fun v3 S4 => fcallv S4 a0 12 (f_X12_worded a0 v3 (w32 (a1 + 2)) 0 999 S4) (fun v5 S6 => f_X12_buyClause_b39 v5 S6)) else f_X12_buyClause_b39 v1 S2)
theorem e_X12_buyClause {G : jG} {d : Nat} {S0 : jSt} (hd0 : 5 ≤ d) (a0 : Int) (a1 : Int) (S : jSt) (h0 : 0 ≤ (a0)) (h1 : R32 (a1)) : J G yX12_buyClause cX12_buyClause 3 (some .int) d S0 0 [(0, 2, a0), (1, 0, a1)] [] S (f_X12_buyClause a0 a1 S) := by
  unfold f_X12_buyClause
  refine j_aload_n 0 dX12_buyClause_0 rfl rfl ?_
  refine j_iload_n 1 dX12_buyClause_1 rfl rfl ?_
  refine j_iconst dX12_buyClause_2 ?_
  refine j_iadd dX12_buyClause_3 ?_
  refine j_iconst dX12_buyClause_4 ?_
  refine j_bipush dX12_buyClause_5 (by decide) ?_
  refine j_callV (ci := 12) (As := [(0, w32 (a1 + 1)), (0, 0), (0, 11)]) (st := []) kc_X12_figure (c_X12_figure a0 (w32 (a1 + 1)) 0 11 S h0 (w32_R _) (jZ_R jz0) (j_r32 11 rfl)) rfl lm_X12_217 ki_X12_figure ke_X12_figure rfl (Nat.le_of_ble_eq_true rfl) (Nat.le_trans (m := 5) (Nat.le_of_ble_eq_true rfl) hd0) dX12_buyClause_7 (fun (v1 : Int) (S2 : jSt) (hv1 : R32 (v1)) => ?_)
  refine j_istore_n (lv' := [(2, 0, v1), (0, 2, a0), (1, 0, a1)]) dX12_buyClause_10 rfl (Nat.le_of_ble_eq_true rfl) rfl ?_
  refine j_iload_n 0 dX12_buyClause_11 rfl rfl ?_
  refine j_if_eq (tgt := 19) hv1 dX12_buyClause_12 rfl (fun _ => ?_) (fun _ => ?_)
  · refine j_aload_n 1 dX12_buyClause_19 rfl rfl ?_
    refine j_bipush dX12_buyClause_20 (by decide) ?_
    refine j_bipush dX12_buyClause_22 (by decide) ?_
    refine j_bipush dX12_buyClause_24 (by decide) ?_
    refine j_callS (As := [(0, 102), (0, 111), (0, 114)]) (st := [(2, a0)]) kc_X12_w3 (c_X12_w3 102 111 114 S2 (j_r32 102 rfl) (j_r32 111 rfl) (j_r32 114 rfl)) lm_X12_128 ks_X12_w3 rfl (Nat.le_of_ble_eq_true rfl) (Nat.le_trans (m := 5) (Nat.le_of_ble_eq_true rfl) hd0) dX12_buyClause_26 (fun (v3 : Int) (S4 : jSt) (hv3 : R64 (v3)) => ?_)
    refine j_iload_n 2 dX12_buyClause_29 rfl rfl ?_
    refine j_iconst dX12_buyClause_30 ?_
    refine j_iadd dX12_buyClause_31 ?_
    refine j_iconst dX12_buyClause_32 ?_
    refine j_sipush dX12_buyClause_33 (by decide) ?_
    refine j_callV (ci := 12) (As := [(1, v3), (0, w32 (a1 + 2)), (0, 0), (0, 999)]) (st := []) kc_X12_worded (c_X12_worded a0 v3 (w32 (a1 + 2)) 0 999 S4 h0 hv3 (w32_R _) (jZ_R jz0) (j_r32 999 rfl)) rfl lm_X12_224 ki_X12_worded ke_X12_worded rfl (Nat.le_of_ble_eq_true rfl) (Nat.le_trans (m := 5) (Nat.le_of_ble_eq_true rfl) hd0) dX12_buyClause_36 (fun (v5 : Int) (S6 : jSt) (hv5 : R32 (v5)) => ?_)
    refine j_sub [] rfl ?_
    exact p_f_X12_buyClause_b39 hd0 v5 S6 hv5
  · refine j_iload_n 0 dX12_buyClause_15 rfl rfl ?_
    refine j_goto (tgt := 39) dX12_buyClause_16 rfl ?_
    refine j_sub [] rfl ?_
    exact p_f_X12_buyClause_b39 hd0 v1 S2 hv1
theorem c_X12_buyClause {G : jG} (a0 : Int) (a1 : Int) (S : jSt) (h0 : 0 ≤ (a0)) (h1 : R32 (a1)) : CT G yX12_buyClause cX12_buyClause 3 (some .int) 5 ([(2, a0), (0, a1)].map jval) S (f_X12_buyClause a0 a1 S) := ct_of [(2, a0), (0, a1)] (by decide) rfl (Nat.le_of_ble_eq_true rfl) (e_X12_buyClause (Nat.le_refl _) a0 a1 S h0 h1)
-- X12_summed
def f_X12_summed_b33 (r15 : Int → jSt → Option (Int × jSt)) (x0 : Int) (x1 : Int) (S : jSt) : Option (Int × jSt) :=
  if x1 ≤ 0 then if x1 = 0 then r15 x0 S else fcallv S x0 12 (f_X12_openNow x0 S) (fun v7 S8 => if v7 < 0 then fcallv S8 x0 12 (f_X12_settle x0 1 S8) (fun v9 S10 => some (0, S10)) else some (1, S8)) else some (x1, S)
theorem p_f_X12_summed_b33 {G : jG} {d : Nat} {S0 : jSt} (hd0 : 8 ≤ d) {r15 : Int → jSt → Option (Int × jSt)} (k15 : ∀ (x0 : Int) (S : jSt), (0 ≤ (x0)) → J G yX12_summed cX12_summed 2 (some .int) d S0 15 [(0, 2, x0)] [] S (r15 x0 S)) : ∀ (x0 : Int) (x1 : Int) (S : jSt), (0 ≤ (x0)) → (R32 (x1)) → J G yX12_summed cX12_summed 2 (some .int) d S0 33 [(0, 2, x0)] [(0, x1)] S (f_X12_summed_b33 r15 x0 x1 S) := by
  intro x0 x1 S h0 h1
  unfold f_X12_summed_b33
  refine j_istore_n (lv' := [(1, 0, x1), (0, 2, x0)]) dX12_summed_33 rfl (Nat.le_of_ble_eq_true rfl) rfl ?_
  refine j_iload_n 0 dX12_summed_34 rfl rfl ?_
  refine j_if_le (tgt := 40) h1 dX12_summed_35 rfl (fun _ => ?_) (fun _ => ?_)
  · refine j_iload_n 0 dX12_summed_40 rfl rfl ?_
    refine j_if_ne (tgt := 47) h1 dX12_summed_41 rfl (fun _ => ?_) (fun _ => ?_)
    · refine j_aload_n 1 dX12_summed_47 rfl rfl ?_
      refine j_callV (ci := 12) (As := []) (st := []) kc_X12_openNow (c_X12_openNow x0 S h0) rfl lm_X12_167 ki_X12_openNow ke_X12_openNow rfl (Nat.le_of_ble_eq_true rfl) (Nat.le_trans (m := 8) (Nat.le_of_ble_eq_true rfl) hd0) dX12_summed_48 (fun (v7 : Int) (S8 : jSt) (hv7 : R32 (v7)) => ?_)
      refine j_if_lt (tgt := 56) hv7 dX12_summed_51 rfl (fun _ => ?_) (fun _ => ?_)
      · refine j_aload_n 1 dX12_summed_56 rfl rfl ?_
        refine j_iconst dX12_summed_57 ?_
        refine j_callV (ci := 12) (As := [(0, 1)]) (st := []) kc_X12_settle (c_X12_settle x0 1 S8 h0 (jZ_R jz1)) rfl lm_X12_193 ki_X12_settle ke_X12_settle rfl (Nat.le_of_ble_eq_true rfl) (Nat.le_trans (m := 8) (Nat.le_of_ble_eq_true rfl) hd0) dX12_summed_58 (fun v9 S10 _ => ?_)
        refine j_iconst dX12_summed_61 ?_
        exact j_ireturn (jZ_R jz0) dX12_summed_62
      · refine j_iconst dX12_summed_54 ?_
        exact j_ireturn (jZ_R jz1) dX12_summed_55
    · refine j_goto (tgt := 15) dX12_summed_44 rfl ?_
      refine j_sub [1] rfl ?_
      exact k15 x0 S h0
  · refine j_iload_n 0 dX12_summed_38 rfl rfl ?_
    exact j_ireturn h1 dX12_summed_39
def f_X12_summed_b15B (r15 : Int → jSt → Option (Int × jSt)) (x0 : Int) (S : jSt) : Option (Int × jSt) :=
  fget S x0 12 18 (fun v4 => if v4 = 0 then fcallv S x0 12 (f_X12_beginOne x0 S) (fun v5 S6 => f_X12_summed_b33 r15 x0 v5 S6) else fcallv S x0 12 (f_X12_behindOne x0 S) (fun v11 S12 => f_X12_summed_b33 r15 x0 v11 S12))
theorem p_f_X12_summed_b15B {G : jG} {d : Nat} {S0 : jSt} (hd0 : 8 ≤ d) {r15 : Int → jSt → Option (Int × jSt)} (k15 : ∀ (x0 : Int) (S : jSt), (0 ≤ (x0)) → J G yX12_summed cX12_summed 2 (some .int) d S0 15 [(0, 2, x0)] [] S (r15 x0 S)) : ∀ (x0 : Int) (S : jSt), (0 ≤ (x0)) → J G yX12_summed cX12_summed 2 (some .int) d S0 15 [(0, 2, x0)] [] S (f_X12_summed_b15B r15 x0 S) := by
  intro x0 S h0
  unfold f_X12_summed_b15B
  refine j_aload_n 0 dX12_summed_15 rfl rfl ?_
  refine j_get (ci := 12) (k := 18) (t := 0) rfl in_X12 (Nat.le_of_ble_eq_true rfl) rfl rfl fl_X12_196 dX12_summed_16 (fun (v4 : Int) (hv4 : (v4) = 0 ∨ (v4) = 1) => ?_)
  refine j_if_eq (tgt := 29) (jZ_R hv4) dX12_summed_19 rfl (fun _ => ?_) (fun _ => ?_)
  · refine j_aload_n 0 dX12_summed_29 rfl rfl ?_
    refine j_callV (ci := 12) (As := []) (st := []) kc_X12_beginOne (c_X12_beginOne x0 S h0) rfl lm_X12_214 ki_X12_beginOne ke_X12_beginOne rfl (Nat.le_of_ble_eq_true rfl) (Nat.le_trans (m := 8) (Nat.le_of_ble_eq_true rfl) hd0) dX12_summed_30 (fun (v5 : Int) (S6 : jSt) (hv5 : R32 (v5)) => ?_)
    exact p_f_X12_summed_b33 hd0 k15 x0 v5 S6 h0 hv5
  · refine j_aload_n 0 dX12_summed_22 rfl rfl ?_
    refine j_callV (ci := 12) (As := []) (st := []) kc_X12_behindOne (c_X12_behindOne x0 S h0) rfl lm_X12_211 ki_X12_behindOne ke_X12_behindOne rfl (Nat.le_of_ble_eq_true rfl) (Nat.le_trans (m := 8) (Nat.le_of_ble_eq_true rfl) hd0) dX12_summed_23 (fun (v11 : Int) (S12 : jSt) (hv11 : R32 (v11)) => ?_)
    refine j_goto (tgt := 33) dX12_summed_26 rfl ?_
    exact p_f_X12_summed_b33 hd0 k15 x0 v11 S12 h0 hv11
def f_X12_summed_b15 : Int → jSt → Option (Int × jSt) := jrep (β := Int → jSt → Option (Int × jSt)) (fun _ _ => none) (fun r => f_X12_summed_b15B r) jN
theorem p_f_X12_summed_b15 {G : jG} {d : Nat} {S0 : jSt} (hd0 : 8 ≤ d) : ∀ (x0 : Int) (S : jSt), (0 ≤ (x0)) → J G yX12_summed cX12_summed 2 (some .int) d S0 15 [(0, 2, x0)] [] S (f_X12_summed_b15  x0 S) :=
  jrep_ind (P := fun (r : Int → jSt → Option (Int × jSt)) => ∀ (x0 : Int) (S : jSt), (0 ≤ (x0)) → J G yX12_summed cX12_summed 2 (some .int) d S0 15 [(0, 2, x0)] [] S (r x0 S)) (by intros; exact j_none) (fun r k => p_f_X12_summed_b15B hd0 k) jN
def f_X12_summed (a0 : Int) (S : jSt) : Option (Int × jSt) :=
  fput S a0 12 16 0 (fun S1 => fput S1 a0 12 17 0 (fun S2 => fput S2 a0 12 18 0 (fun S3 => f_X12_summed_b15 a0 S3)))
theorem e_X12_summed {G : jG} {d : Nat} {S0 : jSt} (hd0 : 8 ≤ d) (a0 : Int) (S : jSt) (h0 : 0 ≤ (a0)) : J G yX12_summed cX12_summed 2 (some .int) d S0 0 [(0, 2, a0)] [] S (f_X12_summed a0 S) := by
  unfold f_X12_summed
  refine j_aload_n 0 dX12_summed_0 rfl rfl ?_
  refine j_iconst dX12_summed_1 ?_
  refine j_puti (ci := 12) (k := 16) (ty0 := tyX12) rfl in_X12 (Nat.le_of_ble_eq_true rfl) rfl tyX12_ok nmX12 rfl rfl (by decide +kernel) (jZ_R jz0) fl_X12_150 dX12_summed_2 (fun S1 => ?_)
  refine j_aload_n 0 dX12_summed_5 rfl rfl ?_
  refine j_iconst dX12_summed_6 ?_
  refine j_puti (ci := 12) (k := 17) (ty0 := tyX12) rfl in_X12 (Nat.le_of_ble_eq_true rfl) rfl tyX12_ok nmX12 rfl rfl (by decide +kernel) (jZ_R jz0) fl_X12_160 dX12_summed_7 (fun S2 => ?_)
  refine j_aload_n 0 dX12_summed_10 rfl rfl ?_
  refine j_iconst dX12_summed_11 ?_
  refine j_putz (ci := 12) (k := 18) (ty0 := tyX12) rfl in_X12 (Nat.le_of_ble_eq_true rfl) rfl tyX12_ok nmX12 rfl rfl (by decide +kernel) jz0 fl_X12_196 dX12_summed_12 (fun S3 => ?_)
  exact p_f_X12_summed_b15 hd0 a0 S3 h0
theorem c_X12_summed {G : jG} (a0 : Int) (S : jSt) (h0 : 0 ≤ (a0)) : CT G yX12_summed cX12_summed 2 (some .int) 8 ([(2, a0)].map jval) S (f_X12_summed a0 S) := ct_of [(2, a0)] (by decide) rfl (Nat.le_of_ble_eq_true rfl) (e_X12_summed (Nat.le_refl _) a0 S h0)
-- X12_lawClause
def f_X12_lawClause (a0 : Int) (a1 : Int) (S : jSt) : Option (Int × jSt) :=
  fgetr S a0 12 2 (fun v1 => fget S a0 12 13 (fun v2 => fast S v1 (w32 (a1 + 1)) 1 v2 (fun S3 => fcallv S3 a0 12 (f_X12_summed a0 S3) (fun v4 S5 => fgetr S5 a0 12 2 (fun v6 => fget S5 a0 12 13 (fun v7 => fast S5 v6 (w32 (a1 + 2)) 1 v7 (fun S8 => some (v4, S8))))))))
theorem e_X12_lawClause {G : jG} {d : Nat} {S0 : jSt} (hd0 : 9 ≤ d) (a0 : Int) (a1 : Int) (S : jSt) (h0 : 0 ≤ (a0)) (h1 : R32 (a1)) : J G yX12_lawClause cX12_lawClause 3 (some .int) d S0 0 [(0, 2, a0), (1, 0, a1)] [] S (f_X12_lawClause a0 a1 S) := by
  unfold f_X12_lawClause
  refine j_aload_n 0 dX12_lawClause_0 rfl rfl ?_
  refine j_getr (ci := 12) (k := 2) rfl in_X12 (Nat.le_of_ble_eq_true rfl) rfl rfl fl_X12_16 dX12_lawClause_1 (fun (v1 : Int) (hv1 : 0 ≤ v1) => ?_)
  refine j_iload_n 1 dX12_lawClause_4 rfl rfl ?_
  refine j_iconst dX12_lawClause_5 ?_
  refine j_iadd dX12_lawClause_6 ?_
  refine j_aload_n 0 dX12_lawClause_7 rfl rfl ?_
  refine j_get (ci := 12) (k := 13) (t := 0) rfl in_X12 (Nat.le_of_ble_eq_true rfl) rfl rfl fl_X12_143 dX12_lawClause_8 (fun (v2 : Int) (hv2 : R32 (v2)) => ?_)
  refine j_iastore (w32_R _) hv2 dX12_lawClause_11 (fun S3 => ?_)
  refine j_aload_n 0 dX12_lawClause_12 rfl rfl ?_
  refine j_callV (ci := 12) (As := []) (st := []) kc_X12_summed (c_X12_summed a0 S3 h0) rfl lm_X12_221 ki_X12_summed ke_X12_summed rfl (Nat.le_of_ble_eq_true rfl) (Nat.le_trans (m := 9) (Nat.le_of_ble_eq_true rfl) hd0) dX12_lawClause_13 (fun (v4 : Int) (S5 : jSt) (hv4 : R32 (v4)) => ?_)
  refine j_istore_n (lv' := [(2, 0, v4), (0, 2, a0), (1, 0, a1)]) dX12_lawClause_16 rfl (Nat.le_of_ble_eq_true rfl) rfl ?_
  refine j_aload_n 1 dX12_lawClause_17 rfl rfl ?_
  refine j_getr (ci := 12) (k := 2) rfl in_X12 (Nat.le_of_ble_eq_true rfl) rfl rfl fl_X12_16 dX12_lawClause_18 (fun (v6 : Int) (hv6 : 0 ≤ v6) => ?_)
  refine j_iload_n 2 dX12_lawClause_21 rfl rfl ?_
  refine j_iconst dX12_lawClause_22 ?_
  refine j_iadd dX12_lawClause_23 ?_
  refine j_aload_n 1 dX12_lawClause_24 rfl rfl ?_
  refine j_get (ci := 12) (k := 13) (t := 0) rfl in_X12 (Nat.le_of_ble_eq_true rfl) rfl rfl fl_X12_143 dX12_lawClause_25 (fun (v7 : Int) (hv7 : R32 (v7)) => ?_)
  refine j_iastore (w32_R _) hv7 dX12_lawClause_28 (fun S8 => ?_)
  refine j_iload_n 0 dX12_lawClause_29 rfl rfl ?_
  exact j_ireturn hv4 dX12_lawClause_30
theorem c_X12_lawClause {G : jG} (a0 : Int) (a1 : Int) (S : jSt) (h0 : 0 ≤ (a0)) (h1 : R32 (a1)) : CT G yX12_lawClause cX12_lawClause 3 (some .int) 9 ([(2, a0), (0, a1)].map jval) S (f_X12_lawClause a0 a1 S) := ct_of [(2, a0), (0, a1)] (by decide) rfl (Nat.le_of_ble_eq_true rfl) (e_X12_lawClause (Nat.le_refl _) a0 a1 S h0 h1)
-- X12_lotClause
def f_X12_lotClause_b71 (x0 : Int) (S : jSt) : Option (Int × jSt) :=
  some (x0, S)
theorem p_f_X12_lotClause_b71 {G : jG} {d : Nat} {S0 : jSt} (hd0 : 6 ≤ d) : ∀ (x0 : Int) (S : jSt), (R32 (x0)) → J G yX12_lotClause cX12_lotClause 3 (some .int) d S0 71 [] [(0, x0)] S (f_X12_lotClause_b71  x0 S) := by
  intro x0 S h0
  unfold f_X12_lotClause_b71
  exact j_ireturn h0 dX12_lotClause_71
def f_X12_lotClause_b38 (x0 : Int) (x1 : Int) (x2 : Int) (S : jSt) : Option (Int × jSt) :=
  if x2 = 0 then fcall (f_X12_w6 119 101 105 103 104 116 S) (fun v3 S4 => fcallv S4 x0 12 (f_X12_worded x0 v3 (w32 (x1 + 3)) 1 9 S4) (fun v5 S6 => f_X12_lotClause_b71 v5 S6)) else f_X12_lotClause_b71 x2 S
theorem p_f_X12_lotClause_b38 {G : jG} {d : Nat} {S0 : jSt} (hd0 : 6 ≤ d) : ∀ (x0 : Int) (x1 : Int) (x2 : Int) (S : jSt), (0 ≤ (x0)) → (R32 (x1)) → (R32 (x2)) → J G yX12_lotClause cX12_lotClause 3 (some .int) d S0 38 [(0, 2, x0), (1, 0, x1), (2, 0, x2)] [] S (f_X12_lotClause_b38  x0 x1 x2 S) := by
  intro x0 x1 x2 S h0 h1 h2
  unfold f_X12_lotClause_b38
  refine j_iload_n 2 dX12_lotClause_38 rfl rfl ?_
  refine j_if_eq (tgt := 46) h2 dX12_lotClause_39 rfl (fun _ => ?_) (fun _ => ?_)
  · refine j_aload_n 0 dX12_lotClause_46 rfl rfl ?_
    refine j_bipush dX12_lotClause_47 (by decide) ?_
    refine j_bipush dX12_lotClause_49 (by decide) ?_
    refine j_bipush dX12_lotClause_51 (by decide) ?_
    refine j_bipush dX12_lotClause_53 (by decide) ?_
    refine j_bipush dX12_lotClause_55 (by decide) ?_
    refine j_bipush dX12_lotClause_57 (by decide) ?_
    refine j_callS (As := [(0, 119), (0, 101), (0, 105), (0, 103), (0, 104), (0, 116)]) (st := [(2, x0)]) kc_X12_w6 (c_X12_w6 119 101 105 103 104 116 S (j_r32 119 rfl) (j_r32 101 rfl) (j_r32 105 rfl) (j_r32 103 rfl) (j_r32 104 rfl) (j_r32 116 rfl)) lm_X12_146 ks_X12_w6 rfl (Nat.le_of_ble_eq_true rfl) (Nat.le_trans (m := 6) (Nat.le_of_ble_eq_true rfl) hd0) dX12_lotClause_59 (fun (v3 : Int) (S4 : jSt) (hv3 : R64 (v3)) => ?_)
    refine j_iload_n 1 dX12_lotClause_62 rfl rfl ?_
    refine j_iconst dX12_lotClause_63 ?_
    refine j_iadd dX12_lotClause_64 ?_
    refine j_iconst dX12_lotClause_65 ?_
    refine j_bipush dX12_lotClause_66 (by decide) ?_
    refine j_callV (ci := 12) (As := [(1, v3), (0, w32 (x1 + 3)), (0, 1), (0, 9)]) (st := []) kc_X12_worded (c_X12_worded x0 v3 (w32 (x1 + 3)) 1 9 S4 h0 hv3 (w32_R _) (jZ_R jz1) (j_r32 9 rfl)) rfl lm_X12_224 ki_X12_worded ke_X12_worded rfl (Nat.le_of_ble_eq_true rfl) (Nat.le_trans (m := 6) (Nat.le_of_ble_eq_true rfl) hd0) dX12_lotClause_68 (fun (v5 : Int) (S6 : jSt) (hv5 : R32 (v5)) => ?_)
    refine j_sub [] rfl ?_
    exact p_f_X12_lotClause_b71 hd0 v5 S6 hv5
  · refine j_iload_n 2 dX12_lotClause_42 rfl rfl ?_
    refine j_goto (tgt := 71) dX12_lotClause_43 rfl ?_
    refine j_sub [] rfl ?_
    exact p_f_X12_lotClause_b71 hd0 x2 S h2
def f_X12_lotClause (a0 : Int) (a1 : Int) (S : jSt) : Option (Int × jSt) :=
  fcallv S a0 12 (f_X12_figure a0 (w32 (a1 + 1)) 0 5 S) (fun v1 S2 => if v1 = 0 then fcall (f_X12_w5 119 111 114 116 104 S2) (fun v7 S8 => fcallv S8 a0 12 (f_X12_worded a0 v7 (w32 (a1 + 2)) 0 99 S8) (fun v9 S10 => f_X12_lotClause_b38 a0 a1 v9 S10)) else f_X12_lotClause_b38 a0 a1 v1 S2)
theorem e_X12_lotClause {G : jG} {d : Nat} {S0 : jSt} (hd0 : 6 ≤ d) (a0 : Int) (a1 : Int) (S : jSt) (h0 : 0 ≤ (a0)) (h1 : R32 (a1)) : J G yX12_lotClause cX12_lotClause 3 (some .int) d S0 0 [(0, 2, a0), (1, 0, a1)] [] S (f_X12_lotClause a0 a1 S) := by
  unfold f_X12_lotClause
  refine j_aload_n 0 dX12_lotClause_0 rfl rfl ?_
  refine j_iload_n 1 dX12_lotClause_1 rfl rfl ?_
  refine j_iconst dX12_lotClause_2 ?_
  refine j_iadd dX12_lotClause_3 ?_
  refine j_iconst dX12_lotClause_4 ?_
  refine j_iconst dX12_lotClause_5 ?_
  refine j_callV (ci := 12) (As := [(0, w32 (a1 + 1)), (0, 0), (0, 5)]) (st := []) kc_X12_figure (c_X12_figure a0 (w32 (a1 + 1)) 0 5 S h0 (w32_R _) (jZ_R jz0) (j_r32 5 rfl)) rfl lm_X12_217 ki_X12_figure ke_X12_figure rfl (Nat.le_of_ble_eq_true rfl) (Nat.le_trans (m := 6) (Nat.le_of_ble_eq_true rfl) hd0) dX12_lotClause_6 (fun (v1 : Int) (S2 : jSt) (hv1 : R32 (v1)) => ?_)
  refine j_istore_n (lv' := [(2, 0, v1), (0, 2, a0), (1, 0, a1)]) dX12_lotClause_9 rfl (Nat.le_of_ble_eq_true rfl) rfl ?_
  refine j_iload_n 0 dX12_lotClause_10 rfl rfl ?_
  refine j_if_ne (tgt := 38) hv1 dX12_lotClause_11 rfl (fun _ => ?_) (fun _ => ?_)
  · refine j_sub [1, 2, 0] rfl ?_
    exact p_f_X12_lotClause_b38 hd0 a0 a1 v1 S2 h0 h1 hv1
  · refine j_aload_n 1 dX12_lotClause_14 rfl rfl ?_
    refine j_bipush dX12_lotClause_15 (by decide) ?_
    refine j_bipush dX12_lotClause_17 (by decide) ?_
    refine j_bipush dX12_lotClause_19 (by decide) ?_
    refine j_bipush dX12_lotClause_21 (by decide) ?_
    refine j_bipush dX12_lotClause_23 (by decide) ?_
    refine j_callS (As := [(0, 119), (0, 111), (0, 114), (0, 116), (0, 104)]) (st := [(2, a0)]) kc_X12_w5 (c_X12_w5 119 111 114 116 104 S2 (j_r32 119 rfl) (j_r32 111 rfl) (j_r32 114 rfl) (j_r32 116 rfl) (j_r32 104 rfl)) lm_X12_136 ks_X12_w5 rfl (Nat.le_of_ble_eq_true rfl) (Nat.le_trans (m := 6) (Nat.le_of_ble_eq_true rfl) hd0) dX12_lotClause_25 (fun (v7 : Int) (S8 : jSt) (hv7 : R64 (v7)) => ?_)
    refine j_iload_n 2 dX12_lotClause_28 rfl rfl ?_
    refine j_iconst dX12_lotClause_29 ?_
    refine j_iadd dX12_lotClause_30 ?_
    refine j_iconst dX12_lotClause_31 ?_
    refine j_bipush dX12_lotClause_32 (by decide) ?_
    refine j_callV (ci := 12) (As := [(1, v7), (0, w32 (a1 + 2)), (0, 0), (0, 99)]) (st := []) kc_X12_worded (c_X12_worded a0 v7 (w32 (a1 + 2)) 0 99 S8 h0 hv7 (w32_R _) (jZ_R jz0) (j_r32 99 rfl)) rfl lm_X12_224 ki_X12_worded ke_X12_worded rfl (Nat.le_of_ble_eq_true rfl) (Nat.le_trans (m := 6) (Nat.le_of_ble_eq_true rfl) hd0) dX12_lotClause_34 (fun (v9 : Int) (S10 : jSt) (hv9 : R32 (v9)) => ?_)
    refine j_istore_n (lv' := [(2, 0, v9), (0, 2, a0), (1, 0, a1)]) dX12_lotClause_37 rfl (Nat.le_of_ble_eq_true rfl) rfl ?_
    refine j_sub [1, 2, 0] rfl ?_
    exact p_f_X12_lotClause_b38 hd0 a0 a1 v9 S10 h0 h1 hv9
theorem c_X12_lotClause {G : jG} (a0 : Int) (a1 : Int) (S : jSt) (h0 : 0 ≤ (a0)) (h1 : R32 (a1)) : CT G yX12_lotClause cX12_lotClause 3 (some .int) 6 ([(2, a0), (0, a1)].map jval) S (f_X12_lotClause a0 a1 S) := ct_of [(2, a0), (0, a1)] (by decide) rfl (Nat.le_of_ble_eq_true rfl) (e_X12_lotClause (Nat.le_refl _) a0 a1 S h0 h1)
-- X12_wantClause
def f_X12_wantClause_b57 (x0 : Int) (S : jSt) : Option (Int × jSt) :=
  some (x0, S)
theorem p_f_X12_wantClause_b57 {G : jG} {d : Nat} {S0 : jSt} (hd0 : 5 ≤ d) : ∀ (x0 : Int) (S : jSt), (R32 (x0)) → J G yX12_wantClause cX12_wantClause 3 (some .int) d S0 57 [] [(0, x0)] S (f_X12_wantClause_b57  x0 S) := by
  intro x0 S h0
  unfold f_X12_wantClause_b57
  exact j_ireturn h0 dX12_wantClause_57
def f_X12_wantClause_b33 (x0 : Int) (x1 : Int) (x2 : Int) (S : jSt) : Option (Int × jSt) :=
  if x2 = 0 then fcall (f_X12_w2 98 121 S) (fun v3 S4 => fcallv S4 x0 12 (f_X12_worded x0 v3 (w32 (x1 + 3)) 0 4 S4) (fun v5 S6 => f_X12_wantClause_b57 v5 S6)) else f_X12_wantClause_b57 x2 S
theorem p_f_X12_wantClause_b33 {G : jG} {d : Nat} {S0 : jSt} (hd0 : 5 ≤ d) : ∀ (x0 : Int) (x1 : Int) (x2 : Int) (S : jSt), (0 ≤ (x0)) → (R32 (x1)) → (R32 (x2)) → J G yX12_wantClause cX12_wantClause 3 (some .int) d S0 33 [(0, 2, x0), (1, 0, x1), (2, 0, x2)] [] S (f_X12_wantClause_b33  x0 x1 x2 S) := by
  intro x0 x1 x2 S h0 h1 h2
  unfold f_X12_wantClause_b33
  refine j_iload_n 2 dX12_wantClause_33 rfl rfl ?_
  refine j_if_eq (tgt := 41) h2 dX12_wantClause_34 rfl (fun _ => ?_) (fun _ => ?_)
  · refine j_aload_n 0 dX12_wantClause_41 rfl rfl ?_
    refine j_bipush dX12_wantClause_42 (by decide) ?_
    refine j_bipush dX12_wantClause_44 (by decide) ?_
    refine j_callS (As := [(0, 98), (0, 121)]) (st := [(2, x0)]) kc_X12_w2 (c_X12_w2 98 121 S (j_r32 98 rfl) (j_r32 121 rfl)) lm_X12_124 ks_X12_w2 rfl (Nat.le_of_ble_eq_true rfl) (Nat.le_trans (m := 5) (Nat.le_of_ble_eq_true rfl) hd0) dX12_wantClause_46 (fun (v3 : Int) (S4 : jSt) (hv3 : R64 (v3)) => ?_)
    refine j_iload_n 1 dX12_wantClause_49 rfl rfl ?_
    refine j_iconst dX12_wantClause_50 ?_
    refine j_iadd dX12_wantClause_51 ?_
    refine j_iconst dX12_wantClause_52 ?_
    refine j_iconst dX12_wantClause_53 ?_
    refine j_callV (ci := 12) (As := [(1, v3), (0, w32 (x1 + 3)), (0, 0), (0, 4)]) (st := []) kc_X12_worded (c_X12_worded x0 v3 (w32 (x1 + 3)) 0 4 S4 h0 hv3 (w32_R _) (jZ_R jz0) (j_r32 4 rfl)) rfl lm_X12_224 ki_X12_worded ke_X12_worded rfl (Nat.le_of_ble_eq_true rfl) (Nat.le_trans (m := 5) (Nat.le_of_ble_eq_true rfl) hd0) dX12_wantClause_54 (fun (v5 : Int) (S6 : jSt) (hv5 : R32 (v5)) => ?_)
    refine j_sub [] rfl ?_
    exact p_f_X12_wantClause_b57 hd0 v5 S6 hv5
  · refine j_iload_n 2 dX12_wantClause_37 rfl rfl ?_
    refine j_goto (tgt := 57) dX12_wantClause_38 rfl ?_
    refine j_sub [] rfl ?_
    exact p_f_X12_wantClause_b57 hd0 x2 S h2
def f_X12_wantClause (a0 : Int) (a1 : Int) (S : jSt) : Option (Int × jSt) :=
  fcallv S a0 12 (f_X12_figure a0 (w32 (a1 + 1)) 0 99 S) (fun v1 S2 => if v1 = 0 then fcall (f_X12_w2 111 102 S2) (fun v7 S8 => fcallv S8 a0 12 (f_X12_worded a0 v7 (w32 (a1 + 2)) 0 11 S8) (fun v9 S10 => f_X12_wantClause_b33 a0 a1 v9 S10)) else f_X12_wantClause_b33 a0 a1 v1 S2)
theorem e_X12_wantClause {G : jG} {d : Nat} {S0 : jSt} (hd0 : 5 ≤ d) (a0 : Int) (a1 : Int) (S : jSt) (h0 : 0 ≤ (a0)) (h1 : R32 (a1)) : J G yX12_wantClause cX12_wantClause 3 (some .int) d S0 0 [(0, 2, a0), (1, 0, a1)] [] S (f_X12_wantClause a0 a1 S) := by
  unfold f_X12_wantClause
  refine j_aload_n 0 dX12_wantClause_0 rfl rfl ?_
  refine j_iload_n 1 dX12_wantClause_1 rfl rfl ?_
  refine j_iconst dX12_wantClause_2 ?_
  refine j_iadd dX12_wantClause_3 ?_
  refine j_iconst dX12_wantClause_4 ?_
  refine j_bipush dX12_wantClause_5 (by decide) ?_
  refine j_callV (ci := 12) (As := [(0, w32 (a1 + 1)), (0, 0), (0, 99)]) (st := []) kc_X12_figure (c_X12_figure a0 (w32 (a1 + 1)) 0 99 S h0 (w32_R _) (jZ_R jz0) (j_r32 99 rfl)) rfl lm_X12_217 ki_X12_figure ke_X12_figure rfl (Nat.le_of_ble_eq_true rfl) (Nat.le_trans (m := 5) (Nat.le_of_ble_eq_true rfl) hd0) dX12_wantClause_7 (fun (v1 : Int) (S2 : jSt) (hv1 : R32 (v1)) => ?_)
  refine j_istore_n (lv' := [(2, 0, v1), (0, 2, a0), (1, 0, a1)]) dX12_wantClause_10 rfl (Nat.le_of_ble_eq_true rfl) rfl ?_
  refine j_iload_n 0 dX12_wantClause_11 rfl rfl ?_
  refine j_if_ne (tgt := 33) hv1 dX12_wantClause_12 rfl (fun _ => ?_) (fun _ => ?_)
  · refine j_sub [1, 2, 0] rfl ?_
    exact p_f_X12_wantClause_b33 hd0 a0 a1 v1 S2 h0 h1 hv1
  · refine j_aload_n 1 dX12_wantClause_15 rfl rfl ?_
    refine j_bipush dX12_wantClause_16 (by decide) ?_
    refine j_bipush dX12_wantClause_18 (by decide) ?_
    refine j_callS (As := [(0, 111), (0, 102)]) (st := [(2, a0)]) kc_X12_w2 (c_X12_w2 111 102 S2 (j_r32 111 rfl) (j_r32 102 rfl)) lm_X12_124 ks_X12_w2 rfl (Nat.le_of_ble_eq_true rfl) (Nat.le_trans (m := 5) (Nat.le_of_ble_eq_true rfl) hd0) dX12_wantClause_20 (fun (v7 : Int) (S8 : jSt) (hv7 : R64 (v7)) => ?_)
    refine j_iload_n 2 dX12_wantClause_23 rfl rfl ?_
    refine j_iconst dX12_wantClause_24 ?_
    refine j_iadd dX12_wantClause_25 ?_
    refine j_iconst dX12_wantClause_26 ?_
    refine j_bipush dX12_wantClause_27 (by decide) ?_
    refine j_callV (ci := 12) (As := [(1, v7), (0, w32 (a1 + 2)), (0, 0), (0, 11)]) (st := []) kc_X12_worded (c_X12_worded a0 v7 (w32 (a1 + 2)) 0 11 S8 h0 hv7 (w32_R _) (jZ_R jz0) (j_r32 11 rfl)) rfl lm_X12_224 ki_X12_worded ke_X12_worded rfl (Nat.le_of_ble_eq_true rfl) (Nat.le_trans (m := 5) (Nat.le_of_ble_eq_true rfl) hd0) dX12_wantClause_29 (fun (v9 : Int) (S10 : jSt) (hv9 : R32 (v9)) => ?_)
    refine j_istore_n (lv' := [(2, 0, v9), (0, 2, a0), (1, 0, a1)]) dX12_wantClause_32 rfl (Nat.le_of_ble_eq_true rfl) rfl ?_
    refine j_sub [1, 2, 0] rfl ?_
    exact p_f_X12_wantClause_b33 hd0 a0 a1 v9 S10 h0 h1 hv9
theorem c_X12_wantClause {G : jG} (a0 : Int) (a1 : Int) (S : jSt) (h0 : 0 ≤ (a0)) (h1 : R32 (a1)) : CT G yX12_wantClause cX12_wantClause 3 (some .int) 5 ([(2, a0), (0, a1)].map jval) S (f_X12_wantClause a0 a1 S) := ct_of [(2, a0), (0, a1)] (by decide) rfl (Nat.le_of_ble_eq_true rfl) (e_X12_wantClause (Nat.le_refl _) a0 a1 S h0 h1)
-- X12_body
def f_X12_body_b112 (x0 : Int) (S : jSt) : Option (Int × jSt) :=
  some (x0, S)
theorem p_f_X12_body_b112 {G : jG} {d : Nat} {S0 : jSt} (hd0 : 10 ≤ d) : ∀ (x0 : Int) (S : jSt), (R32 (x0)) → J G yX12_body cX12_body 3 (some .int) d S0 112 [] [(0, x0)] S (f_X12_body_b112  x0 S) := by
  intro x0 S h0
  unfold f_X12_body_b112
  exact j_ireturn h0 dX12_body_112
def f_X12_body_b89 (x0 : Int) (x1 : Int) (x2 : Int) (S : jSt) : Option (Int × jSt) :=
  if 2 < x1 then fcallv S x0 12 (f_X12_figure x0 (w32 (x2 + 1)) 0 11 S) (fun v7 S8 => f_X12_body_b112 v7 S8) else fcallv S x0 12 (f_X12_lawClause x0 x2 S) (fun v9 S10 => f_X12_body_b112 v9 S10)
theorem p_f_X12_body_b89 {G : jG} {d : Nat} {S0 : jSt} (hd0 : 10 ≤ d) : ∀ (x0 : Int) (x1 : Int) (x2 : Int) (S : jSt), (0 ≤ (x0)) → (R32 (x1)) → (R32 (x2)) → J G yX12_body cX12_body 3 (some .int) d S0 89 [(0, 2, x0), (1, 0, x1), (2, 0, x2)] [] S (f_X12_body_b89  x0 x1 x2 S) := by
  intro x0 x1 x2 S h0 h1 h2
  unfold f_X12_body_b89
  refine j_iload_n 1 dX12_body_89 rfl rfl ?_
  refine j_iconst dX12_body_90 ?_
  refine j_icmp_gt (tgt := 102) h1 (j_r32 2 rfl) dX12_body_91 rfl (fun _ => ?_) (fun _ => ?_)
  · refine j_aload_n 0 dX12_body_102 rfl rfl ?_
    refine j_iload_n 2 dX12_body_103 rfl rfl ?_
    refine j_iconst dX12_body_104 ?_
    refine j_iadd dX12_body_105 ?_
    refine j_iconst dX12_body_106 ?_
    refine j_bipush dX12_body_107 (by decide) ?_
    refine j_callV (ci := 12) (As := [(0, w32 (x2 + 1)), (0, 0), (0, 11)]) (st := []) kc_X12_figure (c_X12_figure x0 (w32 (x2 + 1)) 0 11 S h0 (w32_R _) (jZ_R jz0) (j_r32 11 rfl)) rfl lm_X12_217 ki_X12_figure ke_X12_figure rfl (Nat.le_of_ble_eq_true rfl) (Nat.le_trans (m := 10) (Nat.le_of_ble_eq_true rfl) hd0) dX12_body_109 (fun (v7 : Int) (S8 : jSt) (hv7 : R32 (v7)) => ?_)
    refine j_sub [] rfl ?_
    exact p_f_X12_body_b112 hd0 v7 S8 hv7
  · refine j_aload_n 0 dX12_body_94 rfl rfl ?_
    refine j_iload_n 2 dX12_body_95 rfl rfl ?_
    refine j_callV (ci := 12) (As := [(0, x2)]) (st := []) kc_X12_lawClause (c_X12_lawClause x0 x2 S h0 h2) rfl lm_X12_237 ki_X12_lawClause ke_X12_lawClause rfl (Nat.le_of_ble_eq_true rfl) (Nat.le_trans (m := 10) (Nat.le_of_ble_eq_true rfl) hd0) dX12_body_96 (fun (v9 : Int) (S10 : jSt) (hv9 : R32 (v9)) => ?_)
    refine j_goto (tgt := 112) dX12_body_99 rfl ?_
    refine j_sub [] rfl ?_
    exact p_f_X12_body_b112 hd0 v9 S10 hv9
def f_X12_body (a0 : Int) (a1 : Int) (a2 : Int) (S : jSt) : Option (Int × jSt) :=
  if a1 = 3 then fcallv S a0 12 (f_X12_lotClause a0 a2 S) (fun v1 S2 => some (v1, S2)) else if a1 = 4 then fcallv S a0 12 (f_X12_figure a0 (w32 (a2 + 1)) 0 9999 S) (fun v3 S4 => some (v3, S4)) else if a1 = 5 then fcallv S a0 12 (f_X12_wantClause a0 a2 S) (fun v5 S6 => some (v5, S6)) else if a1 = 6 then f_X12_body_b89 a0 a1 a2 S else if a1 = 7 then f_X12_body_b89 a0 a1 a2 S else if a1 = 8 then f_X12_body_b89 a0 a1 a2 S else if a1 = 9 then fcallv S a0 12 (f_X12_buyClause a0 a2 S) (fun v11 S12 => some (v11, S12)) else if a1 = 10 then fcallv S a0 12 (f_X12_figure a0 (w32 (a2 + 1)) 1 60 S) (fun v13 S14 => some (v13, S14)) else f_X12_body_b89 a0 a1 a2 S
theorem e_X12_body {G : jG} {d : Nat} {S0 : jSt} (hd0 : 10 ≤ d) (a0 : Int) (a1 : Int) (a2 : Int) (S : jSt) (h0 : 0 ≤ (a0)) (h1 : R32 (a1)) (h2 : R32 (a2)) : J G yX12_body cX12_body 3 (some .int) d S0 0 [(0, 2, a0), (1, 0, a1), (2, 0, a2)] [] S (f_X12_body a0 a1 a2 S) := by
  unfold f_X12_body
  refine j_iload_n 1 dX12_body_0 rfl rfl ?_
  refine j_ite (fun hc0 => ?_) (fun hc0 => ?_)
  · refine j_tableIn (tgt := 48) (off := 47) h1 dX12_body_1 (by omega) (by omega) (by rw [hc0]; rfl) rfl ?_
    refine j_aload_n 0 dX12_body_48 rfl rfl ?_
    refine j_iload_n 2 dX12_body_49 rfl rfl ?_
    refine j_callV (ci := 12) (As := [(0, a2)]) (st := []) kc_X12_lotClause (c_X12_lotClause a0 a2 S h0 h2) rfl lm_X12_228 ki_X12_lotClause ke_X12_lotClause rfl (Nat.le_of_ble_eq_true rfl) (Nat.le_trans (m := 10) (Nat.le_of_ble_eq_true rfl) hd0) dX12_body_50 (fun (v1 : Int) (S2 : jSt) (hv1 : R32 (v1)) => ?_)
    exact j_ireturn hv1 dX12_body_53
  refine j_ite (fun hc1 => ?_) (fun hc1 => ?_)
  · refine j_tableIn (tgt := 54) (off := 53) h1 dX12_body_1 (by omega) (by omega) (by rw [hc1]; rfl) rfl ?_
    refine j_aload_n 0 dX12_body_54 rfl rfl ?_
    refine j_iload_n 2 dX12_body_55 rfl rfl ?_
    refine j_iconst dX12_body_56 ?_
    refine j_iadd dX12_body_57 ?_
    refine j_iconst dX12_body_58 ?_
    refine j_sipush dX12_body_59 (by decide) ?_
    refine j_callV (ci := 12) (As := [(0, w32 (a2 + 1)), (0, 0), (0, 9999)]) (st := []) kc_X12_figure (c_X12_figure a0 (w32 (a2 + 1)) 0 9999 S h0 (w32_R _) (jZ_R jz0) (j_r32 9999 rfl)) rfl lm_X12_217 ki_X12_figure ke_X12_figure rfl (Nat.le_of_ble_eq_true rfl) (Nat.le_trans (m := 10) (Nat.le_of_ble_eq_true rfl) hd0) dX12_body_62 (fun (v3 : Int) (S4 : jSt) (hv3 : R32 (v3)) => ?_)
    exact j_ireturn hv3 dX12_body_65
  refine j_ite (fun hc2 => ?_) (fun hc2 => ?_)
  · refine j_tableIn (tgt := 66) (off := 65) h1 dX12_body_1 (by omega) (by omega) (by rw [hc2]; rfl) rfl ?_
    refine j_aload_n 0 dX12_body_66 rfl rfl ?_
    refine j_iload_n 2 dX12_body_67 rfl rfl ?_
    refine j_callV (ci := 12) (As := [(0, a2)]) (st := []) kc_X12_wantClause (c_X12_wantClause a0 a2 S h0 h2) rfl lm_X12_231 ki_X12_wantClause ke_X12_wantClause rfl (Nat.le_of_ble_eq_true rfl) (Nat.le_trans (m := 10) (Nat.le_of_ble_eq_true rfl) hd0) dX12_body_68 (fun (v5 : Int) (S6 : jSt) (hv5 : R32 (v5)) => ?_)
    exact j_ireturn hv5 dX12_body_71
  refine j_ite (fun hc3 => ?_) (fun hc3 => ?_)
  · refine j_tableIn (tgt := 89) (off := 88) h1 dX12_body_1 (by omega) (by omega) (by rw [hc3]; rfl) rfl ?_
    exact p_f_X12_body_b89 hd0 a0 a1 a2 S h0 h1 h2
  refine j_ite (fun hc4 => ?_) (fun hc4 => ?_)
  · refine j_tableIn (tgt := 89) (off := 88) h1 dX12_body_1 (by omega) (by omega) (by rw [hc4]; rfl) rfl ?_
    exact p_f_X12_body_b89 hd0 a0 a1 a2 S h0 h1 h2
  refine j_ite (fun hc5 => ?_) (fun hc5 => ?_)
  · refine j_tableIn (tgt := 89) (off := 88) h1 dX12_body_1 (by omega) (by omega) (by rw [hc5]; rfl) rfl ?_
    exact p_f_X12_body_b89 hd0 a0 a1 a2 S h0 h1 h2
  refine j_ite (fun hc6 => ?_) (fun hc6 => ?_)
  · refine j_tableIn (tgt := 72) (off := 71) h1 dX12_body_1 (by omega) (by omega) (by rw [hc6]; rfl) rfl ?_
    refine j_aload_n 0 dX12_body_72 rfl rfl ?_
    refine j_iload_n 2 dX12_body_73 rfl rfl ?_
    refine j_callV (ci := 12) (As := [(0, a2)]) (st := []) kc_X12_buyClause (c_X12_buyClause a0 a2 S h0 h2) rfl lm_X12_234 ki_X12_buyClause ke_X12_buyClause rfl (Nat.le_of_ble_eq_true rfl) (Nat.le_trans (m := 10) (Nat.le_of_ble_eq_true rfl) hd0) dX12_body_74 (fun (v11 : Int) (S12 : jSt) (hv11 : R32 (v11)) => ?_)
    exact j_ireturn hv11 dX12_body_77
  refine j_ite (fun hc7 => ?_) (fun hc7 => ?_)
  · refine j_tableIn (tgt := 78) (off := 77) h1 dX12_body_1 (by omega) (by omega) (by rw [hc7]; rfl) rfl ?_
    refine j_aload_n 0 dX12_body_78 rfl rfl ?_
    refine j_iload_n 2 dX12_body_79 rfl rfl ?_
    refine j_iconst dX12_body_80 ?_
    refine j_iadd dX12_body_81 ?_
    refine j_iconst dX12_body_82 ?_
    refine j_bipush dX12_body_83 (by decide) ?_
    refine j_callV (ci := 12) (As := [(0, w32 (a2 + 1)), (0, 1), (0, 60)]) (st := []) kc_X12_figure (c_X12_figure a0 (w32 (a2 + 1)) 1 60 S h0 (w32_R _) (jZ_R jz1) (j_r32 60 rfl)) rfl lm_X12_217 ki_X12_figure ke_X12_figure rfl (Nat.le_of_ble_eq_true rfl) (Nat.le_trans (m := 10) (Nat.le_of_ble_eq_true rfl) hd0) dX12_body_85 (fun (v13 : Int) (S14 : jSt) (hv13 : R32 (v13)) => ?_)
    exact j_ireturn hv13 dX12_body_88
  refine j_tableOut (tgt := 89) h1 dX12_body_1 (by omega) rfl ?_
  exact p_f_X12_body_b89 hd0 a0 a1 a2 S h0 h1 h2
theorem c_X12_body {G : jG} (a0 : Int) (a1 : Int) (a2 : Int) (S : jSt) (h0 : 0 ≤ (a0)) (h1 : R32 (a1)) (h2 : R32 (a2)) : CT G yX12_body cX12_body 3 (some .int) 10 ([(2, a0), (0, a1), (0, a2)].map jval) S (f_X12_body a0 a1 a2 S) := ct_of [(2, a0), (0, a1), (0, a2)] (by decide) rfl (Nat.le_of_ble_eq_true rfl) (e_X12_body (Nat.le_refl _) a0 a1 a2 S h0 h1 h2)
-- X12_book
def f_X12_book_b109 (x0 : Int) (S : jSt) : Option (Int × jSt) :=
  some (x0, S)
theorem p_f_X12_book_b109 {G : jG} {d : Nat} {S0 : jSt} (hd0 : 2 ≤ d) : ∀ (x0 : Int) (S : jSt), (R32 (x0)) → J G yX12_book cX12_book 4 (some .int) d S0 109 [] [(0, x0)] S (f_X12_book_b109  x0 S) := by
  intro x0 S h0
  unfold f_X12_book_b109
  exact j_ireturn h0 dX12_book_109
def f_X12_book (a0 : Int) (a1 : Int) (a2 : Int) (S : jSt) : Option (Int × jSt) :=
  if a1 = (-1) then fgetr S a0 12 0 (fun v9 => fald S v9 10 1 (fun v10 => some (v10, S))) else fgetr S a0 12 0 (fun v1 => fald S v1 10 1 (fun v2 => fcall (f_X12_isIn a1 0 (w32 (v2 - 1)) S) (fun v3 S4 => if v3 = 0 then some ((-2), S4) else fgetr S4 a0 12 0 (fun v5 => fald S4 v5 (w32 (4843 + (w32 (2 * a1)))) 1 (fun v6 => if a2 = 0 then if 128 = 0 then none else f_X12_book_b109 (idiv32 v6 128) S4 else if a2 = 1 then if 8 = 0 then none else if 16 = 0 then none else f_X12_book_b109 (irem32 (idiv32 v6 8) 16) S4 else if a2 = 2 then if 8 = 0 then none else f_X12_book_b109 (irem32 v6 8) S4 else if a2 = 3 then fgetr S4 a0 12 0 (fun v7 => fald S4 v7 (w32 ((w32 (4843 + (w32 (2 * a1)))) + 1)) 1 (fun v8 => f_X12_book_b109 v8 S4)) else f_X12_book_b109 (-2) S4)))))
theorem e_X12_book {G : jG} {d : Nat} {S0 : jSt} (hd0 : 2 ≤ d) (a0 : Int) (a1 : Int) (a2 : Int) (S : jSt) (h0 : 0 ≤ (a0)) (h1 : R32 (a1)) (h2 : R32 (a2)) : J G yX12_book cX12_book 4 (some .int) d S0 0 [(0, 2, a0), (1, 0, a1), (2, 0, a2)] [] S (f_X12_book a0 a1 a2 S) := by
  unfold f_X12_book
  refine j_iload_n 1 dX12_book_0 rfl rfl ?_
  refine j_iconst dX12_book_1 ?_
  refine j_icmp_ne (tgt := 13) h1 (j_r32 (-1) rfl) dX12_book_2 rfl (fun _ => ?_) (fun _ => ?_)
  · refine j_iload_n 1 dX12_book_13 rfl rfl ?_
    refine j_iconst dX12_book_14 ?_
    refine j_aload_n 0 dX12_book_15 rfl rfl ?_
    refine j_getr (ci := 12) (k := 0) rfl in_X12 (Nat.le_of_ble_eq_true rfl) rfl rfl fl_X12_7 dX12_book_16 (fun (v1 : Int) (hv1 : 0 ≤ v1) => ?_)
    refine j_bipush dX12_book_19 (by decide) ?_
    refine j_iaload (j_r32 10 rfl) dX12_book_21 (fun (v2 : Int) (hv2 : R32 (v2)) => ?_)
    refine j_iconst dX12_book_22 ?_
    refine j_isub dX12_book_23 ?_
    refine j_callS (As := [(0, a1), (0, 0), (0, w32 (v2 - 1))]) (st := []) kc_X12_isIn (c_X12_isIn a1 0 (w32 (v2 - 1)) S h1 (jZ_R jz0) (w32_R _)) lm_X12_60 ks_X12_isIn rfl (Nat.le_of_ble_eq_true rfl) (Nat.le_trans (m := 2) (Nat.le_of_ble_eq_true rfl) hd0) dX12_book_24 (fun (v3 : Int) (S4 : jSt) (hv3 : (v3) = 0 ∨ (v3) = 1) => ?_)
    refine j_if_ne (tgt := 33) (jZ_R hv3) dX12_book_27 rfl (fun _ => ?_) (fun _ => ?_)
    · refine j_aload_n 0 dX12_book_33 rfl rfl ?_
      refine j_getr (ci := 12) (k := 0) rfl in_X12 (Nat.le_of_ble_eq_true rfl) rfl rfl fl_X12_7 dX12_book_34 (fun (v5 : Int) (hv5 : 0 ≤ v5) => ?_)
      refine j_sipush dX12_book_37 (by decide) ?_
      refine j_iconst dX12_book_40 ?_
      refine j_iload_n 1 dX12_book_41 rfl rfl ?_
      refine j_imul dX12_book_42 ?_
      refine j_iadd dX12_book_43 ?_
      refine j_iaload (w32_R _) dX12_book_44 (fun (v6 : Int) (hv6 : R32 (v6)) => ?_)
      refine j_istore_n (lv' := [(3, 0, v6), (0, 2, a0), (1, 0, a1), (2, 0, a2)]) dX12_book_45 rfl (Nat.le_of_ble_eq_true rfl) rfl ?_
      refine j_iload_n 3 dX12_book_46 rfl rfl ?_
      refine j_if_ne (tgt := 58) h2 dX12_book_47 rfl (fun _ => ?_) (fun _ => ?_)
      · refine j_iload_n 3 dX12_book_58 rfl rfl ?_
        refine j_iconst dX12_book_59 ?_
        refine j_icmp_ne (tgt := 73) h2 (jZ_R jz1) dX12_book_60 rfl (fun _ => ?_) (fun _ => ?_)
        · refine j_iload_n 3 dX12_book_73 rfl rfl ?_
          refine j_iconst dX12_book_74 ?_
          refine j_icmp_ne (tgt := 85) h2 (j_r32 2 rfl) dX12_book_75 rfl (fun _ => ?_) (fun _ => ?_)
          · refine j_iload_n 3 dX12_book_85 rfl rfl ?_
            refine j_iconst dX12_book_86 ?_
            refine j_icmp_ne (tgt := 107) h2 (j_r32 3 rfl) dX12_book_87 rfl (fun _ => ?_) (fun _ => ?_)
            · refine j_bipush dX12_book_107 (by decide) ?_
              refine j_sub [] rfl ?_
              exact p_f_X12_book_b109 hd0 (-2) S4 (j_r32 (-2) rfl)
            · refine j_aload_n 1 dX12_book_90 rfl rfl ?_
              refine j_getr (ci := 12) (k := 0) rfl in_X12 (Nat.le_of_ble_eq_true rfl) rfl rfl fl_X12_7 dX12_book_91 (fun (v7 : Int) (hv7 : 0 ≤ v7) => ?_)
              refine j_sipush dX12_book_94 (by decide) ?_
              refine j_iconst dX12_book_97 ?_
              refine j_iload_n 2 dX12_book_98 rfl rfl ?_
              refine j_imul dX12_book_99 ?_
              refine j_iadd dX12_book_100 ?_
              refine j_iconst dX12_book_101 ?_
              refine j_iadd dX12_book_102 ?_
              refine j_iaload (w32_R _) dX12_book_103 (fun (v8 : Int) (hv8 : R32 (v8)) => ?_)
              refine j_goto (tgt := 109) dX12_book_104 rfl ?_
              refine j_sub [] rfl ?_
              exact p_f_X12_book_b109 hd0 v8 S4 hv8
          · refine j_iload_n 0 dX12_book_78 rfl rfl ?_
            refine j_bipush dX12_book_79 (by decide) ?_
            refine j_irem (j_r32 8 rfl) dX12_book_81 ?_
            refine j_goto (tgt := 109) dX12_book_82 rfl ?_
            refine j_sub [] rfl ?_
            exact p_f_X12_book_b109 hd0 (irem32 v6 8) S4 (irem32_R _ _)
        · refine j_iload_n 0 dX12_book_63 rfl rfl ?_
          refine j_bipush dX12_book_64 (by decide) ?_
          refine j_idiv (j_r32 8 rfl) dX12_book_66 ?_
          refine j_bipush dX12_book_67 (by decide) ?_
          refine j_irem (j_r32 16 rfl) dX12_book_69 ?_
          refine j_goto (tgt := 109) dX12_book_70 rfl ?_
          refine j_sub [] rfl ?_
          exact p_f_X12_book_b109 hd0 (irem32 (idiv32 v6 8) 16) S4 (irem32_R _ _)
      · refine j_iload_n 0 dX12_book_50 rfl rfl ?_
        refine j_sipush dX12_book_51 (by decide) ?_
        refine j_idiv (j_r32 128 rfl) dX12_book_54 ?_
        refine j_goto (tgt := 109) dX12_book_55 rfl ?_
        refine j_sub [] rfl ?_
        exact p_f_X12_book_b109 hd0 (idiv32 v6 128) S4 (idiv32_R _ _)
    · refine j_bipush dX12_book_30 (by decide) ?_
      exact j_ireturn (j_r32 (-2) rfl) dX12_book_32
  · refine j_aload_n 0 dX12_book_5 rfl rfl ?_
    refine j_getr (ci := 12) (k := 0) rfl in_X12 (Nat.le_of_ble_eq_true rfl) rfl rfl fl_X12_7 dX12_book_6 (fun (v9 : Int) (hv9 : 0 ≤ v9) => ?_)
    refine j_bipush dX12_book_9 (by decide) ?_
    refine j_iaload (j_r32 10 rfl) dX12_book_11 (fun (v10 : Int) (hv10 : R32 (v10)) => ?_)
    exact j_ireturn hv10 dX12_book_12
theorem c_X12_book {G : jG} (a0 : Int) (a1 : Int) (a2 : Int) (S : jSt) (h0 : 0 ≤ (a0)) (h1 : R32 (a1)) (h2 : R32 (a2)) : CT G yX12_book cX12_book 4 (some .int) 2 ([(2, a0), (0, a1), (0, a2)].map jval) S (f_X12_book a0 a1 a2 S) := ct_of [(2, a0), (0, a1), (0, a2)] (by decide) rfl (Nat.le_of_ble_eq_true rfl) (e_X12_book (Nat.le_refl _) a0 a1 a2 S h0 h1 h2)
-- X12_oneOn
def f_X12_oneOn_b32 (r4 : Int → Int → Int → Int → jSt → Option (Int × jSt)) (x0 : Int) (x1 : Int) (x2 : Int) (x3 : Int) (x4 : Int) (S : jSt) : Option (Int × jSt) :=
  flet (ior32 x3 x4) (fun v3 => flet (w32 (x2 + 1)) (fun v4 => r4 x0 x1 v3 v4 S))
theorem p_f_X12_oneOn_b32 {G : jG} {d : Nat} {S0 : jSt} (hd0 : 2 ≤ d) {r4 : Int → Int → Int → Int → jSt → Option (Int × jSt)} (k4 : ∀ (x0 : Int) (x1 : Int) (x2 : Int) (x3 : Int) (S : jSt), (0 ≤ (x0)) → (R32 (x1)) → (R32 (x2)) → (R32 (x3)) → J G yX12_oneOn cX12_oneOn 4 (some .int) d S0 4 [(0, 2, x0), (1, 0, x1), (2, 0, x2), (3, 0, x3)] [] S (r4 x0 x1 x2 x3 S)) : ∀ (x0 : Int) (x1 : Int) (x2 : Int) (x3 : Int) (x4 : Int) (S : jSt), (0 ≤ (x0)) → (R32 (x1)) → (R32 (x2)) → (R32 (x3)) → (R32 (x4)) → J G yX12_oneOn cX12_oneOn 4 (some .int) d S0 32 [(0, 2, x0), (1, 0, x1), (3, 0, x2)] [(0, x4), (0, x3)] S (f_X12_oneOn_b32 r4 x0 x1 x2 x3 x4 S) := by
  intro x0 x1 x2 x3 x4 S h0 h1 h2 h3 h4
  unfold f_X12_oneOn_b32
  refine j_ior dX12_oneOn_32 ?_
  refine j_leti (ior32_R _ _) (fun v3 hv3 => ?_)
  refine j_istore_n (lv' := [(2, 0, v3), (0, 2, x0), (1, 0, x1), (3, 0, x2)]) dX12_oneOn_33 rfl (Nat.le_of_ble_eq_true rfl) rfl ?_
  refine j_iincL (q := 3) dX12_oneOn_34 rfl (Nat.le_of_ble_eq_true rfl) (fun v4 hv4 => ?_)
  refine j_lv (lv' := [(3, 0, v4), (2, 0, v3), (0, 2, x0), (1, 0, x1)]) rfl ?_
  refine j_goto (tgt := 4) dX12_oneOn_37 rfl ?_
  refine j_sub [2, 3, 1, 0] rfl ?_
  exact k4 x0 x1 v3 v4 S h0 h1 hv3 hv4
def f_X12_oneOn_b4B (r4 : Int → Int → Int → Int → jSt → Option (Int × jSt)) (x0 : Int) (x1 : Int) (x2 : Int) (x3 : Int) (S : jSt) : Option (Int × jSt) :=
  if 5 < x3 then some (x2, S) else fcall (f_X12_has x1 x3 S) (fun v1 S2 => if v1 = 0 then f_X12_oneOn_b32 r4 x0 x1 x3 x2 0 S2 else fgetr S2 x0 12 0 (fun v5 => fald S2 v5 (w32 (141 + x3)) 1 (fun v6 => f_X12_oneOn_b32 r4 x0 x1 x3 x2 v6 S2)))
theorem p_f_X12_oneOn_b4B {G : jG} {d : Nat} {S0 : jSt} (hd0 : 2 ≤ d) {r4 : Int → Int → Int → Int → jSt → Option (Int × jSt)} (k4 : ∀ (x0 : Int) (x1 : Int) (x2 : Int) (x3 : Int) (S : jSt), (0 ≤ (x0)) → (R32 (x1)) → (R32 (x2)) → (R32 (x3)) → J G yX12_oneOn cX12_oneOn 4 (some .int) d S0 4 [(0, 2, x0), (1, 0, x1), (2, 0, x2), (3, 0, x3)] [] S (r4 x0 x1 x2 x3 S)) : ∀ (x0 : Int) (x1 : Int) (x2 : Int) (x3 : Int) (S : jSt), (0 ≤ (x0)) → (R32 (x1)) → (R32 (x2)) → (R32 (x3)) → J G yX12_oneOn cX12_oneOn 4 (some .int) d S0 4 [(0, 2, x0), (1, 0, x1), (2, 0, x2), (3, 0, x3)] [] S (f_X12_oneOn_b4B r4 x0 x1 x2 x3 S) := by
  intro x0 x1 x2 x3 S h0 h1 h2 h3
  unfold f_X12_oneOn_b4B
  refine j_iload_n 3 dX12_oneOn_4 rfl rfl ?_
  refine j_iconst dX12_oneOn_5 ?_
  refine j_icmp_gt (tgt := 40) h3 (j_r32 5 rfl) dX12_oneOn_6 rfl (fun _ => ?_) (fun _ => ?_)
  · refine j_iload_n 2 dX12_oneOn_40 rfl rfl ?_
    exact j_ireturn h2 dX12_oneOn_41
  · refine j_iload_n 2 dX12_oneOn_9 rfl rfl ?_
    refine j_iload_n 1 dX12_oneOn_10 rfl rfl ?_
    refine j_iload_n 3 dX12_oneOn_11 rfl rfl ?_
    refine j_callS (As := [(0, x1), (0, x3)]) (st := [(0, x2)]) kc_X12_has (c_X12_has x1 x3 S h1 h3) lm_X12_249 ks_X12_has rfl (Nat.le_of_ble_eq_true rfl) (Nat.le_trans (m := 2) (Nat.le_of_ble_eq_true rfl) hd0) dX12_oneOn_12 (fun (v1 : Int) (S2 : jSt) (hv1 : (v1) = 0 ∨ (v1) = 1) => ?_)
    refine j_if_eq (tgt := 31) (jZ_R hv1) dX12_oneOn_15 rfl (fun _ => ?_) (fun _ => ?_)
    · refine j_iconst dX12_oneOn_31 ?_
      refine j_sub [0, 1, 3] rfl ?_
      exact p_f_X12_oneOn_b32 hd0 k4 x0 x1 x3 x2 0 S2 h0 h1 h3 h2 (jZ_R jz0)
    · refine j_aload_n 0 dX12_oneOn_18 rfl rfl ?_
      refine j_getr (ci := 12) (k := 0) rfl in_X12 (Nat.le_of_ble_eq_true rfl) rfl rfl fl_X12_7 dX12_oneOn_19 (fun (v5 : Int) (hv5 : 0 ≤ v5) => ?_)
      refine j_sipush dX12_oneOn_22 (by decide) ?_
      refine j_iload_n 3 dX12_oneOn_25 rfl rfl ?_
      refine j_iadd dX12_oneOn_26 ?_
      refine j_iaload (w32_R _) dX12_oneOn_27 (fun (v6 : Int) (hv6 : R32 (v6)) => ?_)
      refine j_goto (tgt := 32) dX12_oneOn_28 rfl ?_
      refine j_sub [0, 1, 3] rfl ?_
      exact p_f_X12_oneOn_b32 hd0 k4 x0 x1 x3 x2 v6 S2 h0 h1 h3 h2 hv6
def f_X12_oneOn_b4 : Int → Int → Int → Int → jSt → Option (Int × jSt) := jrep (β := Int → Int → Int → Int → jSt → Option (Int × jSt)) (fun _ _ _ _ _ => none) (fun r => f_X12_oneOn_b4B r) jN
theorem p_f_X12_oneOn_b4 {G : jG} {d : Nat} {S0 : jSt} (hd0 : 2 ≤ d) : ∀ (x0 : Int) (x1 : Int) (x2 : Int) (x3 : Int) (S : jSt), (0 ≤ (x0)) → (R32 (x1)) → (R32 (x2)) → (R32 (x3)) → J G yX12_oneOn cX12_oneOn 4 (some .int) d S0 4 [(0, 2, x0), (1, 0, x1), (2, 0, x2), (3, 0, x3)] [] S (f_X12_oneOn_b4  x0 x1 x2 x3 S) :=
  jrep_ind (P := fun (r : Int → Int → Int → Int → jSt → Option (Int × jSt)) => ∀ (x0 : Int) (x1 : Int) (x2 : Int) (x3 : Int) (S : jSt), (0 ≤ (x0)) → (R32 (x1)) → (R32 (x2)) → (R32 (x3)) → J G yX12_oneOn cX12_oneOn 4 (some .int) d S0 4 [(0, 2, x0), (1, 0, x1), (2, 0, x2), (3, 0, x3)] [] S (r x0 x1 x2 x3 S)) (by intros; exact j_none) (fun r k => p_f_X12_oneOn_b4B hd0 k) jN
def f_X12_oneOn (a0 : Int) (a1 : Int) (S : jSt) : Option (Int × jSt) :=
  f_X12_oneOn_b4 a0 a1 a1 0 S
theorem e_X12_oneOn {G : jG} {d : Nat} {S0 : jSt} (hd0 : 2 ≤ d) (a0 : Int) (a1 : Int) (S : jSt) (h0 : 0 ≤ (a0)) (h1 : R32 (a1)) : J G yX12_oneOn cX12_oneOn 4 (some .int) d S0 0 [(0, 2, a0), (1, 0, a1)] [] S (f_X12_oneOn a0 a1 S) := by
  unfold f_X12_oneOn
  refine j_iload_n 1 dX12_oneOn_0 rfl rfl ?_
  refine j_istore_n (lv' := [(2, 0, a1), (0, 2, a0), (1, 0, a1)]) dX12_oneOn_1 rfl (Nat.le_of_ble_eq_true rfl) rfl ?_
  refine j_iconst dX12_oneOn_2 ?_
  refine j_istore_n (lv' := [(3, 0, 0), (2, 0, a1), (0, 2, a0), (1, 0, a1)]) dX12_oneOn_3 rfl (Nat.le_of_ble_eq_true rfl) rfl ?_
  refine j_sub [2, 3, 1, 0] rfl ?_
  exact p_f_X12_oneOn_b4 hd0 a0 a1 a1 0 S h0 h1 h1 (jZ_R jz0)
theorem c_X12_oneOn {G : jG} (a0 : Int) (a1 : Int) (S : jSt) (h0 : 0 ≤ (a0)) (h1 : R32 (a1)) : CT G yX12_oneOn cX12_oneOn 4 (some .int) 2 ([(2, a0), (0, a1)].map jval) S (f_X12_oneOn a0 a1 S) := ct_of [(2, a0), (0, a1)] (by decide) rfl (Nat.le_of_ble_eq_true rfl) (e_X12_oneOn (Nat.le_refl _) a0 a1 S h0 h1)
-- X12_partsNow
def f_X12_partsNow_b58 (r6 : Int → Int → Int → Int → jSt → Option (Int × jSt)) (x0 : Int) (x1 : Int) (x2 : Int) (x3 : Int) (S : jSt) : Option (Int × jSt) :=
  flet (w32 (x3 + 1)) (fun v6 => r6 x0 x1 x2 v6 S)
theorem p_f_X12_partsNow_b58 {G : jG} {d : Nat} {S0 : jSt} (hd0 : 3 ≤ d) {r6 : Int → Int → Int → Int → jSt → Option (Int × jSt)} (k6 : ∀ (x0 : Int) (x1 : Int) (x2 : Int) (x3 : Int) (S : jSt), (0 ≤ (x0)) → (R32 (x1)) → (R32 (x2)) → (R32 (x3)) → J G yX12_partsNow cX12_partsNow 6 (some .int) d S0 6 [(0, 2, x0), (1, 0, x1), (2, 0, x2), (3, 0, x3)] [] S (r6 x0 x1 x2 x3 S)) : ∀ (x0 : Int) (x1 : Int) (x2 : Int) (x3 : Int) (S : jSt), (0 ≤ (x0)) → (R32 (x1)) → (R32 (x2)) → (R32 (x3)) → J G yX12_partsNow cX12_partsNow 6 (some .int) d S0 58 [(0, 2, x0), (1, 0, x1), (2, 0, x2), (3, 0, x3)] [] S (f_X12_partsNow_b58 r6 x0 x1 x2 x3 S) := by
  intro x0 x1 x2 x3 S h0 h1 h2 h3
  unfold f_X12_partsNow_b58
  refine j_iincL (q := 3) dX12_partsNow_58 rfl (Nat.le_of_ble_eq_true rfl) (fun v6 hv6 => ?_)
  refine j_lv (lv' := [(3, 0, v6), (0, 2, x0), (1, 0, x1), (2, 0, x2)]) rfl ?_
  refine j_goto (tgt := 6) dX12_partsNow_61 rfl ?_
  refine j_sub [1, 2, 3, 0] rfl ?_
  exact k6 x0 x1 x2 v6 S h0 h1 h2 hv6
def f_X12_partsNow_b33B (r6 : Int → Int → Int → Int → jSt → Option (Int × jSt)) (r33 : Int → Int → Int → Int → Int → Int → jSt → Option (Int × jSt)) (x0 : Int) (x1 : Int) (x2 : Int) (x3 : Int) (x4 : Int) (x5 : Int) (S : jSt) : Option (Int × jSt) :=
  if 5 < x5 then flet (ior32 x1 x4) (fun v5 => f_X12_partsNow_b58 r6 x0 v5 x2 x3 S) else fcallv S x0 12 (f_X12_oneOn x0 x4 S) (fun v7 S8 => flet (w32 (x5 + 1)) (fun v9 => r33 x0 x1 x2 x3 v7 v9 S8))
theorem p_f_X12_partsNow_b33B {G : jG} {d : Nat} {S0 : jSt} (hd0 : 3 ≤ d) {r6 : Int → Int → Int → Int → jSt → Option (Int × jSt)} (k6 : ∀ (x0 : Int) (x1 : Int) (x2 : Int) (x3 : Int) (S : jSt), (0 ≤ (x0)) → (R32 (x1)) → (R32 (x2)) → (R32 (x3)) → J G yX12_partsNow cX12_partsNow 6 (some .int) d S0 6 [(0, 2, x0), (1, 0, x1), (2, 0, x2), (3, 0, x3)] [] S (r6 x0 x1 x2 x3 S)) {r33 : Int → Int → Int → Int → Int → Int → jSt → Option (Int × jSt)} (k33 : ∀ (x0 : Int) (x1 : Int) (x2 : Int) (x3 : Int) (x4 : Int) (x5 : Int) (S : jSt), (0 ≤ (x0)) → (R32 (x1)) → (R32 (x2)) → (R32 (x3)) → (R32 (x4)) → (R32 (x5)) → J G yX12_partsNow cX12_partsNow 6 (some .int) d S0 33 [(0, 2, x0), (1, 0, x1), (2, 0, x2), (3, 0, x3), (4, 0, x4), (5, 0, x5)] [] S (r33 x0 x1 x2 x3 x4 x5 S)) : ∀ (x0 : Int) (x1 : Int) (x2 : Int) (x3 : Int) (x4 : Int) (x5 : Int) (S : jSt), (0 ≤ (x0)) → (R32 (x1)) → (R32 (x2)) → (R32 (x3)) → (R32 (x4)) → (R32 (x5)) → J G yX12_partsNow cX12_partsNow 6 (some .int) d S0 33 [(0, 2, x0), (1, 0, x1), (2, 0, x2), (3, 0, x3), (4, 0, x4), (5, 0, x5)] [] S (f_X12_partsNow_b33B r6 r33 x0 x1 x2 x3 x4 x5 S) := by
  intro x0 x1 x2 x3 x4 x5 S h0 h1 h2 h3 h4 h5
  unfold f_X12_partsNow_b33B
  refine j_iload 5 dX12_partsNow_33 rfl ?_
  refine j_iconst dX12_partsNow_35 ?_
  refine j_icmp_gt (tgt := 53) h5 (j_r32 5 rfl) dX12_partsNow_36 rfl (fun _ => ?_) (fun _ => ?_)
  · refine j_iload_n 1 dX12_partsNow_53 rfl rfl ?_
    refine j_iload 4 dX12_partsNow_54 rfl ?_
    refine j_ior dX12_partsNow_56 ?_
    refine j_leti (ior32_R _ _) (fun v5 hv5 => ?_)
    refine j_istore_n (lv' := [(1, 0, v5), (0, 2, x0), (2, 0, x2), (3, 0, x3), (4, 0, x4), (5, 0, x5)]) dX12_partsNow_57 rfl (Nat.le_of_ble_eq_true rfl) rfl ?_
    refine j_sub [1, 0, 2, 3] rfl ?_
    exact p_f_X12_partsNow_b58 hd0 k6 x0 v5 x2 x3 S h0 hv5 h2 h3
  · refine j_aload_n 0 dX12_partsNow_39 rfl rfl ?_
    refine j_iload 4 dX12_partsNow_40 rfl ?_
    refine j_callV (ci := 12) (As := [(0, x4)]) (st := []) kc_X12_oneOn (c_X12_oneOn x0 x4 S h0 h4) rfl lm_X12_448 ki_X12_oneOn ke_X12_oneOn rfl (Nat.le_of_ble_eq_true rfl) (Nat.le_trans (m := 3) (Nat.le_of_ble_eq_true rfl) hd0) dX12_partsNow_42 (fun (v7 : Int) (S8 : jSt) (hv7 : R32 (v7)) => ?_)
    refine j_istore (lv' := [(4, 0, v7), (0, 2, x0), (1, 0, x1), (2, 0, x2), (3, 0, x3), (5, 0, x5)]) dX12_partsNow_45 (Nat.le_of_ble_eq_true rfl) rfl ?_
    refine j_iincL (q := 5) dX12_partsNow_47 rfl (Nat.le_of_ble_eq_true rfl) (fun v9 hv9 => ?_)
    refine j_lv (lv' := [(5, 0, v9), (4, 0, v7), (0, 2, x0), (1, 0, x1), (2, 0, x2), (3, 0, x3)]) rfl ?_
    refine j_goto (tgt := 33) dX12_partsNow_50 rfl ?_
    refine j_sub [2, 3, 4, 5, 1, 0] rfl ?_
    exact k33 x0 x1 x2 x3 v7 v9 S8 h0 h1 h2 h3 hv7 hv9
def f_X12_partsNow_b33 (r6 : Int → Int → Int → Int → jSt → Option (Int × jSt)) : Int → Int → Int → Int → Int → Int → jSt → Option (Int × jSt) := jrep (β := Int → Int → Int → Int → Int → Int → jSt → Option (Int × jSt)) (fun _ _ _ _ _ _ _ => none) (fun r => f_X12_partsNow_b33B r6 r) jN
theorem p_f_X12_partsNow_b33 {G : jG} {d : Nat} {S0 : jSt} (hd0 : 3 ≤ d) {r6 : Int → Int → Int → Int → jSt → Option (Int × jSt)} (k6 : ∀ (x0 : Int) (x1 : Int) (x2 : Int) (x3 : Int) (S : jSt), (0 ≤ (x0)) → (R32 (x1)) → (R32 (x2)) → (R32 (x3)) → J G yX12_partsNow cX12_partsNow 6 (some .int) d S0 6 [(0, 2, x0), (1, 0, x1), (2, 0, x2), (3, 0, x3)] [] S (r6 x0 x1 x2 x3 S)) : ∀ (x0 : Int) (x1 : Int) (x2 : Int) (x3 : Int) (x4 : Int) (x5 : Int) (S : jSt), (0 ≤ (x0)) → (R32 (x1)) → (R32 (x2)) → (R32 (x3)) → (R32 (x4)) → (R32 (x5)) → J G yX12_partsNow cX12_partsNow 6 (some .int) d S0 33 [(0, 2, x0), (1, 0, x1), (2, 0, x2), (3, 0, x3), (4, 0, x4), (5, 0, x5)] [] S (f_X12_partsNow_b33 r6 x0 x1 x2 x3 x4 x5 S) :=
  jrep_ind (P := fun (r : Int → Int → Int → Int → Int → Int → jSt → Option (Int × jSt)) => ∀ (x0 : Int) (x1 : Int) (x2 : Int) (x3 : Int) (x4 : Int) (x5 : Int) (S : jSt), (0 ≤ (x0)) → (R32 (x1)) → (R32 (x2)) → (R32 (x3)) → (R32 (x4)) → (R32 (x5)) → J G yX12_partsNow cX12_partsNow 6 (some .int) d S0 33 [(0, 2, x0), (1, 0, x1), (2, 0, x2), (3, 0, x3), (4, 0, x4), (5, 0, x5)] [] S (r x0 x1 x2 x3 x4 x5 S)) (by intros; exact j_none) (fun r k => p_f_X12_partsNow_b33B hd0 k6 k) jN
def f_X12_partsNow_b6B (r6 : Int → Int → Int → Int → jSt → Option (Int × jSt)) (x0 : Int) (x1 : Int) (x2 : Int) (x3 : Int) (S : jSt) : Option (Int × jSt) :=
  if 5 < x3 then some (x2, S) else fcall (f_X12_has x1 x3 S) (fun v1 S2 => if v1 = 0 then flet (w32 (x2 + 1)) (fun v3 => flet (ishl32 1 x3) (fun v4 => f_X12_partsNow_b33 r6 x0 x1 v3 x3 v4 0 S2)) else f_X12_partsNow_b58 r6 x0 x1 x2 x3 S2)
theorem p_f_X12_partsNow_b6B {G : jG} {d : Nat} {S0 : jSt} (hd0 : 3 ≤ d) {r6 : Int → Int → Int → Int → jSt → Option (Int × jSt)} (k6 : ∀ (x0 : Int) (x1 : Int) (x2 : Int) (x3 : Int) (S : jSt), (0 ≤ (x0)) → (R32 (x1)) → (R32 (x2)) → (R32 (x3)) → J G yX12_partsNow cX12_partsNow 6 (some .int) d S0 6 [(0, 2, x0), (1, 0, x1), (2, 0, x2), (3, 0, x3)] [] S (r6 x0 x1 x2 x3 S)) : ∀ (x0 : Int) (x1 : Int) (x2 : Int) (x3 : Int) (S : jSt), (0 ≤ (x0)) → (R32 (x1)) → (R32 (x2)) → (R32 (x3)) → J G yX12_partsNow cX12_partsNow 6 (some .int) d S0 6 [(0, 2, x0), (1, 0, x1), (2, 0, x2), (3, 0, x3)] [] S (f_X12_partsNow_b6B r6 x0 x1 x2 x3 S) := by
  intro x0 x1 x2 x3 S h0 h1 h2 h3
  unfold f_X12_partsNow_b6B
  refine j_iload_n 3 dX12_partsNow_6 rfl rfl ?_
  refine j_iconst dX12_partsNow_7 ?_
  refine j_icmp_gt (tgt := 64) h3 (j_r32 5 rfl) dX12_partsNow_8 rfl (fun _ => ?_) (fun _ => ?_)
  · refine j_iload_n 2 dX12_partsNow_64 rfl rfl ?_
    exact j_ireturn h2 dX12_partsNow_65
  · refine j_iload_n 1 dX12_partsNow_11 rfl rfl ?_
    refine j_iload_n 3 dX12_partsNow_12 rfl rfl ?_
    refine j_callS (As := [(0, x1), (0, x3)]) (st := []) kc_X12_has (c_X12_has x1 x3 S h1 h3) lm_X12_249 ks_X12_has rfl (Nat.le_of_ble_eq_true rfl) (Nat.le_trans (m := 3) (Nat.le_of_ble_eq_true rfl) hd0) dX12_partsNow_13 (fun (v1 : Int) (S2 : jSt) (hv1 : (v1) = 0 ∨ (v1) = 1) => ?_)
    refine j_if_eq (tgt := 22) (jZ_R hv1) dX12_partsNow_16 rfl (fun _ => ?_) (fun _ => ?_)
    · refine j_iincL (q := 2) dX12_partsNow_22 rfl (Nat.le_of_ble_eq_true rfl) (fun v3 hv3 => ?_)
      refine j_lv (lv' := [(2, 0, v3), (0, 2, x0), (1, 0, x1), (3, 0, x3)]) rfl ?_
      refine j_iconst dX12_partsNow_25 ?_
      refine j_iload_n 3 dX12_partsNow_26 rfl rfl ?_
      refine j_ishl dX12_partsNow_27 ?_
      refine j_leti (ishl32_R _ _) (fun v4 hv4 => ?_)
      refine j_istore (lv' := [(4, 0, v4), (2, 0, v3), (0, 2, x0), (1, 0, x1), (3, 0, x3)]) dX12_partsNow_28 (Nat.le_of_ble_eq_true rfl) rfl ?_
      refine j_iconst dX12_partsNow_30 ?_
      refine j_istore (lv' := [(5, 0, 0), (4, 0, v4), (2, 0, v3), (0, 2, x0), (1, 0, x1), (3, 0, x3)]) dX12_partsNow_31 (Nat.le_of_ble_eq_true rfl) rfl ?_
      refine j_sub [3, 4, 2, 5, 1, 0] rfl ?_
      exact p_f_X12_partsNow_b33 hd0 k6 x0 x1 v3 x3 v4 0 S2 h0 h1 hv3 h3 hv4 (jZ_R jz0)
    · refine j_goto (tgt := 58) dX12_partsNow_19 rfl ?_
      exact p_f_X12_partsNow_b58 hd0 k6 x0 x1 x2 x3 S2 h0 h1 h2 h3
def f_X12_partsNow_b6 : Int → Int → Int → Int → jSt → Option (Int × jSt) := jrep (β := Int → Int → Int → Int → jSt → Option (Int × jSt)) (fun _ _ _ _ _ => none) (fun r => f_X12_partsNow_b6B r) jN
theorem p_f_X12_partsNow_b6 {G : jG} {d : Nat} {S0 : jSt} (hd0 : 3 ≤ d) : ∀ (x0 : Int) (x1 : Int) (x2 : Int) (x3 : Int) (S : jSt), (0 ≤ (x0)) → (R32 (x1)) → (R32 (x2)) → (R32 (x3)) → J G yX12_partsNow cX12_partsNow 6 (some .int) d S0 6 [(0, 2, x0), (1, 0, x1), (2, 0, x2), (3, 0, x3)] [] S (f_X12_partsNow_b6  x0 x1 x2 x3 S) :=
  jrep_ind (P := fun (r : Int → Int → Int → Int → jSt → Option (Int × jSt)) => ∀ (x0 : Int) (x1 : Int) (x2 : Int) (x3 : Int) (S : jSt), (0 ≤ (x0)) → (R32 (x1)) → (R32 (x2)) → (R32 (x3)) → J G yX12_partsNow cX12_partsNow 6 (some .int) d S0 6 [(0, 2, x0), (1, 0, x1), (2, 0, x2), (3, 0, x3)] [] S (r x0 x1 x2 x3 S)) (by intros; exact j_none) (fun r k => p_f_X12_partsNow_b6B hd0 k) jN
def f_X12_partsNow (a0 : Int) (S : jSt) : Option (Int × jSt) :=
  f_X12_partsNow_b6 a0 0 0 0 S
theorem e_X12_partsNow {G : jG} {d : Nat} {S0 : jSt} (hd0 : 3 ≤ d) (a0 : Int) (S : jSt) (h0 : 0 ≤ (a0)) : J G yX12_partsNow cX12_partsNow 6 (some .int) d S0 0 [(0, 2, a0)] [] S (f_X12_partsNow a0 S) := by
  unfold f_X12_partsNow
  refine j_iconst dX12_partsNow_0 ?_
  refine j_istore_n (lv' := [(1, 0, 0), (0, 2, a0)]) dX12_partsNow_1 rfl (Nat.le_of_ble_eq_true rfl) rfl ?_
  refine j_iconst dX12_partsNow_2 ?_
  refine j_istore_n (lv' := [(2, 0, 0), (1, 0, 0), (0, 2, a0)]) dX12_partsNow_3 rfl (Nat.le_of_ble_eq_true rfl) rfl ?_
  refine j_iconst dX12_partsNow_4 ?_
  refine j_istore_n (lv' := [(3, 0, 0), (2, 0, 0), (1, 0, 0), (0, 2, a0)]) dX12_partsNow_5 rfl (Nat.le_of_ble_eq_true rfl) rfl ?_
  refine j_sub [3, 2, 1, 0] rfl ?_
  exact p_f_X12_partsNow_b6 hd0 a0 0 0 0 S h0 (jZ_R jz0) (jZ_R jz0) (jZ_R jz0)
theorem c_X12_partsNow {G : jG} (a0 : Int) (S : jSt) (h0 : 0 ≤ (a0)) : CT G yX12_partsNow cX12_partsNow 6 (some .int) 3 ([(2, a0)].map jval) S (f_X12_partsNow a0 S) := ct_of [(2, a0)] (by decide) rfl (Nat.le_of_ble_eq_true rfl) (e_X12_partsNow (Nat.le_refl _) a0 S h0)
