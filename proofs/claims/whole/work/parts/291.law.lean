def f_L_law_b1585 (L : Nat) (xs : Nat → Int32) (r18 : Int → Int → Int → Int → jSt → Option (Int × jSt)) (x0 : Int) (x1 : Int) (x2 : Int) (x3 : Int) (S : jSt) : Option (Int × jSt) :=
  flet (w32 (x3 + 6)) (fun v21 => r18 x0 x1 x2 v21 S)
theorem p_f_L_law_b1585 {G : jG} {d : Nat} {S0 : jSt} (hd0 : 109 ≤ d) {r18 : Int → Int → Int → Int → jSt → Option (Int × jSt)} (k18 : ∀ (x0 : Int) (x1 : Int) (x2 : Int) (x3 : Int) (S : jSt), ((x0) = ((G.2.2.2.2.2.2.2.1 : Nat) : Int)) → (0 ≤ (x1)) → (0 ≤ (x2)) → (R32 (x3)) → J G yL_law cL_law 4 (some .boolean) d S0 18 [(0, 2, x0), (1, 2, x1), (2, 2, x2), (3, 0, x3)] [] S (r18 x0 x1 x2 x3 S)) : ∀ (x0 : Int) (x1 : Int) (x2 : Int) (x3 : Int) (S : jSt), ((x0) = ((G.2.2.2.2.2.2.2.1 : Nat) : Int)) → (0 ≤ (x1)) → (0 ≤ (x2)) → (R32 (x3)) → J G yL_law cL_law 4 (some .boolean) d S0 1585 [(0, 2, x0), (1, 2, x1), (2, 2, x2), (3, 0, x3)] [] S (f_L_law_b1585 G.2.2.2.2.2.2.2.2.1 G.2.2.2.2.2.2.2.2.2 r18 x0 x1 x2 x3 S) := by
  intro x0 x1 x2 x3 S h0 h1 h2 h3
  unfold f_L_law_b1585
  refine j_iincL (q := 3) dL_law_1585 rfl (Nat.le_of_ble_eq_true rfl) (fun v21 hv21 => ?_)
  refine j_lv (lv' := [(3, 0, v21), (0, 2, x0), (1, 2, x1), (2, 2, x2)]) rfl ?_
  refine j_goto (tgt := 18) dL_law_1588 rfl ?_
  refine j_sub [1, 2, 3, 0] rfl ?_
  exact k18 x0 x1 x2 v21 S h0 h1 h2 hv21
def f_L_law_b985 (L : Nat) (xs : Nat → Int32) (r18 : Int → Int → Int → Int → jSt → Option (Int × jSt)) (x0 : Int) (x1 : Int) (x2 : Int) (x3 : Int) (x4 : Int) (x5 : Int) (x6 : Int) (S : jSt) : Option (Int × jSt) :=
  fcallv S x5 12 (f_X12_winners x5 x6 S) (fun v194 S195 => if x4 = v194 then f_L_law_b1585 L xs r18 x0 x1 x2 x3 S195 else some (0, S195))
theorem p_f_L_law_b985 {G : jG} {d : Nat} {S0 : jSt} (hd0 : 109 ≤ d) {r18 : Int → Int → Int → Int → jSt → Option (Int × jSt)} (k18 : ∀ (x0 : Int) (x1 : Int) (x2 : Int) (x3 : Int) (S : jSt), ((x0) = ((G.2.2.2.2.2.2.2.1 : Nat) : Int)) → (0 ≤ (x1)) → (0 ≤ (x2)) → (R32 (x3)) → J G yL_law cL_law 4 (some .boolean) d S0 18 [(0, 2, x0), (1, 2, x1), (2, 2, x2), (3, 0, x3)] [] S (r18 x0 x1 x2 x3 S)) : ∀ (x0 : Int) (x1 : Int) (x2 : Int) (x3 : Int) (x4 : Int) (x5 : Int) (x6 : Int) (S : jSt), ((x0) = ((G.2.2.2.2.2.2.2.1 : Nat) : Int)) → (0 ≤ (x1)) → (0 ≤ (x2)) → (R32 (x3)) → (R32 (x4)) → (0 ≤ (x5)) → ((x6) = 0 ∨ (x6) = 1) → J G yL_law cL_law 4 (some .boolean) d S0 985 [(0, 2, x0), (1, 2, x1), (2, 2, x2), (3, 0, x3)] [(0, x6), (2, x5), (0, x4)] S (f_L_law_b985 G.2.2.2.2.2.2.2.2.1 G.2.2.2.2.2.2.2.2.2 r18 x0 x1 x2 x3 x4 x5 x6 S) := by
  intro x0 x1 x2 x3 x4 x5 x6 S h0 h1 h2 h3 h4 h5 h6
  unfold f_L_law_b985
  refine j_callV (ci := 12) (As := [(0, x6)]) (st := [(0, x4)]) kc_X12_winners (c_X12_winners x5 x6 S h5 h6) rfl lm_L_121 ki_X12_winners ke_X12_winners rfl (Nat.le_of_ble_eq_true rfl) (Nat.le_trans (m := 109) (Nat.le_of_ble_eq_true rfl) hd0) dL_law_985 (fun (v194 : Int) (S195 : jSt) (hv194 : R32 (v194)) => ?_)
  refine j_icmp_eq (tgt := 1585) h4 hv194 dL_law_988 rfl (fun _ => ?_) (fun _ => ?_)
  · exact p_f_L_law_b1585 hd0 k18 x0 x1 x2 x3 S195 h0 h1 h2 h3
  · refine j_iconst dL_law_991 ?_
    exact j_zreturn jz0 dL_law_992
def f_L_law_b968 (L : Nat) (xs : Nat → Int32) (r18 : Int → Int → Int → Int → jSt → Option (Int × jSt)) (x0 : Int) (x1 : Int) (x2 : Int) (x3 : Int) (x4 : Int) (x5 : Int) (S : jSt) : Option (Int × jSt) :=
  fcallv S x4 11 (f_X11_winners x4 x5 S) (fun v191 S192 => fsld L xs (w32 (x3 + 1)) (fun v193 => if v193 = 0 then f_L_law_b985 L xs r18 x0 x1 x2 x3 v191 x2 0 S192 else f_L_law_b985 L xs r18 x0 x1 x2 x3 v191 x2 1 S192))
theorem p_f_L_law_b968 {G : jG} {d : Nat} {S0 : jSt} (hd0 : 109 ≤ d) {r18 : Int → Int → Int → Int → jSt → Option (Int × jSt)} (k18 : ∀ (x0 : Int) (x1 : Int) (x2 : Int) (x3 : Int) (S : jSt), ((x0) = ((G.2.2.2.2.2.2.2.1 : Nat) : Int)) → (0 ≤ (x1)) → (0 ≤ (x2)) → (R32 (x3)) → J G yL_law cL_law 4 (some .boolean) d S0 18 [(0, 2, x0), (1, 2, x1), (2, 2, x2), (3, 0, x3)] [] S (r18 x0 x1 x2 x3 S)) : ∀ (x0 : Int) (x1 : Int) (x2 : Int) (x3 : Int) (x4 : Int) (x5 : Int) (S : jSt), ((x0) = ((G.2.2.2.2.2.2.2.1 : Nat) : Int)) → (0 ≤ (x1)) → (0 ≤ (x2)) → (R32 (x3)) → (0 ≤ (x4)) → ((x5) = 0 ∨ (x5) = 1) → J G yL_law cL_law 4 (some .boolean) d S0 968 [(0, 2, x0), (1, 2, x1), (2, 2, x2), (3, 0, x3)] [(0, x5), (2, x4)] S (f_L_law_b968 G.2.2.2.2.2.2.2.2.1 G.2.2.2.2.2.2.2.2.2 r18 x0 x1 x2 x3 x4 x5 S) := by
  intro x0 x1 x2 x3 x4 x5 S h0 h1 h2 h3 h4 h5
  unfold f_L_law_b968
  refine j_callV (ci := 11) (As := [(0, x5)]) (st := []) kc_X11_winners (c_X11_winners x4 x5 S h4 h5) rfl lm_L_117 ki_X11_winners ke_X11_winners rfl (Nat.le_of_ble_eq_true rfl) (Nat.le_trans (m := 109) (Nat.le_of_ble_eq_true rfl) hd0) dL_law_968 (fun (v191 : Int) (S192 : jSt) (hv191 : R32 (v191)) => ?_)
  refine j_aload_n 2 dL_law_971 rfl rfl ?_
  refine j_aload_n 0 dL_law_972 rfl rfl ?_
  refine j_iload_n 3 dL_law_973 rfl rfl ?_
  refine j_iconst dL_law_974 ?_
  refine j_iadd dL_law_975 ?_
  refine j_sld h0 (w32_R _) dL_law_976 (fun (v193 : Int) (hv193 : R32 v193) => ?_)
  refine j_if_eq (tgt := 984) hv193 dL_law_977 rfl (fun _ => ?_) (fun _ => ?_)
  · refine j_iconst dL_law_984 ?_
    exact p_f_L_law_b985 hd0 k18 x0 x1 x2 x3 v191 x2 0 S192 h0 h1 h2 h3 hv191 h2 jz0
  · refine j_iconst dL_law_980 ?_
    refine j_goto (tgt := 985) dL_law_981 rfl ?_
    exact p_f_L_law_b985 hd0 k18 x0 x1 x2 x3 v191 x2 1 S192 h0 h1 h2 h3 hv191 h2 jz1
def f_L_law_b1057 (L : Nat) (xs : Nat → Int32) (r18 : Int → Int → Int → Int → jSt → Option (Int × jSt)) (x0 : Int) (x1 : Int) (x2 : Int) (x3 : Int) (x4 : Int) (x5 : Int) (x6 : Int) (x7 : Int) (S : jSt) : Option (Int × jSt) :=
  fcallv S x5 12 (f_X12_kept x5 x6 x7 S) (fun v208 S209 => if x4 = v208 then f_L_law_b1585 L xs r18 x0 x1 x2 x3 S209 else some (0, S209))
theorem p_f_L_law_b1057 {G : jG} {d : Nat} {S0 : jSt} (hd0 : 109 ≤ d) {r18 : Int → Int → Int → Int → jSt → Option (Int × jSt)} (k18 : ∀ (x0 : Int) (x1 : Int) (x2 : Int) (x3 : Int) (S : jSt), ((x0) = ((G.2.2.2.2.2.2.2.1 : Nat) : Int)) → (0 ≤ (x1)) → (0 ≤ (x2)) → (R32 (x3)) → J G yL_law cL_law 4 (some .boolean) d S0 18 [(0, 2, x0), (1, 2, x1), (2, 2, x2), (3, 0, x3)] [] S (r18 x0 x1 x2 x3 S)) : ∀ (x0 : Int) (x1 : Int) (x2 : Int) (x3 : Int) (x4 : Int) (x5 : Int) (x6 : Int) (x7 : Int) (S : jSt), ((x0) = ((G.2.2.2.2.2.2.2.1 : Nat) : Int)) → (0 ≤ (x1)) → (0 ≤ (x2)) → (R32 (x3)) → (R32 (x4)) → (0 ≤ (x5)) → (R32 (x6)) → ((x7) = 0 ∨ (x7) = 1) → J G yL_law cL_law 4 (some .boolean) d S0 1057 [(0, 2, x0), (1, 2, x1), (2, 2, x2), (3, 0, x3)] [(0, x7), (0, x6), (2, x5), (0, x4)] S (f_L_law_b1057 G.2.2.2.2.2.2.2.2.1 G.2.2.2.2.2.2.2.2.2 r18 x0 x1 x2 x3 x4 x5 x6 x7 S) := by
  intro x0 x1 x2 x3 x4 x5 x6 x7 S h0 h1 h2 h3 h4 h5 h6 h7
  unfold f_L_law_b1057
  refine j_callV (ci := 12) (As := [(0, x6), (0, x7)]) (st := [(0, x4)]) kc_X12_kept (c_X12_kept x5 x6 x7 S h5 h6 h7) rfl lm_L_130 ki_X12_kept ke_X12_kept rfl (Nat.le_of_ble_eq_true rfl) (Nat.le_trans (m := 109) (Nat.le_of_ble_eq_true rfl) hd0) dL_law_1057 (fun (v208 : Int) (S209 : jSt) (hv208 : R32 (v208)) => ?_)
  refine j_icmp_eq (tgt := 1585) h4 hv208 dL_law_1060 rfl (fun _ => ?_) (fun _ => ?_)
  · exact p_f_L_law_b1585 hd0 k18 x0 x1 x2 x3 S209 h0 h1 h2 h3
  · refine j_iconst dL_law_1063 ?_
    exact j_zreturn jz0 dL_law_1064
def f_L_law_b1035 (L : Nat) (xs : Nat → Int32) (r18 : Int → Int → Int → Int → jSt → Option (Int × jSt)) (x0 : Int) (x1 : Int) (x2 : Int) (x3 : Int) (x4 : Int) (x5 : Int) (x6 : Int) (S : jSt) : Option (Int × jSt) :=
  fcallv S x4 11 (f_X11_kept x4 x5 x6 S) (fun v204 S205 => fsld L xs (w32 (x3 + 1)) (fun v206 => fsld L xs (w32 (x3 + 2)) (fun v207 => if v207 = 0 then f_L_law_b1057 L xs r18 x0 x1 x2 x3 v204 x2 v206 0 S205 else f_L_law_b1057 L xs r18 x0 x1 x2 x3 v204 x2 v206 1 S205)))
theorem p_f_L_law_b1035 {G : jG} {d : Nat} {S0 : jSt} (hd0 : 109 ≤ d) {r18 : Int → Int → Int → Int → jSt → Option (Int × jSt)} (k18 : ∀ (x0 : Int) (x1 : Int) (x2 : Int) (x3 : Int) (S : jSt), ((x0) = ((G.2.2.2.2.2.2.2.1 : Nat) : Int)) → (0 ≤ (x1)) → (0 ≤ (x2)) → (R32 (x3)) → J G yL_law cL_law 4 (some .boolean) d S0 18 [(0, 2, x0), (1, 2, x1), (2, 2, x2), (3, 0, x3)] [] S (r18 x0 x1 x2 x3 S)) : ∀ (x0 : Int) (x1 : Int) (x2 : Int) (x3 : Int) (x4 : Int) (x5 : Int) (x6 : Int) (S : jSt), ((x0) = ((G.2.2.2.2.2.2.2.1 : Nat) : Int)) → (0 ≤ (x1)) → (0 ≤ (x2)) → (R32 (x3)) → (0 ≤ (x4)) → (R32 (x5)) → ((x6) = 0 ∨ (x6) = 1) → J G yL_law cL_law 4 (some .boolean) d S0 1035 [(0, 2, x0), (1, 2, x1), (2, 2, x2), (3, 0, x3)] [(0, x6), (0, x5), (2, x4)] S (f_L_law_b1035 G.2.2.2.2.2.2.2.2.1 G.2.2.2.2.2.2.2.2.2 r18 x0 x1 x2 x3 x4 x5 x6 S) := by
  intro x0 x1 x2 x3 x4 x5 x6 S h0 h1 h2 h3 h4 h5 h6
  unfold f_L_law_b1035
  refine j_callV (ci := 11) (As := [(0, x5), (0, x6)]) (st := []) kc_X11_kept (c_X11_kept x4 x5 x6 S h4 h5 h6) rfl lm_L_126 ki_X11_kept ke_X11_kept rfl (Nat.le_of_ble_eq_true rfl) (Nat.le_trans (m := 109) (Nat.le_of_ble_eq_true rfl) hd0) dL_law_1035 (fun (v204 : Int) (S205 : jSt) (hv204 : R32 (v204)) => ?_)
  refine j_aload_n 2 dL_law_1038 rfl rfl ?_
  refine j_aload_n 0 dL_law_1039 rfl rfl ?_
  refine j_iload_n 3 dL_law_1040 rfl rfl ?_
  refine j_iconst dL_law_1041 ?_
  refine j_iadd dL_law_1042 ?_
  refine j_sld h0 (w32_R _) dL_law_1043 (fun (v206 : Int) (hv206 : R32 v206) => ?_)
  refine j_aload_n 0 dL_law_1044 rfl rfl ?_
  refine j_iload_n 3 dL_law_1045 rfl rfl ?_
  refine j_iconst dL_law_1046 ?_
  refine j_iadd dL_law_1047 ?_
  refine j_sld h0 (w32_R _) dL_law_1048 (fun (v207 : Int) (hv207 : R32 v207) => ?_)
  refine j_if_eq (tgt := 1056) hv207 dL_law_1049 rfl (fun _ => ?_) (fun _ => ?_)
  · refine j_iconst dL_law_1056 ?_
    exact p_f_L_law_b1057 hd0 k18 x0 x1 x2 x3 v204 x2 v206 0 S205 h0 h1 h2 h3 hv204 h2 hv206 jz0
  · refine j_iconst dL_law_1052 ?_
    refine j_goto (tgt := 1057) dL_law_1053 rfl ?_
    exact p_f_L_law_b1057 hd0 k18 x0 x1 x2 x3 v204 x2 v206 1 S205 h0 h1 h2 h3 hv204 h2 hv206 jz1
def f_L_law_b1284 (L : Nat) (xs : Nat → Int32) (r18 : Int → Int → Int → Int → jSt → Option (Int × jSt)) (x0 : Int) (x1 : Int) (x2 : Int) (x3 : Int) (x4 : Int) (x5 : Int) (x6 : Int) (x7 : Int) (S : jSt) : Option (Int × jSt) :=
  fcallv S x5 12 (f_X12_leave x5 x6 x7 S) (fun v260 S261 => if x4 = v260 then f_L_law_b1585 L xs r18 x0 x1 x2 x3 S261 else some (0, S261))
theorem p_f_L_law_b1284 {G : jG} {d : Nat} {S0 : jSt} (hd0 : 109 ≤ d) {r18 : Int → Int → Int → Int → jSt → Option (Int × jSt)} (k18 : ∀ (x0 : Int) (x1 : Int) (x2 : Int) (x3 : Int) (S : jSt), ((x0) = ((G.2.2.2.2.2.2.2.1 : Nat) : Int)) → (0 ≤ (x1)) → (0 ≤ (x2)) → (R32 (x3)) → J G yL_law cL_law 4 (some .boolean) d S0 18 [(0, 2, x0), (1, 2, x1), (2, 2, x2), (3, 0, x3)] [] S (r18 x0 x1 x2 x3 S)) : ∀ (x0 : Int) (x1 : Int) (x2 : Int) (x3 : Int) (x4 : Int) (x5 : Int) (x6 : Int) (x7 : Int) (S : jSt), ((x0) = ((G.2.2.2.2.2.2.2.1 : Nat) : Int)) → (0 ≤ (x1)) → (0 ≤ (x2)) → (R32 (x3)) → (R64 (x4)) → (0 ≤ (x5)) → (R32 (x6)) → ((x7) = 0 ∨ (x7) = 1) → J G yL_law cL_law 4 (some .boolean) d S0 1284 [(0, 2, x0), (1, 2, x1), (2, 2, x2), (3, 0, x3)] [(0, x7), (0, x6), (2, x5), (1, x4)] S (f_L_law_b1284 G.2.2.2.2.2.2.2.2.1 G.2.2.2.2.2.2.2.2.2 r18 x0 x1 x2 x3 x4 x5 x6 x7 S) := by
  intro x0 x1 x2 x3 x4 x5 x6 x7 S h0 h1 h2 h3 h4 h5 h6 h7
  unfold f_L_law_b1284
  refine j_callV (ci := 12) (As := [(0, x6), (0, x7)]) (st := [(1, x4)]) kc_X12_leave (c_X12_leave x5 x6 x7 S h5 h6 h7) rfl lm_L_159 ki_X12_leave ke_X12_leave rfl (Nat.le_of_ble_eq_true rfl) (Nat.le_trans (m := 109) (Nat.le_of_ble_eq_true rfl) hd0) dL_law_1284 (fun (v260 : Int) (S261 : jSt) (hv260 : R64 (v260)) => ?_)
  refine j_lcmp_eq (tgt := 1585) h4 hv260 dL_law_1287 dL_law_1288 rfl (fun _ => ?_) (fun _ => ?_)
  · exact p_f_L_law_b1585 hd0 k18 x0 x1 x2 x3 S261 h0 h1 h2 h3
  · refine j_iconst dL_law_1291 ?_
    exact j_zreturn jz0 dL_law_1292
def f_L_law_b1262 (L : Nat) (xs : Nat → Int32) (r18 : Int → Int → Int → Int → jSt → Option (Int × jSt)) (x0 : Int) (x1 : Int) (x2 : Int) (x3 : Int) (x4 : Int) (x5 : Int) (x6 : Int) (S : jSt) : Option (Int × jSt) :=
  fcallv S x4 11 (f_X11_leave x4 x5 x6 S) (fun v256 S257 => fsld L xs (w32 (x3 + 1)) (fun v258 => fsld L xs (w32 (x3 + 2)) (fun v259 => if v259 = 0 then f_L_law_b1284 L xs r18 x0 x1 x2 x3 v256 x2 v258 0 S257 else f_L_law_b1284 L xs r18 x0 x1 x2 x3 v256 x2 v258 1 S257)))
theorem p_f_L_law_b1262 {G : jG} {d : Nat} {S0 : jSt} (hd0 : 109 ≤ d) {r18 : Int → Int → Int → Int → jSt → Option (Int × jSt)} (k18 : ∀ (x0 : Int) (x1 : Int) (x2 : Int) (x3 : Int) (S : jSt), ((x0) = ((G.2.2.2.2.2.2.2.1 : Nat) : Int)) → (0 ≤ (x1)) → (0 ≤ (x2)) → (R32 (x3)) → J G yL_law cL_law 4 (some .boolean) d S0 18 [(0, 2, x0), (1, 2, x1), (2, 2, x2), (3, 0, x3)] [] S (r18 x0 x1 x2 x3 S)) : ∀ (x0 : Int) (x1 : Int) (x2 : Int) (x3 : Int) (x4 : Int) (x5 : Int) (x6 : Int) (S : jSt), ((x0) = ((G.2.2.2.2.2.2.2.1 : Nat) : Int)) → (0 ≤ (x1)) → (0 ≤ (x2)) → (R32 (x3)) → (0 ≤ (x4)) → (R32 (x5)) → ((x6) = 0 ∨ (x6) = 1) → J G yL_law cL_law 4 (some .boolean) d S0 1262 [(0, 2, x0), (1, 2, x1), (2, 2, x2), (3, 0, x3)] [(0, x6), (0, x5), (2, x4)] S (f_L_law_b1262 G.2.2.2.2.2.2.2.2.1 G.2.2.2.2.2.2.2.2.2 r18 x0 x1 x2 x3 x4 x5 x6 S) := by
  intro x0 x1 x2 x3 x4 x5 x6 S h0 h1 h2 h3 h4 h5 h6
  unfold f_L_law_b1262
  refine j_callV (ci := 11) (As := [(0, x5), (0, x6)]) (st := []) kc_X11_leave (c_X11_leave x4 x5 x6 S h4 h5 h6) rfl lm_L_155 ki_X11_leave ke_X11_leave rfl (Nat.le_of_ble_eq_true rfl) (Nat.le_trans (m := 109) (Nat.le_of_ble_eq_true rfl) hd0) dL_law_1262 (fun (v256 : Int) (S257 : jSt) (hv256 : R64 (v256)) => ?_)
  refine j_aload_n 2 dL_law_1265 rfl rfl ?_
  refine j_aload_n 0 dL_law_1266 rfl rfl ?_
  refine j_iload_n 3 dL_law_1267 rfl rfl ?_
  refine j_iconst dL_law_1268 ?_
  refine j_iadd dL_law_1269 ?_
  refine j_sld h0 (w32_R _) dL_law_1270 (fun (v258 : Int) (hv258 : R32 v258) => ?_)
  refine j_aload_n 0 dL_law_1271 rfl rfl ?_
  refine j_iload_n 3 dL_law_1272 rfl rfl ?_
  refine j_iconst dL_law_1273 ?_
  refine j_iadd dL_law_1274 ?_
  refine j_sld h0 (w32_R _) dL_law_1275 (fun (v259 : Int) (hv259 : R32 v259) => ?_)
  refine j_if_eq (tgt := 1283) hv259 dL_law_1276 rfl (fun _ => ?_) (fun _ => ?_)
  · refine j_iconst dL_law_1283 ?_
    exact p_f_L_law_b1284 hd0 k18 x0 x1 x2 x3 v256 x2 v258 0 S257 h0 h1 h2 h3 hv256 h2 hv258 jz0
  · refine j_iconst dL_law_1279 ?_
    refine j_goto (tgt := 1284) dL_law_1280 rfl ?_
    exact p_f_L_law_b1284 hd0 k18 x0 x1 x2 x3 v256 x2 v258 1 S257 h0 h1 h2 h3 hv256 h2 hv258 jz1
def f_L_law_b1410 (L : Nat) (xs : Nat → Int32) (r18 : Int → Int → Int → Int → jSt → Option (Int × jSt)) (x0 : Int) (x1 : Int) (x2 : Int) (x3 : Int) (x4 : Int) (x5 : Int) (x6 : Int) (x7 : Int) (x8 : Int) (S : jSt) : Option (Int × jSt) :=
  fcallv S x5 12 (f_X12_burnt x5 x6 x7 x8 S) (fun v286 S287 => if x4 = v286 then f_L_law_b1585 L xs r18 x0 x1 x2 x3 S287 else some (0, S287))
theorem p_f_L_law_b1410 {G : jG} {d : Nat} {S0 : jSt} (hd0 : 109 ≤ d) {r18 : Int → Int → Int → Int → jSt → Option (Int × jSt)} (k18 : ∀ (x0 : Int) (x1 : Int) (x2 : Int) (x3 : Int) (S : jSt), ((x0) = ((G.2.2.2.2.2.2.2.1 : Nat) : Int)) → (0 ≤ (x1)) → (0 ≤ (x2)) → (R32 (x3)) → J G yL_law cL_law 4 (some .boolean) d S0 18 [(0, 2, x0), (1, 2, x1), (2, 2, x2), (3, 0, x3)] [] S (r18 x0 x1 x2 x3 S)) : ∀ (x0 : Int) (x1 : Int) (x2 : Int) (x3 : Int) (x4 : Int) (x5 : Int) (x6 : Int) (x7 : Int) (x8 : Int) (S : jSt), ((x0) = ((G.2.2.2.2.2.2.2.1 : Nat) : Int)) → (0 ≤ (x1)) → (0 ≤ (x2)) → (R32 (x3)) → (R32 (x4)) → (0 ≤ (x5)) → (R32 (x6)) → (R32 (x7)) → ((x8) = 0 ∨ (x8) = 1) → J G yL_law cL_law 4 (some .boolean) d S0 1410 [(0, 2, x0), (1, 2, x1), (2, 2, x2), (3, 0, x3)] [(0, x8), (0, x7), (0, x6), (2, x5), (0, x4)] S (f_L_law_b1410 G.2.2.2.2.2.2.2.2.1 G.2.2.2.2.2.2.2.2.2 r18 x0 x1 x2 x3 x4 x5 x6 x7 x8 S) := by
  intro x0 x1 x2 x3 x4 x5 x6 x7 x8 S h0 h1 h2 h3 h4 h5 h6 h7 h8
  unfold f_L_law_b1410
  refine j_callV (ci := 12) (As := [(0, x6), (0, x7), (0, x8)]) (st := [(0, x4)]) kc_X12_burnt (c_X12_burnt x5 x6 x7 x8 S h5 h6 h7 h8) rfl lm_L_172 ki_X12_burnt ke_X12_burnt rfl (Nat.le_of_ble_eq_true rfl) (Nat.le_trans (m := 109) (Nat.le_of_ble_eq_true rfl) hd0) dL_law_1410 (fun (v286 : Int) (S287 : jSt) (hv286 : R32 (v286)) => ?_)
  refine j_icmp_eq (tgt := 1585) h4 hv286 dL_law_1413 rfl (fun _ => ?_) (fun _ => ?_)
  · exact p_f_L_law_b1585 hd0 k18 x0 x1 x2 x3 S287 h0 h1 h2 h3
  · refine j_iconst dL_law_1416 ?_
    exact j_zreturn jz0 dL_law_1417
def f_L_law_b1383 (L : Nat) (xs : Nat → Int32) (r18 : Int → Int → Int → Int → jSt → Option (Int × jSt)) (x0 : Int) (x1 : Int) (x2 : Int) (x3 : Int) (x4 : Int) (x5 : Int) (x6 : Int) (x7 : Int) (S : jSt) : Option (Int × jSt) :=
  fcallv S x4 11 (f_X11_burnt x4 x5 x6 x7 S) (fun v281 S282 => fsld L xs (w32 (x3 + 1)) (fun v283 => fsld L xs (w32 (x3 + 2)) (fun v284 => fsld L xs (w32 (x3 + 3)) (fun v285 => if v285 = 0 then f_L_law_b1410 L xs r18 x0 x1 x2 x3 v281 x2 v283 v284 0 S282 else f_L_law_b1410 L xs r18 x0 x1 x2 x3 v281 x2 v283 v284 1 S282))))
theorem p_f_L_law_b1383 {G : jG} {d : Nat} {S0 : jSt} (hd0 : 109 ≤ d) {r18 : Int → Int → Int → Int → jSt → Option (Int × jSt)} (k18 : ∀ (x0 : Int) (x1 : Int) (x2 : Int) (x3 : Int) (S : jSt), ((x0) = ((G.2.2.2.2.2.2.2.1 : Nat) : Int)) → (0 ≤ (x1)) → (0 ≤ (x2)) → (R32 (x3)) → J G yL_law cL_law 4 (some .boolean) d S0 18 [(0, 2, x0), (1, 2, x1), (2, 2, x2), (3, 0, x3)] [] S (r18 x0 x1 x2 x3 S)) : ∀ (x0 : Int) (x1 : Int) (x2 : Int) (x3 : Int) (x4 : Int) (x5 : Int) (x6 : Int) (x7 : Int) (S : jSt), ((x0) = ((G.2.2.2.2.2.2.2.1 : Nat) : Int)) → (0 ≤ (x1)) → (0 ≤ (x2)) → (R32 (x3)) → (0 ≤ (x4)) → (R32 (x5)) → (R32 (x6)) → ((x7) = 0 ∨ (x7) = 1) → J G yL_law cL_law 4 (some .boolean) d S0 1383 [(0, 2, x0), (1, 2, x1), (2, 2, x2), (3, 0, x3)] [(0, x7), (0, x6), (0, x5), (2, x4)] S (f_L_law_b1383 G.2.2.2.2.2.2.2.2.1 G.2.2.2.2.2.2.2.2.2 r18 x0 x1 x2 x3 x4 x5 x6 x7 S) := by
  intro x0 x1 x2 x3 x4 x5 x6 x7 S h0 h1 h2 h3 h4 h5 h6 h7
  unfold f_L_law_b1383
  refine j_callV (ci := 11) (As := [(0, x5), (0, x6), (0, x7)]) (st := []) kc_X11_burnt (c_X11_burnt x4 x5 x6 x7 S h4 h5 h6 h7) rfl lm_L_168 ki_X11_burnt ke_X11_burnt rfl (Nat.le_of_ble_eq_true rfl) (Nat.le_trans (m := 109) (Nat.le_of_ble_eq_true rfl) hd0) dL_law_1383 (fun (v281 : Int) (S282 : jSt) (hv281 : R32 (v281)) => ?_)
  refine j_aload_n 2 dL_law_1386 rfl rfl ?_
  refine j_aload_n 0 dL_law_1387 rfl rfl ?_
  refine j_iload_n 3 dL_law_1388 rfl rfl ?_
  refine j_iconst dL_law_1389 ?_
  refine j_iadd dL_law_1390 ?_
  refine j_sld h0 (w32_R _) dL_law_1391 (fun (v283 : Int) (hv283 : R32 v283) => ?_)
  refine j_aload_n 0 dL_law_1392 rfl rfl ?_
  refine j_iload_n 3 dL_law_1393 rfl rfl ?_
  refine j_iconst dL_law_1394 ?_
  refine j_iadd dL_law_1395 ?_
  refine j_sld h0 (w32_R _) dL_law_1396 (fun (v284 : Int) (hv284 : R32 v284) => ?_)
  refine j_aload_n 0 dL_law_1397 rfl rfl ?_
  refine j_iload_n 3 dL_law_1398 rfl rfl ?_
  refine j_iconst dL_law_1399 ?_
  refine j_iadd dL_law_1400 ?_
  refine j_sld h0 (w32_R _) dL_law_1401 (fun (v285 : Int) (hv285 : R32 v285) => ?_)
  refine j_if_eq (tgt := 1409) hv285 dL_law_1402 rfl (fun _ => ?_) (fun _ => ?_)
  · refine j_iconst dL_law_1409 ?_
    exact p_f_L_law_b1410 hd0 k18 x0 x1 x2 x3 v281 x2 v283 v284 0 S282 h0 h1 h2 h3 hv281 h2 hv283 hv284 jz0
  · refine j_iconst dL_law_1405 ?_
    refine j_goto (tgt := 1410) dL_law_1406 rfl ?_
    exact p_f_L_law_b1410 hd0 k18 x0 x1 x2 x3 v281 x2 v283 v284 1 S282 h0 h1 h2 h3 hv281 h2 hv283 hv284 jz1
def f_L_law_b18B (L : Nat) (xs : Nat → Int32) (r18 : Int → Int → Int → Int → jSt → Option (Int × jSt)) (x0 : Int) (x1 : Int) (x2 : Int) (x3 : Int) (S : jSt) : Option (Int × jSt) :=
  fslen L (fun v9 => if (w32 (v9 - 6)) < x3 then some (1, S) else fsld L xs x3 (fun v10 => if iand32 v10 63 = 0 then fsld L xs (w32 (x3 + 1)) (fun v11 => fsld L xs (w32 (x3 + 2)) (fun v12 => fsld L xs (w32 (x3 + 3)) (fun v13 => fcallv S x1 11 (f_X11_lot x1 v11 v12 v13 S) (fun v14 S15 => fsld L xs (w32 (x3 + 1)) (fun v16 => fsld L xs (w32 (x3 + 2)) (fun v17 => fsld L xs (w32 (x3 + 3)) (fun v18 => fcallv S15 x2 12 (f_X12_lot x2 v16 v17 v18 S15) (fun v19 S20 => if v14 = v19 then f_L_law_b1585 L xs r18 x0 x1 x2 x3 S20 else some (0, S20))))))))) else if iand32 v10 63 = 1 then fsld L xs (w32 (x3 + 1)) (fun v22 => fcallv S x1 11 (f_X11_bidder x1 v22 S) (fun v23 S24 => fsld L xs (w32 (x3 + 1)) (fun v25 => fcallv S24 x2 12 (f_X12_bidder x2 v25 S24) (fun v26 S27 => if v23 = v26 then f_L_law_b1585 L xs r18 x0 x1 x2 x3 S27 else some (0, S27))))) else if iand32 v10 63 = 2 then fsld L xs (w32 (x3 + 1)) (fun v28 => fsld L xs (w32 (x3 + 2)) (fun v29 => fsld L xs (w32 (x3 + 3)) (fun v30 => fcallv S x1 11 (f_X11_want x1 v28 v29 v30 S) (fun v31 S32 => fsld L xs (w32 (x3 + 1)) (fun v33 => fsld L xs (w32 (x3 + 2)) (fun v34 => fsld L xs (w32 (x3 + 3)) (fun v35 => fcallv S32 x2 12 (f_X12_want x2 v33 v34 v35 S32) (fun v36 S37 => if v31 = v36 then f_L_law_b1585 L xs r18 x0 x1 x2 x3 S37 else some (0, S37))))))))) else if iand32 v10 63 = 3 then fsld L xs (w32 (x3 + 1)) (fun v38 => fsld L xs (w32 (x3 + 2)) (fun v39 => fsld L xs (w32 (x3 + 3)) (fun v40 => fsld L xs (w32 (x3 + 4)) (fun v41 => fsld L xs (w32 (x3 + 5)) (fun v42 => fcallv S x1 11 (f_X11_feed x1 v38 v39 v40 v41 v42 S) (fun v43 S44 => fsld L xs (w32 (x3 + 1)) (fun v45 => fsld L xs (w32 (x3 + 2)) (fun v46 => fsld L xs (w32 (x3 + 3)) (fun v47 => fsld L xs (w32 (x3 + 4)) (fun v48 => fsld L xs (w32 (x3 + 5)) (fun v49 => fcallv S44 x2 12 (f_X12_feed x2 v45 v46 v47 v48 v49 S44) (fun v50 S51 => if v43 = v50 then f_L_law_b1585 L xs r18 x0 x1 x2 x3 S51 else some (0, S51))))))))))))) else if iand32 v10 63 = 4 then fsld L xs (w32 (x3 + 1)) (fun v52 => fcallv S x1 11 (f_X11_end x1 v52 S) (fun v53 S54 => fsld L xs (w32 (x3 + 1)) (fun v55 => fcallv S54 x2 12 (f_X12_end x2 v55 S54) (fun v56 S57 => if v53 = v56 then f_L_law_b1585 L xs r18 x0 x1 x2 x3 S57 else some (0, S57))))) else if iand32 v10 63 = 5 then fcallv S x1 11 (f_X11_text x1 S) (fun v58 S59 => fcallv S59 x2 12 (f_X12_text x2 S59) (fun v60 S61 => if v58 = v60 then f_L_law_b1585 L xs r18 x0 x1 x2 x3 S61 else some (0, S61))) else if iand32 v10 63 = 6 then fsld L xs (w32 (x3 + 1)) (fun v62 => fcallv S x1 11 (f_X11_fault x1 v62 S) (fun v63 S64 => fsld L xs (w32 (x3 + 1)) (fun v65 => fcallv S64 x2 12 (f_X12_fault x2 v65 S64) (fun v66 S67 => if v63 = v66 then f_L_law_b1585 L xs r18 x0 x1 x2 x3 S67 else some (0, S67))))) else if iand32 v10 63 = 7 then fsld L xs (w32 (x3 + 1)) (fun v68 => fcallv S x1 11 (f_X11_by x1 v68 S) (fun v69 S70 => fsld L xs (w32 (x3 + 1)) (fun v71 => fcallv S70 x2 12 (f_X12_by x2 v71 S70) (fun v72 S73 => if v69 = v72 then f_L_law_b1585 L xs r18 x0 x1 x2 x3 S73 else some (0, S73))))) else if iand32 v10 63 = 8 then fsld L xs (w32 (x3 + 1)) (fun v74 => fcallv S x1 11 (f_X11_sell x1 v74 S) (fun v75 S76 => fsld L xs (w32 (x3 + 1)) (fun v77 => fcallv S76 x2 12 (f_X12_sell x2 v77 S76) (fun v78 S79 => if v75 = v78 then f_L_law_b1585 L xs r18 x0 x1 x2 x3 S79 else some (0, S79))))) else if iand32 v10 63 = 9 then fsld L xs (w32 (x3 + 1)) (fun v80 => fcallv S x1 11 (f_X11_carry x1 v80 S) (fun v81 S82 => fsld L xs (w32 (x3 + 1)) (fun v83 => fcallv S82 x2 12 (f_X12_carry x2 v83 S82) (fun v84 S85 => if v81 = v84 then f_L_law_b1585 L xs r18 x0 x1 x2 x3 S85 else some (0, S85))))) else if iand32 v10 63 = 10 then fsld L xs (w32 (x3 + 1)) (fun v86 => fcallv S x1 11 (f_X11_burn x1 v86 S) (fun v87 S88 => fsld L xs (w32 (x3 + 1)) (fun v89 => fcallv S88 x2 12 (f_X12_burn x2 v89 S88) (fun v90 S91 => if v87 = v90 then f_L_law_b1585 L xs r18 x0 x1 x2 x3 S91 else some (0, S91))))) else if iand32 v10 63 = 11 then fsld L xs (w32 (x3 + 1)) (fun v92 => fsld L xs (w32 (x3 + 2)) (fun v93 => fcallv S x1 11 (f_X11_buy x1 v92 v93 S) (fun v94 S95 => fsld L xs (w32 (x3 + 1)) (fun v96 => fsld L xs (w32 (x3 + 2)) (fun v97 => fcallv S95 x2 12 (f_X12_buy x2 v96 v97 S95) (fun v98 S99 => if v94 = v98 then f_L_law_b1585 L xs r18 x0 x1 x2 x3 S99 else some (0, S99))))))) else if iand32 v10 63 = 12 then fsld L xs (w32 (x3 + 1)) (fun v100 => fcallv S x1 11 (f_X11_week x1 v100 S) (fun v101 S102 => fsld L xs (w32 (x3 + 1)) (fun v103 => fcallv S102 x2 12 (f_X12_week x2 v103 S102) (fun v104 S105 => if v101 = v104 then f_L_law_b1585 L xs r18 x0 x1 x2 x3 S105 else some (0, S105))))) else if iand32 v10 63 = 13 then fsld L xs (w32 (x3 + 1)) (fun v106 => fcallv S x1 11 (f_X11_played x1 v106 S) (fun v107 S108 => fsld L xs (w32 (x3 + 1)) (fun v109 => fcallv S108 x2 12 (f_X12_played x2 v109 S108) (fun v110 S111 => if v107 = v110 then f_L_law_b1585 L xs r18 x0 x1 x2 x3 S111 else some (0, S111))))) else if iand32 v10 63 = 14 then fsld L xs (w32 (x3 + 1)) (fun v112 => fsld L xs (w32 (x3 + 2)) (fun v113 => fcallv S x1 11 (f_X11_years x1 v112 v113 S) (fun v114 S115 => fsld L xs (w32 (x3 + 1)) (fun v116 => fsld L xs (w32 (x3 + 2)) (fun v117 => fcallv S115 x2 12 (f_X12_years x2 v116 v117 S115) (fun v118 S119 => if v114 = v118 then f_L_law_b1585 L xs r18 x0 x1 x2 x3 S119 else some (0, S119))))))) else if iand32 v10 63 = 15 then fcallv S x1 11 (f_X11_undo x1 S) (fun v120 S121 => fcallv S121 x2 12 (f_X12_undo x2 S121) (fun v122 S123 => if v120 = v122 then f_L_law_b1585 L xs r18 x0 x1 x2 x3 S123 else some (0, S123))) else if iand32 v10 63 = 16 then fsld L xs (w32 (x3 + 1)) (fun v124 => fsld L xs (w32 (x3 + 2)) (fun v125 => fcallv S x1 11 (f_X11_of x1 v124 v125 S) (fun v126 S127 => fsld L xs (w32 (x3 + 1)) (fun v128 => fsld L xs (w32 (x3 + 2)) (fun v129 => fcallv S127 x2 12 (f_X12_of x2 v128 v129 S127) (fun v130 S131 => if v126 = v130 then f_L_law_b1585 L xs r18 x0 x1 x2 x3 S131 else some (0, S131))))))) else if iand32 v10 63 = 17 then fsld L xs (w32 (x3 + 1)) (fun v132 => fsld L xs (w32 (x3 + 2)) (fun v133 => fcallv S x1 11 (f_X11_ofBidder x1 v132 v133 S) (fun v134 S135 => fsld L xs (w32 (x3 + 1)) (fun v136 => fsld L xs (w32 (x3 + 2)) (fun v137 => fcallv S135 x2 12 (f_X12_ofBidder x2 v136 v137 S135) (fun v138 S139 => if v134 = v138 then f_L_law_b1585 L xs r18 x0 x1 x2 x3 S139 else some (0, S139))))))) else if iand32 v10 63 = 18 then fsld L xs (w32 (x3 + 1)) (fun v140 => fsld L xs (w32 (x3 + 2)) (fun v141 => fcallv S x1 11 (f_X11_bids x1 v140 v141 S) (fun v142 S143 => fsld L xs (w32 (x3 + 1)) (fun v144 => fsld L xs (w32 (x3 + 2)) (fun v145 => fcallv S143 x2 12 (f_X12_bids x2 v144 v145 S143) (fun v146 S147 => if v142 = v146 then f_L_law_b1585 L xs r18 x0 x1 x2 x3 S147 else some (0, S147))))))) else if iand32 v10 63 = 19 then fsld L xs (w32 (x3 + 1)) (fun v148 => fcallv S x1 11 (f_X11_is x1 v148 S) (fun v149 S150 => fsld L xs (w32 (x3 + 1)) (fun v151 => fcallv S150 x2 12 (f_X12_is x2 v151 S150) (fun v152 S153 => if v149 = v152 then f_L_law_b1585 L xs r18 x0 x1 x2 x3 S153 else some (0, S153))))) else if iand32 v10 63 = 20 then fsld L xs (w32 (x3 + 1)) (fun v154 => fsld L xs (w32 (x3 + 2)) (fun v155 => fcallv S x1 11 (f_X11_book x1 v154 v155 S) (fun v156 S157 => fsld L xs (w32 (x3 + 1)) (fun v158 => fsld L xs (w32 (x3 + 2)) (fun v159 => fcallv S157 x2 12 (f_X12_book x2 v158 v159 S157) (fun v160 S161 => if v156 = v160 then f_L_law_b1585 L xs r18 x0 x1 x2 x3 S161 else some (0, S161))))))) else if iand32 v10 63 = 21 then fsld L xs (w32 (x3 + 1)) (fun v162 => fsld L xs (w32 (x3 + 2)) (fun v163 => fsld L xs (w32 (x3 + 3)) (fun v164 => fcallv S x1 11 (f_X11_foretold x1 v162 v163 v164 S) (fun v165 S166 => fsld L xs (w32 (x3 + 1)) (fun v167 => fsld L xs (w32 (x3 + 2)) (fun v168 => fsld L xs (w32 (x3 + 3)) (fun v169 => fcallv S166 x2 12 (f_X12_foretold x2 v167 v168 v169 S166) (fun v170 S171 => if v165 = v170 then f_L_law_b1585 L xs r18 x0 x1 x2 x3 S171 else some (0, S171))))))))) else if iand32 v10 63 = 22 then fsld L xs (w32 (x3 + 1)) (fun v172 => fsld L xs (w32 (x3 + 2)) (fun v173 => fcallv S x1 11 (f_X11_order x1 v172 v173 S) (fun v174 S175 => fsld L xs (w32 (x3 + 1)) (fun v176 => fsld L xs (w32 (x3 + 2)) (fun v177 => fcallv S175 x2 12 (f_X12_order x2 v176 v177 S175) (fun v178 S179 => if v174 = v178 then f_L_law_b1585 L xs r18 x0 x1 x2 x3 S179 else some (0, S179))))))) else if iand32 v10 63 = 23 then fsld L xs (w32 (x3 + 1)) (fun v180 => fsld L xs (w32 (x3 + 2)) (fun v181 => fsld L xs (w32 (x3 + 3)) (fun v182 => fcallv S x1 11 (f_X11_bundle x1 v180 v181 v182 S) (fun v183 S184 => fsld L xs (w32 (x3 + 1)) (fun v185 => fsld L xs (w32 (x3 + 2)) (fun v186 => fsld L xs (w32 (x3 + 3)) (fun v187 => fcallv S184 x2 12 (f_X12_bundle x2 v185 v186 v187 S184) (fun v188 S189 => if v183 = v188 then f_L_law_b1585 L xs r18 x0 x1 x2 x3 S189 else some (0, S189))))))))) else if iand32 v10 63 = 24 then fsld L xs (w32 (x3 + 1)) (fun v190 => if v190 = 0 then f_L_law_b968 L xs r18 x0 x1 x2 x3 x1 0 S else f_L_law_b968 L xs r18 x0 x1 x2 x3 x1 1 S) else if iand32 v10 63 = 25 then fsld L xs (w32 (x3 + 1)) (fun v196 => fcallv S x1 11 (f_X11_pays x1 v196 S) (fun v197 S198 => fsld L xs (w32 (x3 + 1)) (fun v199 => fcallv S198 x2 12 (f_X12_pays x2 v199 S198) (fun v200 S201 => if v197 = v200 then f_L_law_b1585 L xs r18 x0 x1 x2 x3 S201 else some (0, S201))))) else if iand32 v10 63 = 26 then fsld L xs (w32 (x3 + 1)) (fun v202 => fsld L xs (w32 (x3 + 2)) (fun v203 => if v203 = 0 then f_L_law_b1035 L xs r18 x0 x1 x2 x3 x1 v202 0 S else f_L_law_b1035 L xs r18 x0 x1 x2 x3 x1 v202 1 S)) else if iand32 v10 63 = 27 then fsld L xs (w32 (x3 + 1)) (fun v210 => fsld L xs (w32 (x3 + 2)) (fun v211 => fcallv S x1 11 (f_X11_stair x1 v210 v211 S) (fun v212 S213 => fsld L xs (w32 (x3 + 1)) (fun v214 => fsld L xs (w32 (x3 + 2)) (fun v215 => fcallv S213 x2 12 (f_X12_stair x2 v214 v215 S213) (fun v216 S217 => if v212 = v216 then f_L_law_b1585 L xs r18 x0 x1 x2 x3 S217 else some (0, S217))))))) else if iand32 v10 63 = 28 then fsld L xs (w32 (x3 + 1)) (fun v218 => fsld L xs (w32 (x3 + 2)) (fun v219 => fcallv S x1 11 (f_X11_gone x1 v218 v219 S) (fun v220 S221 => fsld L xs (w32 (x3 + 1)) (fun v222 => fsld L xs (w32 (x3 + 2)) (fun v223 => fcallv S221 x2 12 (f_X12_gone x2 v222 v223 S221) (fun v224 S225 => if v220 = v224 then f_L_law_b1585 L xs r18 x0 x1 x2 x3 S225 else some (0, S225))))))) else if iand32 v10 63 = 29 then fsld L xs (w32 (x3 + 1)) (fun v226 => fsld L xs (w32 (x3 + 2)) (fun v227 => fcallv S x1 11 (f_X11_climb x1 v226 v227 S) (fun v228 S229 => fsld L xs (w32 (x3 + 1)) (fun v230 => fsld L xs (w32 (x3 + 2)) (fun v231 => fcallv S229 x2 12 (f_X12_climb x2 v230 v231 S229) (fun v232 S233 => if v228 = v232 then f_L_law_b1585 L xs r18 x0 x1 x2 x3 S233 else some (0, S233))))))) else if iand32 v10 63 = 30 then fsld L xs (w32 (x3 + 1)) (fun v234 => fsld L xs (w32 (x3 + 2)) (fun v235 => fcallv S x1 11 (f_X11_cut x1 v234 v235 S) (fun v236 S237 => fsld L xs (w32 (x3 + 1)) (fun v238 => fsld L xs (w32 (x3 + 2)) (fun v239 => fcallv S237 x2 12 (f_X12_cut x2 v238 v239 S237) (fun v240 S241 => if v236 = v240 then f_L_law_b1585 L xs r18 x0 x1 x2 x3 S241 else some (0, S241))))))) else if iand32 v10 63 = 31 then fcallv S x1 11 (f_X11_bridges x1 S) (fun v242 S243 => fcallv S243 x2 12 (f_X12_bridges x2 S243) (fun v244 S245 => if v242 = v244 then f_L_law_b1585 L xs r18 x0 x1 x2 x3 S245 else some (0, S245))) else if iand32 v10 63 = 32 then fsld L xs (w32 (x3 + 1)) (fun v246 => fsld L xs (w32 (x3 + 2)) (fun v247 => fcallv S x1 11 (f_X11_odds x1 v246 v247 S) (fun v248 S249 => fsld L xs (w32 (x3 + 1)) (fun v250 => fsld L xs (w32 (x3 + 2)) (fun v251 => fcallv S249 x2 12 (f_X12_odds x2 v250 v251 S249) (fun v252 S253 => if v248 = v252 then f_L_law_b1585 L xs r18 x0 x1 x2 x3 S253 else some (0, S253))))))) else if iand32 v10 63 = 33 then fsld L xs (w32 (x3 + 1)) (fun v254 => fsld L xs (w32 (x3 + 2)) (fun v255 => if v255 = 0 then f_L_law_b1262 L xs r18 x0 x1 x2 x3 x1 v254 0 S else f_L_law_b1262 L xs r18 x0 x1 x2 x3 x1 v254 1 S)) else if iand32 v10 63 = 34 then fsld L xs (w32 (x3 + 1)) (fun v262 => fsld L xs (w32 (x3 + 2)) (fun v263 => fcallv S x1 11 (f_X11_takes x1 v262 v263 S) (fun v264 S265 => fsld L xs (w32 (x3 + 1)) (fun v266 => fsld L xs (w32 (x3 + 2)) (fun v267 => fcallv S265 x2 12 (f_X12_takes x2 v266 v267 S265) (fun v268 S269 => if v264 = v268 then f_L_law_b1585 L xs r18 x0 x1 x2 x3 S269 else some (0, S269))))))) else if iand32 v10 63 = 35 then fsld L xs (w32 (x3 + 1)) (fun v270 => fsld L xs (w32 (x3 + 2)) (fun v271 => fcallv S x1 11 (f_X11_ash x1 v270 v271 S) (fun v272 S273 => fsld L xs (w32 (x3 + 1)) (fun v274 => fsld L xs (w32 (x3 + 2)) (fun v275 => fcallv S273 x2 12 (f_X12_ash x2 v274 v275 S273) (fun v276 S277 => if v272 = v276 then f_L_law_b1585 L xs r18 x0 x1 x2 x3 S277 else some (0, S277))))))) else if iand32 v10 63 = 36 then fsld L xs (w32 (x3 + 1)) (fun v278 => fsld L xs (w32 (x3 + 2)) (fun v279 => fsld L xs (w32 (x3 + 3)) (fun v280 => if v280 = 0 then f_L_law_b1383 L xs r18 x0 x1 x2 x3 x1 v278 v279 0 S else f_L_law_b1383 L xs r18 x0 x1 x2 x3 x1 v278 v279 1 S))) else if iand32 v10 63 = 37 then fsld L xs (w32 (x3 + 1)) (fun v288 => fsld L xs (w32 (x3 + 2)) (fun v289 => fcallv S x1 11 (f_X11_said x1 v288 v289 S) (fun v290 S291 => fsld L xs (w32 (x3 + 1)) (fun v292 => fsld L xs (w32 (x3 + 2)) (fun v293 => fcallv S291 x2 12 (f_X12_said x2 v292 v293 S291) (fun v294 S295 => if v290 = v294 then f_L_law_b1585 L xs r18 x0 x1 x2 x3 S295 else some (0, S295))))))) else if iand32 v10 63 = 38 then fcallv S x1 11 (f_X11_whose x1 S) (fun v296 S297 => fcallv S297 x2 12 (f_X12_whose x2 S297) (fun v298 S299 => if v296 = v298 then f_L_law_b1585 L xs r18 x0 x1 x2 x3 S299 else some (0, S299))) else if iand32 v10 63 = 39 then fcallv S x1 11 (f_X11_dearest x1 S) (fun v300 S301 => fcallv S301 x2 12 (f_X12_dearest x2 S301) (fun v302 S303 => if v300 = v302 then f_L_law_b1585 L xs r18 x0 x1 x2 x3 S303 else some (0, S303))) else if iand32 v10 63 = 40 then fsld L xs (w32 (x3 + 1)) (fun v304 => fcallv S x1 11 (f_X11_left x1 v304 S) (fun v305 S306 => fsld L xs (w32 (x3 + 1)) (fun v307 => fcallv S306 x2 12 (f_X12_left x2 v307 S306) (fun v308 S309 => if v305 = v308 then f_L_law_b1585 L xs r18 x0 x1 x2 x3 S309 else some (0, S309))))) else if iand32 v10 63 = 41 then fsld L xs (w32 (x3 + 1)) (fun v310 => fcallv S x1 11 (f_X11_ledger x1 v310 S) (fun v311 S312 => fsld L xs (w32 (x3 + 1)) (fun v313 => fcallv S312 x2 12 (f_X12_ledger x2 v313 S312) (fun v314 S315 => if v311 = v314 then f_L_law_b1585 L xs r18 x0 x1 x2 x3 S315 else some (0, S315))))) else if iand32 v10 63 = 42 then fcallv S x1 11 (f_X11_richest x1 S) (fun v316 S317 => fcallv S317 x2 12 (f_X12_richest x2 S317) (fun v318 S319 => if v316 = v318 then f_L_law_b1585 L xs r18 x0 x1 x2 x3 S319 else some (0, S319))) else if iand32 v10 63 = 43 then fcallv S x1 11 (f_X11_image x1 S) (fun v320 S321 => fcallv S321 x2 12 (f_X12_image x2 S321) (fun v322 S323 => if v320 = v322 then f_L_law_b1585 L xs r18 x0 x1 x2 x3 S323 else some (0, S323))) else if iand32 v10 63 = 44 then fcallv S x1 11 (f_X11_back x1 S) (fun v324 S325 => fcallv S325 x2 12 (f_X12_back x2 S325) (fun v326 S327 => if v324 = v326 then f_L_law_b1585 L xs r18 x0 x1 x2 x3 S327 else some (0, S327))) else if iand32 v10 63 = 45 then fsld L xs (w32 (x3 + 1)) (fun v328 => fcallv S x1 11 (f_X11_about x1 v328 S) (fun v329 S330 => fsld L xs (w32 (x3 + 1)) (fun v331 => fcallv S330 x2 12 (f_X12_about x2 v331 S330) (fun v332 S333 => if v329 = v332 then f_L_law_b1585 L xs r18 x0 x1 x2 x3 S333 else some (0, S333))))) else f_L_law_b1585 L xs r18 x0 x1 x2 x3 S))
theorem p_f_L_law_b18B {G : jG} {d : Nat} {S0 : jSt} (hd0 : 109 ≤ d) {r18 : Int → Int → Int → Int → jSt → Option (Int × jSt)} (k18 : ∀ (x0 : Int) (x1 : Int) (x2 : Int) (x3 : Int) (S : jSt), ((x0) = ((G.2.2.2.2.2.2.2.1 : Nat) : Int)) → (0 ≤ (x1)) → (0 ≤ (x2)) → (R32 (x3)) → J G yL_law cL_law 4 (some .boolean) d S0 18 [(0, 2, x0), (1, 2, x1), (2, 2, x2), (3, 0, x3)] [] S (r18 x0 x1 x2 x3 S)) : ∀ (x0 : Int) (x1 : Int) (x2 : Int) (x3 : Int) (S : jSt), ((x0) = ((G.2.2.2.2.2.2.2.1 : Nat) : Int)) → (0 ≤ (x1)) → (0 ≤ (x2)) → (R32 (x3)) → J G yL_law cL_law 4 (some .boolean) d S0 18 [(0, 2, x0), (1, 2, x1), (2, 2, x2), (3, 0, x3)] [] S (f_L_law_b18B G.2.2.2.2.2.2.2.2.1 G.2.2.2.2.2.2.2.2.2 r18 x0 x1 x2 x3 S) := by
  intro x0 x1 x2 x3 S h0 h1 h2 h3
  unfold f_L_law_b18B
  refine j_iload_n 3 dL_law_18 rfl rfl ?_
  refine j_aload_n 0 dL_law_19 rfl rfl ?_
  refine j_slen h0 dL_law_20 (fun (v9 : Int) (hv9 : R32 v9) => ?_)
  refine j_bipush dL_law_21 (by decide) ?_
  refine j_isub dL_law_23 ?_
  refine j_icmp_gt (tgt := 1591) h3 (w32_R _) dL_law_24 rfl (fun _ => ?_) (fun _ => ?_)
  · refine j_iconst dL_law_1591 ?_
    exact j_zreturn jz1 dL_law_1592
  · refine j_aload_n 0 dL_law_27 rfl rfl ?_
    refine j_iload_n 3 dL_law_28 rfl rfl ?_
    refine j_sld h0 h3 dL_law_29 (fun (v10 : Int) (hv10 : R32 v10) => ?_)
    refine j_bipush dL_law_30 (by decide) ?_
    refine j_iand dL_law_32 ?_
    refine j_ite (fun hc0 => ?_) (fun hc0 => ?_)
    · refine j_tableIn (tgt := 232) (off := 199) (iand32_R _ _) dL_law_33 (by omega) (by omega) (by rw [hc0]; rfl) rfl ?_
      refine j_aload_n 1 dL_law_232 rfl rfl ?_
      refine j_aload_n 0 dL_law_233 rfl rfl ?_
      refine j_iload_n 3 dL_law_234 rfl rfl ?_
      refine j_iconst dL_law_235 ?_
      refine j_iadd dL_law_236 ?_
      refine j_sld h0 (w32_R _) dL_law_237 (fun (v11 : Int) (hv11 : R32 v11) => ?_)
      refine j_aload_n 0 dL_law_238 rfl rfl ?_
      refine j_iload_n 3 dL_law_239 rfl rfl ?_
      refine j_iconst dL_law_240 ?_
      refine j_iadd dL_law_241 ?_
      refine j_sld h0 (w32_R _) dL_law_242 (fun (v12 : Int) (hv12 : R32 v12) => ?_)
      refine j_aload_n 0 dL_law_243 rfl rfl ?_
      refine j_iload_n 3 dL_law_244 rfl rfl ?_
      refine j_iconst dL_law_245 ?_
      refine j_iadd dL_law_246 ?_
      refine j_sld h0 (w32_R _) dL_law_247 (fun (v13 : Int) (hv13 : R32 v13) => ?_)
      refine j_callV (ci := 11) (As := [(0, v11), (0, v12), (0, v13)]) (st := []) kc_X11_lot (c_X11_lot x1 v11 v12 v13 S h1 hv11 hv12 hv13) rfl lm_L_13 ki_X11_lot ke_X11_lot rfl (Nat.le_of_ble_eq_true rfl) (Nat.le_trans (m := 109) (Nat.le_of_ble_eq_true rfl) hd0) dL_law_248 (fun (v14 : Int) (S15 : jSt) (hv14 : R32 (v14)) => ?_)
      refine j_aload_n 2 dL_law_251 rfl rfl ?_
      refine j_aload_n 0 dL_law_252 rfl rfl ?_
      refine j_iload_n 3 dL_law_253 rfl rfl ?_
      refine j_iconst dL_law_254 ?_
      refine j_iadd dL_law_255 ?_
      refine j_sld h0 (w32_R _) dL_law_256 (fun (v16 : Int) (hv16 : R32 v16) => ?_)
      refine j_aload_n 0 dL_law_257 rfl rfl ?_
      refine j_iload_n 3 dL_law_258 rfl rfl ?_
      refine j_iconst dL_law_259 ?_
      refine j_iadd dL_law_260 ?_
      refine j_sld h0 (w32_R _) dL_law_261 (fun (v17 : Int) (hv17 : R32 v17) => ?_)
      refine j_aload_n 0 dL_law_262 rfl rfl ?_
      refine j_iload_n 3 dL_law_263 rfl rfl ?_
      refine j_iconst dL_law_264 ?_
      refine j_iadd dL_law_265 ?_
      refine j_sld h0 (w32_R _) dL_law_266 (fun (v18 : Int) (hv18 : R32 v18) => ?_)
      refine j_callV (ci := 12) (As := [(0, v16), (0, v17), (0, v18)]) (st := [(0, v14)]) kc_X12_lot (c_X12_lot x2 v16 v17 v18 S15 h2 hv16 hv17 hv18) rfl lm_L_17 ki_X12_lot ke_X12_lot rfl (Nat.le_of_ble_eq_true rfl) (Nat.le_trans (m := 109) (Nat.le_of_ble_eq_true rfl) hd0) dL_law_267 (fun (v19 : Int) (S20 : jSt) (hv19 : R32 (v19)) => ?_)
      refine j_icmp_eq (tgt := 1585) hv14 hv19 dL_law_270 rfl (fun _ => ?_) (fun _ => ?_)
      · exact p_f_L_law_b1585 hd0 k18 x0 x1 x2 x3 S20 h0 h1 h2 h3
      · refine j_iconst dL_law_273 ?_
        exact j_zreturn jz0 dL_law_274
    refine j_ite (fun hc1 => ?_) (fun hc1 => ?_)
    · refine j_tableIn (tgt := 275) (off := 242) (iand32_R _ _) dL_law_33 (by omega) (by omega) (by rw [hc1]; rfl) rfl ?_
      refine j_aload_n 1 dL_law_275 rfl rfl ?_
      refine j_aload_n 0 dL_law_276 rfl rfl ?_
      refine j_iload_n 3 dL_law_277 rfl rfl ?_
      refine j_iconst dL_law_278 ?_
      refine j_iadd dL_law_279 ?_
      refine j_sld h0 (w32_R _) dL_law_280 (fun (v22 : Int) (hv22 : R32 v22) => ?_)
      refine j_callV (ci := 11) (As := [(0, v22)]) (st := []) kc_X11_bidder (c_X11_bidder x1 v22 S h1 hv22) rfl lm_L_18 ki_X11_bidder ke_X11_bidder rfl (Nat.le_of_ble_eq_true rfl) (Nat.le_trans (m := 109) (Nat.le_of_ble_eq_true rfl) hd0) dL_law_281 (fun (v23 : Int) (S24 : jSt) (hv23 : R32 (v23)) => ?_)
      refine j_aload_n 2 dL_law_284 rfl rfl ?_
      refine j_aload_n 0 dL_law_285 rfl rfl ?_
      refine j_iload_n 3 dL_law_286 rfl rfl ?_
      refine j_iconst dL_law_287 ?_
      refine j_iadd dL_law_288 ?_
      refine j_sld h0 (w32_R _) dL_law_289 (fun (v25 : Int) (hv25 : R32 v25) => ?_)
      refine j_callV (ci := 12) (As := [(0, v25)]) (st := [(0, v23)]) kc_X12_bidder (c_X12_bidder x2 v25 S24 h2 hv25) rfl lm_L_22 ki_X12_bidder ke_X12_bidder rfl (Nat.le_of_ble_eq_true rfl) (Nat.le_trans (m := 109) (Nat.le_of_ble_eq_true rfl) hd0) dL_law_290 (fun (v26 : Int) (S27 : jSt) (hv26 : R32 (v26)) => ?_)
      refine j_icmp_eq (tgt := 1585) hv23 hv26 dL_law_293 rfl (fun _ => ?_) (fun _ => ?_)
      · exact p_f_L_law_b1585 hd0 k18 x0 x1 x2 x3 S27 h0 h1 h2 h3
      · refine j_iconst dL_law_296 ?_
        exact j_zreturn jz0 dL_law_297
    refine j_ite (fun hc2 => ?_) (fun hc2 => ?_)
    · refine j_tableIn (tgt := 298) (off := 265) (iand32_R _ _) dL_law_33 (by omega) (by omega) (by rw [hc2]; rfl) rfl ?_
      refine j_aload_n 1 dL_law_298 rfl rfl ?_
      refine j_aload_n 0 dL_law_299 rfl rfl ?_
      refine j_iload_n 3 dL_law_300 rfl rfl ?_
      refine j_iconst dL_law_301 ?_
      refine j_iadd dL_law_302 ?_
      refine j_sld h0 (w32_R _) dL_law_303 (fun (v28 : Int) (hv28 : R32 v28) => ?_)
      refine j_aload_n 0 dL_law_304 rfl rfl ?_
      refine j_iload_n 3 dL_law_305 rfl rfl ?_
      refine j_iconst dL_law_306 ?_
      refine j_iadd dL_law_307 ?_
      refine j_sld h0 (w32_R _) dL_law_308 (fun (v29 : Int) (hv29 : R32 v29) => ?_)
      refine j_aload_n 0 dL_law_309 rfl rfl ?_
      refine j_iload_n 3 dL_law_310 rfl rfl ?_
      refine j_iconst dL_law_311 ?_
      refine j_iadd dL_law_312 ?_
      refine j_sld h0 (w32_R _) dL_law_313 (fun (v30 : Int) (hv30 : R32 v30) => ?_)
      refine j_callV (ci := 11) (As := [(0, v28), (0, v29), (0, v30)]) (st := []) kc_X11_want (c_X11_want x1 v28 v29 v30 S h1 hv28 hv29 hv30) rfl lm_L_23 ki_X11_want ke_X11_want rfl (Nat.le_of_ble_eq_true rfl) (Nat.le_trans (m := 109) (Nat.le_of_ble_eq_true rfl) hd0) dL_law_314 (fun (v31 : Int) (S32 : jSt) (hv31 : (v31) = 0 ∨ (v31) = 1) => ?_)
      refine j_aload_n 2 dL_law_317 rfl rfl ?_
      refine j_aload_n 0 dL_law_318 rfl rfl ?_
      refine j_iload_n 3 dL_law_319 rfl rfl ?_
      refine j_iconst dL_law_320 ?_
      refine j_iadd dL_law_321 ?_
      refine j_sld h0 (w32_R _) dL_law_322 (fun (v33 : Int) (hv33 : R32 v33) => ?_)
      refine j_aload_n 0 dL_law_323 rfl rfl ?_
      refine j_iload_n 3 dL_law_324 rfl rfl ?_
      refine j_iconst dL_law_325 ?_
      refine j_iadd dL_law_326 ?_
      refine j_sld h0 (w32_R _) dL_law_327 (fun (v34 : Int) (hv34 : R32 v34) => ?_)
      refine j_aload_n 0 dL_law_328 rfl rfl ?_
      refine j_iload_n 3 dL_law_329 rfl rfl ?_
      refine j_iconst dL_law_330 ?_
      refine j_iadd dL_law_331 ?_
      refine j_sld h0 (w32_R _) dL_law_332 (fun (v35 : Int) (hv35 : R32 v35) => ?_)
      refine j_callV (ci := 12) (As := [(0, v33), (0, v34), (0, v35)]) (st := [(0, v31)]) kc_X12_want (c_X12_want x2 v33 v34 v35 S32 h2 hv33 hv34 hv35) rfl lm_L_27 ki_X12_want ke_X12_want rfl (Nat.le_of_ble_eq_true rfl) (Nat.le_trans (m := 109) (Nat.le_of_ble_eq_true rfl) hd0) dL_law_333 (fun (v36 : Int) (S37 : jSt) (hv36 : (v36) = 0 ∨ (v36) = 1) => ?_)
      refine j_icmp_eq (tgt := 1585) (jZ_R hv31) (jZ_R hv36) dL_law_336 rfl (fun _ => ?_) (fun _ => ?_)
      · exact p_f_L_law_b1585 hd0 k18 x0 x1 x2 x3 S37 h0 h1 h2 h3
      · refine j_iconst dL_law_339 ?_
        exact j_zreturn jz0 dL_law_340
    refine j_ite (fun hc3 => ?_) (fun hc3 => ?_)
    · refine j_tableIn (tgt := 341) (off := 308) (iand32_R _ _) dL_law_33 (by omega) (by omega) (by rw [hc3]; rfl) rfl ?_
      refine j_aload_n 1 dL_law_341 rfl rfl ?_
      refine j_aload_n 0 dL_law_342 rfl rfl ?_
      refine j_iload_n 3 dL_law_343 rfl rfl ?_
      refine j_iconst dL_law_344 ?_
      refine j_iadd dL_law_345 ?_
      refine j_sld h0 (w32_R _) dL_law_346 (fun (v38 : Int) (hv38 : R32 v38) => ?_)
      refine j_aload_n 0 dL_law_347 rfl rfl ?_
      refine j_iload_n 3 dL_law_348 rfl rfl ?_
      refine j_iconst dL_law_349 ?_
      refine j_iadd dL_law_350 ?_
      refine j_sld h0 (w32_R _) dL_law_351 (fun (v39 : Int) (hv39 : R32 v39) => ?_)
      refine j_aload_n 0 dL_law_352 rfl rfl ?_
      refine j_iload_n 3 dL_law_353 rfl rfl ?_
      refine j_iconst dL_law_354 ?_
      refine j_iadd dL_law_355 ?_
      refine j_sld h0 (w32_R _) dL_law_356 (fun (v40 : Int) (hv40 : R32 v40) => ?_)
      refine j_aload_n 0 dL_law_357 rfl rfl ?_
      refine j_iload_n 3 dL_law_358 rfl rfl ?_
      refine j_iconst dL_law_359 ?_
      refine j_iadd dL_law_360 ?_
      refine j_sld h0 (w32_R _) dL_law_361 (fun (v41 : Int) (hv41 : R32 v41) => ?_)
      refine j_aload_n 0 dL_law_362 rfl rfl ?_
      refine j_iload_n 3 dL_law_363 rfl rfl ?_
      refine j_iconst dL_law_364 ?_
      refine j_iadd dL_law_365 ?_
      refine j_sld h0 (w32_R _) dL_law_366 (fun (v42 : Int) (hv42 : R32 v42) => ?_)
      refine j_callV (ci := 11) (As := [(0, v38), (0, v39), (0, v40), (0, v41), (0, v42)]) (st := []) kc_X11_feed (c_X11_feed x1 v38 v39 v40 v41 v42 S h1 hv38 hv39 hv40 hv41 hv42) rfl lm_L_28 ki_X11_feed ke_X11_feed rfl (Nat.le_of_ble_eq_true rfl) (Nat.le_trans (m := 109) (Nat.le_of_ble_eq_true rfl) hd0) dL_law_367 (fun (v43 : Int) (S44 : jSt) (hv43 : R32 (v43)) => ?_)
      refine j_aload_n 2 dL_law_370 rfl rfl ?_
      refine j_aload_n 0 dL_law_371 rfl rfl ?_
      refine j_iload_n 3 dL_law_372 rfl rfl ?_
      refine j_iconst dL_law_373 ?_
      refine j_iadd dL_law_374 ?_
      refine j_sld h0 (w32_R _) dL_law_375 (fun (v45 : Int) (hv45 : R32 v45) => ?_)
      refine j_aload_n 0 dL_law_376 rfl rfl ?_
      refine j_iload_n 3 dL_law_377 rfl rfl ?_
      refine j_iconst dL_law_378 ?_
      refine j_iadd dL_law_379 ?_
      refine j_sld h0 (w32_R _) dL_law_380 (fun (v46 : Int) (hv46 : R32 v46) => ?_)
      refine j_aload_n 0 dL_law_381 rfl rfl ?_
      refine j_iload_n 3 dL_law_382 rfl rfl ?_
      refine j_iconst dL_law_383 ?_
      refine j_iadd dL_law_384 ?_
      refine j_sld h0 (w32_R _) dL_law_385 (fun (v47 : Int) (hv47 : R32 v47) => ?_)
      refine j_aload_n 0 dL_law_386 rfl rfl ?_
      refine j_iload_n 3 dL_law_387 rfl rfl ?_
      refine j_iconst dL_law_388 ?_
      refine j_iadd dL_law_389 ?_
      refine j_sld h0 (w32_R _) dL_law_390 (fun (v48 : Int) (hv48 : R32 v48) => ?_)
      refine j_aload_n 0 dL_law_391 rfl rfl ?_
      refine j_iload_n 3 dL_law_392 rfl rfl ?_
      refine j_iconst dL_law_393 ?_
      refine j_iadd dL_law_394 ?_
      refine j_sld h0 (w32_R _) dL_law_395 (fun (v49 : Int) (hv49 : R32 v49) => ?_)
      refine j_callV (ci := 12) (As := [(0, v45), (0, v46), (0, v47), (0, v48), (0, v49)]) (st := [(0, v43)]) kc_X12_feed (c_X12_feed x2 v45 v46 v47 v48 v49 S44 h2 hv45 hv46 hv47 hv48 hv49) rfl lm_L_32 ki_X12_feed ke_X12_feed rfl (Nat.le_of_ble_eq_true rfl) (Nat.le_trans (m := 109) (Nat.le_of_ble_eq_true rfl) hd0) dL_law_396 (fun (v50 : Int) (S51 : jSt) (hv50 : R32 (v50)) => ?_)
      refine j_icmp_eq (tgt := 1585) hv43 hv50 dL_law_399 rfl (fun _ => ?_) (fun _ => ?_)
      · exact p_f_L_law_b1585 hd0 k18 x0 x1 x2 x3 S51 h0 h1 h2 h3
      · refine j_iconst dL_law_402 ?_
        exact j_zreturn jz0 dL_law_403
    refine j_ite (fun hc4 => ?_) (fun hc4 => ?_)
    · refine j_tableIn (tgt := 404) (off := 371) (iand32_R _ _) dL_law_33 (by omega) (by omega) (by rw [hc4]; rfl) rfl ?_
      refine j_aload_n 1 dL_law_404 rfl rfl ?_
      refine j_aload_n 0 dL_law_405 rfl rfl ?_
      refine j_iload_n 3 dL_law_406 rfl rfl ?_
      refine j_iconst dL_law_407 ?_
      refine j_iadd dL_law_408 ?_
      refine j_sld h0 (w32_R _) dL_law_409 (fun (v52 : Int) (hv52 : R32 v52) => ?_)
      refine j_callV (ci := 11) (As := [(0, v52)]) (st := []) kc_X11_end (c_X11_end x1 v52 S h1 hv52) rfl lm_L_33 ki_X11_end ke_X11_end rfl (Nat.le_of_ble_eq_true rfl) (Nat.le_trans (m := 109) (Nat.le_of_ble_eq_true rfl) hd0) dL_law_410 (fun (v53 : Int) (S54 : jSt) (hv53 : R32 (v53)) => ?_)
      refine j_aload_n 2 dL_law_413 rfl rfl ?_
      refine j_aload_n 0 dL_law_414 rfl rfl ?_
      refine j_iload_n 3 dL_law_415 rfl rfl ?_
      refine j_iconst dL_law_416 ?_
      refine j_iadd dL_law_417 ?_
      refine j_sld h0 (w32_R _) dL_law_418 (fun (v55 : Int) (hv55 : R32 v55) => ?_)
      refine j_callV (ci := 12) (As := [(0, v55)]) (st := [(0, v53)]) kc_X12_end (c_X12_end x2 v55 S54 h2 hv55) rfl lm_L_36 ki_X12_end ke_X12_end rfl (Nat.le_of_ble_eq_true rfl) (Nat.le_trans (m := 109) (Nat.le_of_ble_eq_true rfl) hd0) dL_law_419 (fun (v56 : Int) (S57 : jSt) (hv56 : R32 (v56)) => ?_)
      refine j_icmp_eq (tgt := 1585) hv53 hv56 dL_law_422 rfl (fun _ => ?_) (fun _ => ?_)
      · exact p_f_L_law_b1585 hd0 k18 x0 x1 x2 x3 S57 h0 h1 h2 h3
      · refine j_iconst dL_law_425 ?_
        exact j_zreturn jz0 dL_law_426
    refine j_ite (fun hc5 => ?_) (fun hc5 => ?_)
    · refine j_tableIn (tgt := 427) (off := 394) (iand32_R _ _) dL_law_33 (by omega) (by omega) (by rw [hc5]; rfl) rfl ?_
      refine j_aload_n 1 dL_law_427 rfl rfl ?_
      refine j_callV (ci := 11) (As := []) (st := []) kc_X11_text (c_X11_text x1 S h1) rfl lm_L_37 ki_X11_text ke_X11_text rfl (Nat.le_of_ble_eq_true rfl) (Nat.le_trans (m := 109) (Nat.le_of_ble_eq_true rfl) hd0) dL_law_428 (fun (v58 : Int) (S59 : jSt) (hv58 : R32 (v58)) => ?_)
      refine j_aload_n 2 dL_law_431 rfl rfl ?_
      refine j_callV (ci := 12) (As := []) (st := [(0, v58)]) kc_X12_text (c_X12_text x2 S59 h2) rfl lm_L_41 ki_X12_text ke_X12_text rfl (Nat.le_of_ble_eq_true rfl) (Nat.le_trans (m := 109) (Nat.le_of_ble_eq_true rfl) hd0) dL_law_432 (fun (v60 : Int) (S61 : jSt) (hv60 : R32 (v60)) => ?_)
      refine j_icmp_eq (tgt := 1585) hv58 hv60 dL_law_435 rfl (fun _ => ?_) (fun _ => ?_)
      · exact p_f_L_law_b1585 hd0 k18 x0 x1 x2 x3 S61 h0 h1 h2 h3
      · refine j_iconst dL_law_438 ?_
        exact j_zreturn jz0 dL_law_439
    refine j_ite (fun hc6 => ?_) (fun hc6 => ?_)
    · refine j_tableIn (tgt := 440) (off := 407) (iand32_R _ _) dL_law_33 (by omega) (by omega) (by rw [hc6]; rfl) rfl ?_
      refine j_aload_n 1 dL_law_440 rfl rfl ?_
      refine j_aload_n 0 dL_law_441 rfl rfl ?_
      refine j_iload_n 3 dL_law_442 rfl rfl ?_
      refine j_iconst dL_law_443 ?_
      refine j_iadd dL_law_444 ?_
      refine j_sld h0 (w32_R _) dL_law_445 (fun (v62 : Int) (hv62 : R32 v62) => ?_)
      refine j_callV (ci := 11) (As := [(0, v62)]) (st := []) kc_X11_fault (c_X11_fault x1 v62 S h1 hv62) rfl lm_L_42 ki_X11_fault ke_X11_fault rfl (Nat.le_of_ble_eq_true rfl) (Nat.le_trans (m := 109) (Nat.le_of_ble_eq_true rfl) hd0) dL_law_446 (fun (v63 : Int) (S64 : jSt) (hv63 : R32 (v63)) => ?_)
      refine j_aload_n 2 dL_law_449 rfl rfl ?_
      refine j_aload_n 0 dL_law_450 rfl rfl ?_
      refine j_iload_n 3 dL_law_451 rfl rfl ?_
      refine j_iconst dL_law_452 ?_
      refine j_iadd dL_law_453 ?_
      refine j_sld h0 (w32_R _) dL_law_454 (fun (v65 : Int) (hv65 : R32 v65) => ?_)
      refine j_callV (ci := 12) (As := [(0, v65)]) (st := [(0, v63)]) kc_X12_fault (c_X12_fault x2 v65 S64 h2 hv65) rfl lm_L_45 ki_X12_fault ke_X12_fault rfl (Nat.le_of_ble_eq_true rfl) (Nat.le_trans (m := 109) (Nat.le_of_ble_eq_true rfl) hd0) dL_law_455 (fun (v66 : Int) (S67 : jSt) (hv66 : R32 (v66)) => ?_)
      refine j_icmp_eq (tgt := 1585) hv63 hv66 dL_law_458 rfl (fun _ => ?_) (fun _ => ?_)
      · exact p_f_L_law_b1585 hd0 k18 x0 x1 x2 x3 S67 h0 h1 h2 h3
      · refine j_iconst dL_law_461 ?_
        exact j_zreturn jz0 dL_law_462
    refine j_ite (fun hc7 => ?_) (fun hc7 => ?_)
    · refine j_tableIn (tgt := 463) (off := 430) (iand32_R _ _) dL_law_33 (by omega) (by omega) (by rw [hc7]; rfl) rfl ?_
      refine j_aload_n 1 dL_law_463 rfl rfl ?_
      refine j_aload_n 0 dL_law_464 rfl rfl ?_
      refine j_iload_n 3 dL_law_465 rfl rfl ?_
      refine j_iconst dL_law_466 ?_
      refine j_iadd dL_law_467 ?_
      refine j_sld h0 (w32_R _) dL_law_468 (fun (v68 : Int) (hv68 : R32 v68) => ?_)
      refine j_callV (ci := 11) (As := [(0, v68)]) (st := []) kc_X11_by (c_X11_by x1 v68 S h1 hv68) rfl lm_L_46 ki_X11_by ke_X11_by rfl (Nat.le_of_ble_eq_true rfl) (Nat.le_trans (m := 109) (Nat.le_of_ble_eq_true rfl) hd0) dL_law_469 (fun (v69 : Int) (S70 : jSt) (hv69 : (v69) = 0 ∨ (v69) = 1) => ?_)
      refine j_aload_n 2 dL_law_472 rfl rfl ?_
      refine j_aload_n 0 dL_law_473 rfl rfl ?_
      refine j_iload_n 3 dL_law_474 rfl rfl ?_
      refine j_iconst dL_law_475 ?_
      refine j_iadd dL_law_476 ?_
      refine j_sld h0 (w32_R _) dL_law_477 (fun (v71 : Int) (hv71 : R32 v71) => ?_)
      refine j_callV (ci := 12) (As := [(0, v71)]) (st := [(0, v69)]) kc_X12_by (c_X12_by x2 v71 S70 h2 hv71) rfl lm_L_50 ki_X12_by ke_X12_by rfl (Nat.le_of_ble_eq_true rfl) (Nat.le_trans (m := 109) (Nat.le_of_ble_eq_true rfl) hd0) dL_law_478 (fun (v72 : Int) (S73 : jSt) (hv72 : (v72) = 0 ∨ (v72) = 1) => ?_)
      refine j_icmp_eq (tgt := 1585) (jZ_R hv69) (jZ_R hv72) dL_law_481 rfl (fun _ => ?_) (fun _ => ?_)
      · exact p_f_L_law_b1585 hd0 k18 x0 x1 x2 x3 S73 h0 h1 h2 h3
      · refine j_iconst dL_law_484 ?_
        exact j_zreturn jz0 dL_law_485
    refine j_ite (fun hc8 => ?_) (fun hc8 => ?_)
    · refine j_tableIn (tgt := 486) (off := 453) (iand32_R _ _) dL_law_33 (by omega) (by omega) (by rw [hc8]; rfl) rfl ?_
      refine j_aload_n 1 dL_law_486 rfl rfl ?_
      refine j_aload_n 0 dL_law_487 rfl rfl ?_
      refine j_iload_n 3 dL_law_488 rfl rfl ?_
      refine j_iconst dL_law_489 ?_
      refine j_iadd dL_law_490 ?_
      refine j_sld h0 (w32_R _) dL_law_491 (fun (v74 : Int) (hv74 : R32 v74) => ?_)
      refine j_callV (ci := 11) (As := [(0, v74)]) (st := []) kc_X11_sell (c_X11_sell x1 v74 S h1 hv74) rfl lm_L_51 ki_X11_sell ke_X11_sell rfl (Nat.le_of_ble_eq_true rfl) (Nat.le_trans (m := 109) (Nat.le_of_ble_eq_true rfl) hd0) dL_law_492 (fun (v75 : Int) (S76 : jSt) (hv75 : R32 (v75)) => ?_)
      refine j_aload_n 2 dL_law_495 rfl rfl ?_
      refine j_aload_n 0 dL_law_496 rfl rfl ?_
      refine j_iload_n 3 dL_law_497 rfl rfl ?_
      refine j_iconst dL_law_498 ?_
      refine j_iadd dL_law_499 ?_
      refine j_sld h0 (w32_R _) dL_law_500 (fun (v77 : Int) (hv77 : R32 v77) => ?_)
      refine j_callV (ci := 12) (As := [(0, v77)]) (st := [(0, v75)]) kc_X12_sell (c_X12_sell x2 v77 S76 h2 hv77) rfl lm_L_54 ki_X12_sell ke_X12_sell rfl (Nat.le_of_ble_eq_true rfl) (Nat.le_trans (m := 109) (Nat.le_of_ble_eq_true rfl) hd0) dL_law_501 (fun (v78 : Int) (S79 : jSt) (hv78 : R32 (v78)) => ?_)
      refine j_icmp_eq (tgt := 1585) hv75 hv78 dL_law_504 rfl (fun _ => ?_) (fun _ => ?_)
      · exact p_f_L_law_b1585 hd0 k18 x0 x1 x2 x3 S79 h0 h1 h2 h3
      · refine j_iconst dL_law_507 ?_
        exact j_zreturn jz0 dL_law_508
    refine j_ite (fun hc9 => ?_) (fun hc9 => ?_)
    · refine j_tableIn (tgt := 509) (off := 476) (iand32_R _ _) dL_law_33 (by omega) (by omega) (by rw [hc9]; rfl) rfl ?_
      refine j_aload_n 1 dL_law_509 rfl rfl ?_
      refine j_aload_n 0 dL_law_510 rfl rfl ?_
      refine j_iload_n 3 dL_law_511 rfl rfl ?_
      refine j_iconst dL_law_512 ?_
      refine j_iadd dL_law_513 ?_
      refine j_sld h0 (w32_R _) dL_law_514 (fun (v80 : Int) (hv80 : R32 v80) => ?_)
      refine j_callV (ci := 11) (As := [(0, v80)]) (st := []) kc_X11_carry (c_X11_carry x1 v80 S h1 hv80) rfl lm_L_55 ki_X11_carry ke_X11_carry rfl (Nat.le_of_ble_eq_true rfl) (Nat.le_trans (m := 109) (Nat.le_of_ble_eq_true rfl) hd0) dL_law_515 (fun (v81 : Int) (S82 : jSt) (hv81 : (v81) = 0 ∨ (v81) = 1) => ?_)
      refine j_aload_n 2 dL_law_518 rfl rfl ?_
      refine j_aload_n 0 dL_law_519 rfl rfl ?_
      refine j_iload_n 3 dL_law_520 rfl rfl ?_
      refine j_iconst dL_law_521 ?_
      refine j_iadd dL_law_522 ?_
      refine j_sld h0 (w32_R _) dL_law_523 (fun (v83 : Int) (hv83 : R32 v83) => ?_)
      refine j_callV (ci := 12) (As := [(0, v83)]) (st := [(0, v81)]) kc_X12_carry (c_X12_carry x2 v83 S82 h2 hv83) rfl lm_L_58 ki_X12_carry ke_X12_carry rfl (Nat.le_of_ble_eq_true rfl) (Nat.le_trans (m := 109) (Nat.le_of_ble_eq_true rfl) hd0) dL_law_524 (fun (v84 : Int) (S85 : jSt) (hv84 : (v84) = 0 ∨ (v84) = 1) => ?_)
      refine j_icmp_eq (tgt := 1585) (jZ_R hv81) (jZ_R hv84) dL_law_527 rfl (fun _ => ?_) (fun _ => ?_)
      · exact p_f_L_law_b1585 hd0 k18 x0 x1 x2 x3 S85 h0 h1 h2 h3
      · refine j_iconst dL_law_530 ?_
        exact j_zreturn jz0 dL_law_531
    refine j_ite (fun hc10 => ?_) (fun hc10 => ?_)
    · refine j_tableIn (tgt := 532) (off := 499) (iand32_R _ _) dL_law_33 (by omega) (by omega) (by rw [hc10]; rfl) rfl ?_
      refine j_aload_n 1 dL_law_532 rfl rfl ?_
      refine j_aload_n 0 dL_law_533 rfl rfl ?_
      refine j_iload_n 3 dL_law_534 rfl rfl ?_
      refine j_iconst dL_law_535 ?_
      refine j_iadd dL_law_536 ?_
      refine j_sld h0 (w32_R _) dL_law_537 (fun (v86 : Int) (hv86 : R32 v86) => ?_)
      refine j_callV (ci := 11) (As := [(0, v86)]) (st := []) kc_X11_burn (c_X11_burn x1 v86 S h1 hv86) rfl lm_L_59 ki_X11_burn ke_X11_burn rfl (Nat.le_of_ble_eq_true rfl) (Nat.le_trans (m := 109) (Nat.le_of_ble_eq_true rfl) hd0) dL_law_538 (fun (v87 : Int) (S88 : jSt) (hv87 : (v87) = 0 ∨ (v87) = 1) => ?_)
      refine j_aload_n 2 dL_law_541 rfl rfl ?_
      refine j_aload_n 0 dL_law_542 rfl rfl ?_
      refine j_iload_n 3 dL_law_543 rfl rfl ?_
      refine j_iconst dL_law_544 ?_
      refine j_iadd dL_law_545 ?_
      refine j_sld h0 (w32_R _) dL_law_546 (fun (v89 : Int) (hv89 : R32 v89) => ?_)
      refine j_callV (ci := 12) (As := [(0, v89)]) (st := [(0, v87)]) kc_X12_burn (c_X12_burn x2 v89 S88 h2 hv89) rfl lm_L_62 ki_X12_burn ke_X12_burn rfl (Nat.le_of_ble_eq_true rfl) (Nat.le_trans (m := 109) (Nat.le_of_ble_eq_true rfl) hd0) dL_law_547 (fun (v90 : Int) (S91 : jSt) (hv90 : (v90) = 0 ∨ (v90) = 1) => ?_)
      refine j_icmp_eq (tgt := 1585) (jZ_R hv87) (jZ_R hv90) dL_law_550 rfl (fun _ => ?_) (fun _ => ?_)
      · exact p_f_L_law_b1585 hd0 k18 x0 x1 x2 x3 S91 h0 h1 h2 h3
      · refine j_iconst dL_law_553 ?_
        exact j_zreturn jz0 dL_law_554
    refine j_ite (fun hc11 => ?_) (fun hc11 => ?_)
    · refine j_tableIn (tgt := 555) (off := 522) (iand32_R _ _) dL_law_33 (by omega) (by omega) (by rw [hc11]; rfl) rfl ?_
      refine j_aload_n 1 dL_law_555 rfl rfl ?_
      refine j_aload_n 0 dL_law_556 rfl rfl ?_
      refine j_iload_n 3 dL_law_557 rfl rfl ?_
      refine j_iconst dL_law_558 ?_
      refine j_iadd dL_law_559 ?_
      refine j_sld h0 (w32_R _) dL_law_560 (fun (v92 : Int) (hv92 : R32 v92) => ?_)
      refine j_aload_n 0 dL_law_561 rfl rfl ?_
      refine j_iload_n 3 dL_law_562 rfl rfl ?_
      refine j_iconst dL_law_563 ?_
      refine j_iadd dL_law_564 ?_
      refine j_sld h0 (w32_R _) dL_law_565 (fun (v93 : Int) (hv93 : R32 v93) => ?_)
      refine j_callV (ci := 11) (As := [(0, v92), (0, v93)]) (st := []) kc_X11_buy (c_X11_buy x1 v92 v93 S h1 hv92 hv93) rfl lm_L_63 ki_X11_buy ke_X11_buy rfl (Nat.le_of_ble_eq_true rfl) (Nat.le_trans (m := 109) (Nat.le_of_ble_eq_true rfl) hd0) dL_law_566 (fun (v94 : Int) (S95 : jSt) (hv94 : (v94) = 0 ∨ (v94) = 1) => ?_)
      refine j_aload_n 2 dL_law_569 rfl rfl ?_
      refine j_aload_n 0 dL_law_570 rfl rfl ?_
      refine j_iload_n 3 dL_law_571 rfl rfl ?_
      refine j_iconst dL_law_572 ?_
      refine j_iadd dL_law_573 ?_
      refine j_sld h0 (w32_R _) dL_law_574 (fun (v96 : Int) (hv96 : R32 v96) => ?_)
      refine j_aload_n 0 dL_law_575 rfl rfl ?_
      refine j_iload_n 3 dL_law_576 rfl rfl ?_
      refine j_iconst dL_law_577 ?_
      refine j_iadd dL_law_578 ?_
      refine j_sld h0 (w32_R _) dL_law_579 (fun (v97 : Int) (hv97 : R32 v97) => ?_)
      refine j_callV (ci := 12) (As := [(0, v96), (0, v97)]) (st := [(0, v94)]) kc_X12_buy (c_X12_buy x2 v96 v97 S95 h2 hv96 hv97) rfl lm_L_67 ki_X12_buy ke_X12_buy rfl (Nat.le_of_ble_eq_true rfl) (Nat.le_trans (m := 109) (Nat.le_of_ble_eq_true rfl) hd0) dL_law_580 (fun (v98 : Int) (S99 : jSt) (hv98 : (v98) = 0 ∨ (v98) = 1) => ?_)
      refine j_icmp_eq (tgt := 1585) (jZ_R hv94) (jZ_R hv98) dL_law_583 rfl (fun _ => ?_) (fun _ => ?_)
      · exact p_f_L_law_b1585 hd0 k18 x0 x1 x2 x3 S99 h0 h1 h2 h3
      · refine j_iconst dL_law_586 ?_
        exact j_zreturn jz0 dL_law_587
    refine j_ite (fun hc12 => ?_) (fun hc12 => ?_)
    · refine j_tableIn (tgt := 588) (off := 555) (iand32_R _ _) dL_law_33 (by omega) (by omega) (by rw [hc12]; rfl) rfl ?_
      refine j_aload_n 1 dL_law_588 rfl rfl ?_
      refine j_aload_n 0 dL_law_589 rfl rfl ?_
      refine j_iload_n 3 dL_law_590 rfl rfl ?_
      refine j_iconst dL_law_591 ?_
      refine j_iadd dL_law_592 ?_
      refine j_sld h0 (w32_R _) dL_law_593 (fun (v100 : Int) (hv100 : R32 v100) => ?_)
      refine j_callV (ci := 11) (As := [(0, v100)]) (st := []) kc_X11_week (c_X11_week x1 v100 S h1 hv100) rfl lm_L_68 ki_X11_week ke_X11_week rfl (Nat.le_of_ble_eq_true rfl) (Nat.le_trans (m := 109) (Nat.le_of_ble_eq_true rfl) hd0) dL_law_594 (fun (v101 : Int) (S102 : jSt) (hv101 : R32 (v101)) => ?_)
      refine j_aload_n 2 dL_law_597 rfl rfl ?_
      refine j_aload_n 0 dL_law_598 rfl rfl ?_
      refine j_iload_n 3 dL_law_599 rfl rfl ?_
      refine j_iconst dL_law_600 ?_
      refine j_iadd dL_law_601 ?_
      refine j_sld h0 (w32_R _) dL_law_602 (fun (v103 : Int) (hv103 : R32 v103) => ?_)
      refine j_callV (ci := 12) (As := [(0, v103)]) (st := [(0, v101)]) kc_X12_week (c_X12_week x2 v103 S102 h2 hv103) rfl lm_L_71 ki_X12_week ke_X12_week rfl (Nat.le_of_ble_eq_true rfl) (Nat.le_trans (m := 109) (Nat.le_of_ble_eq_true rfl) hd0) dL_law_603 (fun (v104 : Int) (S105 : jSt) (hv104 : R32 (v104)) => ?_)
      refine j_icmp_eq (tgt := 1585) hv101 hv104 dL_law_606 rfl (fun _ => ?_) (fun _ => ?_)
      · exact p_f_L_law_b1585 hd0 k18 x0 x1 x2 x3 S105 h0 h1 h2 h3
      · refine j_iconst dL_law_609 ?_
        exact j_zreturn jz0 dL_law_610
    refine j_ite (fun hc13 => ?_) (fun hc13 => ?_)
    · refine j_tableIn (tgt := 611) (off := 578) (iand32_R _ _) dL_law_33 (by omega) (by omega) (by rw [hc13]; rfl) rfl ?_
      refine j_aload_n 1 dL_law_611 rfl rfl ?_
      refine j_aload_n 0 dL_law_612 rfl rfl ?_
      refine j_iload_n 3 dL_law_613 rfl rfl ?_
      refine j_iconst dL_law_614 ?_
      refine j_iadd dL_law_615 ?_
      refine j_sld h0 (w32_R _) dL_law_616 (fun (v106 : Int) (hv106 : R32 v106) => ?_)
      refine j_callV (ci := 11) (As := [(0, v106)]) (st := []) kc_X11_played (c_X11_played x1 v106 S h1 hv106) rfl lm_L_72 ki_X11_played ke_X11_played rfl (Nat.le_of_ble_eq_true rfl) (Nat.le_trans (m := 109) (Nat.le_of_ble_eq_true rfl) hd0) dL_law_617 (fun (v107 : Int) (S108 : jSt) (hv107 : R32 (v107)) => ?_)
      refine j_aload_n 2 dL_law_620 rfl rfl ?_
      refine j_aload_n 0 dL_law_621 rfl rfl ?_
      refine j_iload_n 3 dL_law_622 rfl rfl ?_
      refine j_iconst dL_law_623 ?_
      refine j_iadd dL_law_624 ?_
      refine j_sld h0 (w32_R _) dL_law_625 (fun (v109 : Int) (hv109 : R32 v109) => ?_)
      refine j_callV (ci := 12) (As := [(0, v109)]) (st := [(0, v107)]) kc_X12_played (c_X12_played x2 v109 S108 h2 hv109) rfl lm_L_75 ki_X12_played ke_X12_played rfl (Nat.le_of_ble_eq_true rfl) (Nat.le_trans (m := 109) (Nat.le_of_ble_eq_true rfl) hd0) dL_law_626 (fun (v110 : Int) (S111 : jSt) (hv110 : R32 (v110)) => ?_)
      refine j_icmp_eq (tgt := 1585) hv107 hv110 dL_law_629 rfl (fun _ => ?_) (fun _ => ?_)
      · exact p_f_L_law_b1585 hd0 k18 x0 x1 x2 x3 S111 h0 h1 h2 h3
      · refine j_iconst dL_law_632 ?_
        exact j_zreturn jz0 dL_law_633
    refine j_ite (fun hc14 => ?_) (fun hc14 => ?_)
    · refine j_tableIn (tgt := 634) (off := 601) (iand32_R _ _) dL_law_33 (by omega) (by omega) (by rw [hc14]; rfl) rfl ?_
      refine j_aload_n 1 dL_law_634 rfl rfl ?_
      refine j_aload_n 0 dL_law_635 rfl rfl ?_
      refine j_iload_n 3 dL_law_636 rfl rfl ?_
      refine j_iconst dL_law_637 ?_
      refine j_iadd dL_law_638 ?_
      refine j_sld h0 (w32_R _) dL_law_639 (fun (v112 : Int) (hv112 : R32 v112) => ?_)
      refine j_aload_n 0 dL_law_640 rfl rfl ?_
      refine j_iload_n 3 dL_law_641 rfl rfl ?_
      refine j_iconst dL_law_642 ?_
      refine j_iadd dL_law_643 ?_
      refine j_sld h0 (w32_R _) dL_law_644 (fun (v113 : Int) (hv113 : R32 v113) => ?_)
      refine j_callV (ci := 11) (As := [(0, v112), (0, v113)]) (st := []) kc_X11_years (c_X11_years x1 v112 v113 S h1 hv112 hv113) rfl lm_L_76 ki_X11_years ke_X11_years rfl (Nat.le_of_ble_eq_true rfl) (Nat.le_trans (m := 109) (Nat.le_of_ble_eq_true rfl) hd0) dL_law_645 (fun (v114 : Int) (S115 : jSt) (hv114 : R32 (v114)) => ?_)
      refine j_aload_n 2 dL_law_648 rfl rfl ?_
      refine j_aload_n 0 dL_law_649 rfl rfl ?_
      refine j_iload_n 3 dL_law_650 rfl rfl ?_
      refine j_iconst dL_law_651 ?_
      refine j_iadd dL_law_652 ?_
      refine j_sld h0 (w32_R _) dL_law_653 (fun (v116 : Int) (hv116 : R32 v116) => ?_)
      refine j_aload_n 0 dL_law_654 rfl rfl ?_
      refine j_iload_n 3 dL_law_655 rfl rfl ?_
      refine j_iconst dL_law_656 ?_
      refine j_iadd dL_law_657 ?_
      refine j_sld h0 (w32_R _) dL_law_658 (fun (v117 : Int) (hv117 : R32 v117) => ?_)
      refine j_callV (ci := 12) (As := [(0, v116), (0, v117)]) (st := [(0, v114)]) kc_X12_years (c_X12_years x2 v116 v117 S115 h2 hv116 hv117) rfl lm_L_80 ki_X12_years ke_X12_years rfl (Nat.le_of_ble_eq_true rfl) (Nat.le_trans (m := 109) (Nat.le_of_ble_eq_true rfl) hd0) dL_law_659 (fun (v118 : Int) (S119 : jSt) (hv118 : R32 (v118)) => ?_)
      refine j_icmp_eq (tgt := 1585) hv114 hv118 dL_law_662 rfl (fun _ => ?_) (fun _ => ?_)
      · exact p_f_L_law_b1585 hd0 k18 x0 x1 x2 x3 S119 h0 h1 h2 h3
      · refine j_iconst dL_law_665 ?_
        exact j_zreturn jz0 dL_law_666
    refine j_ite (fun hc15 => ?_) (fun hc15 => ?_)
    · refine j_tableIn (tgt := 667) (off := 634) (iand32_R _ _) dL_law_33 (by omega) (by omega) (by rw [hc15]; rfl) rfl ?_
      refine j_aload_n 1 dL_law_667 rfl rfl ?_
      refine j_callV (ci := 11) (As := []) (st := []) kc_X11_undo (c_X11_undo x1 S h1) rfl lm_L_81 ki_X11_undo ke_X11_undo rfl (Nat.le_of_ble_eq_true rfl) (Nat.le_trans (m := 109) (Nat.le_of_ble_eq_true rfl) hd0) dL_law_668 (fun (v120 : Int) (S121 : jSt) (hv120 : R32 (v120)) => ?_)
      refine j_aload_n 2 dL_law_671 rfl rfl ?_
      refine j_callV (ci := 12) (As := []) (st := [(0, v120)]) kc_X12_undo (c_X12_undo x2 S121 h2) rfl lm_L_84 ki_X12_undo ke_X12_undo rfl (Nat.le_of_ble_eq_true rfl) (Nat.le_trans (m := 109) (Nat.le_of_ble_eq_true rfl) hd0) dL_law_672 (fun (v122 : Int) (S123 : jSt) (hv122 : R32 (v122)) => ?_)
      refine j_icmp_eq (tgt := 1585) hv120 hv122 dL_law_675 rfl (fun _ => ?_) (fun _ => ?_)
      · exact p_f_L_law_b1585 hd0 k18 x0 x1 x2 x3 S123 h0 h1 h2 h3
      · refine j_iconst dL_law_678 ?_
        exact j_zreturn jz0 dL_law_679
    refine j_ite (fun hc16 => ?_) (fun hc16 => ?_)
    · refine j_tableIn (tgt := 680) (off := 647) (iand32_R _ _) dL_law_33 (by omega) (by omega) (by rw [hc16]; rfl) rfl ?_
      refine j_aload_n 1 dL_law_680 rfl rfl ?_
      refine j_aload_n 0 dL_law_681 rfl rfl ?_
      refine j_iload_n 3 dL_law_682 rfl rfl ?_
      refine j_iconst dL_law_683 ?_
      refine j_iadd dL_law_684 ?_
      refine j_sld h0 (w32_R _) dL_law_685 (fun (v124 : Int) (hv124 : R32 v124) => ?_)
      refine j_aload_n 0 dL_law_686 rfl rfl ?_
      refine j_iload_n 3 dL_law_687 rfl rfl ?_
      refine j_iconst dL_law_688 ?_
      refine j_iadd dL_law_689 ?_
      refine j_sld h0 (w32_R _) dL_law_690 (fun (v125 : Int) (hv125 : R32 v125) => ?_)
      refine j_callV (ci := 11) (As := [(0, v124), (0, v125)]) (st := []) kc_X11_of (c_X11_of x1 v124 v125 S h1 hv124 hv125) rfl lm_L_85 ki_X11_of ke_X11_of rfl (Nat.le_of_ble_eq_true rfl) (Nat.le_trans (m := 109) (Nat.le_of_ble_eq_true rfl) hd0) dL_law_691 (fun (v126 : Int) (S127 : jSt) (hv126 : R32 (v126)) => ?_)
      refine j_aload_n 2 dL_law_694 rfl rfl ?_
      refine j_aload_n 0 dL_law_695 rfl rfl ?_
      refine j_iload_n 3 dL_law_696 rfl rfl ?_
      refine j_iconst dL_law_697 ?_
      refine j_iadd dL_law_698 ?_
      refine j_sld h0 (w32_R _) dL_law_699 (fun (v128 : Int) (hv128 : R32 v128) => ?_)
      refine j_aload_n 0 dL_law_700 rfl rfl ?_
      refine j_iload_n 3 dL_law_701 rfl rfl ?_
      refine j_iconst dL_law_702 ?_
      refine j_iadd dL_law_703 ?_
      refine j_sld h0 (w32_R _) dL_law_704 (fun (v129 : Int) (hv129 : R32 v129) => ?_)
      refine j_callV (ci := 12) (As := [(0, v128), (0, v129)]) (st := [(0, v126)]) kc_X12_of (c_X12_of x2 v128 v129 S127 h2 hv128 hv129) rfl lm_L_88 ki_X12_of ke_X12_of rfl (Nat.le_of_ble_eq_true rfl) (Nat.le_trans (m := 109) (Nat.le_of_ble_eq_true rfl) hd0) dL_law_705 (fun (v130 : Int) (S131 : jSt) (hv130 : R32 (v130)) => ?_)
      refine j_icmp_eq (tgt := 1585) hv126 hv130 dL_law_708 rfl (fun _ => ?_) (fun _ => ?_)
      · exact p_f_L_law_b1585 hd0 k18 x0 x1 x2 x3 S131 h0 h1 h2 h3
      · refine j_iconst dL_law_711 ?_
        exact j_zreturn jz0 dL_law_712
    refine j_ite (fun hc17 => ?_) (fun hc17 => ?_)
    · refine j_tableIn (tgt := 713) (off := 680) (iand32_R _ _) dL_law_33 (by omega) (by omega) (by rw [hc17]; rfl) rfl ?_
      refine j_aload_n 1 dL_law_713 rfl rfl ?_
      refine j_aload_n 0 dL_law_714 rfl rfl ?_
      refine j_iload_n 3 dL_law_715 rfl rfl ?_
      refine j_iconst dL_law_716 ?_
      refine j_iadd dL_law_717 ?_
      refine j_sld h0 (w32_R _) dL_law_718 (fun (v132 : Int) (hv132 : R32 v132) => ?_)
      refine j_aload_n 0 dL_law_719 rfl rfl ?_
      refine j_iload_n 3 dL_law_720 rfl rfl ?_
      refine j_iconst dL_law_721 ?_
      refine j_iadd dL_law_722 ?_
      refine j_sld h0 (w32_R _) dL_law_723 (fun (v133 : Int) (hv133 : R32 v133) => ?_)
      refine j_callV (ci := 11) (As := [(0, v132), (0, v133)]) (st := []) kc_X11_ofBidder (c_X11_ofBidder x1 v132 v133 S h1 hv132 hv133) rfl lm_L_89 ki_X11_ofBidder ke_X11_ofBidder rfl (Nat.le_of_ble_eq_true rfl) (Nat.le_trans (m := 109) (Nat.le_of_ble_eq_true rfl) hd0) dL_law_724 (fun (v134 : Int) (S135 : jSt) (hv134 : R32 (v134)) => ?_)
      refine j_aload_n 2 dL_law_727 rfl rfl ?_
      refine j_aload_n 0 dL_law_728 rfl rfl ?_
      refine j_iload_n 3 dL_law_729 rfl rfl ?_
      refine j_iconst dL_law_730 ?_
      refine j_iadd dL_law_731 ?_
      refine j_sld h0 (w32_R _) dL_law_732 (fun (v136 : Int) (hv136 : R32 v136) => ?_)
      refine j_aload_n 0 dL_law_733 rfl rfl ?_
      refine j_iload_n 3 dL_law_734 rfl rfl ?_
      refine j_iconst dL_law_735 ?_
      refine j_iadd dL_law_736 ?_
      refine j_sld h0 (w32_R _) dL_law_737 (fun (v137 : Int) (hv137 : R32 v137) => ?_)
      refine j_callV (ci := 12) (As := [(0, v136), (0, v137)]) (st := [(0, v134)]) kc_X12_ofBidder (c_X12_ofBidder x2 v136 v137 S135 h2 hv136 hv137) rfl lm_L_92 ki_X12_ofBidder ke_X12_ofBidder rfl (Nat.le_of_ble_eq_true rfl) (Nat.le_trans (m := 109) (Nat.le_of_ble_eq_true rfl) hd0) dL_law_738 (fun (v138 : Int) (S139 : jSt) (hv138 : R32 (v138)) => ?_)
      refine j_icmp_eq (tgt := 1585) hv134 hv138 dL_law_741 rfl (fun _ => ?_) (fun _ => ?_)
      · exact p_f_L_law_b1585 hd0 k18 x0 x1 x2 x3 S139 h0 h1 h2 h3
      · refine j_iconst dL_law_744 ?_
        exact j_zreturn jz0 dL_law_745
    refine j_ite (fun hc18 => ?_) (fun hc18 => ?_)
    · refine j_tableIn (tgt := 746) (off := 713) (iand32_R _ _) dL_law_33 (by omega) (by omega) (by rw [hc18]; rfl) rfl ?_
      refine j_aload_n 1 dL_law_746 rfl rfl ?_
      refine j_aload_n 0 dL_law_747 rfl rfl ?_
      refine j_iload_n 3 dL_law_748 rfl rfl ?_
      refine j_iconst dL_law_749 ?_
      refine j_iadd dL_law_750 ?_
      refine j_sld h0 (w32_R _) dL_law_751 (fun (v140 : Int) (hv140 : R32 v140) => ?_)
      refine j_aload_n 0 dL_law_752 rfl rfl ?_
      refine j_iload_n 3 dL_law_753 rfl rfl ?_
      refine j_iconst dL_law_754 ?_
      refine j_iadd dL_law_755 ?_
      refine j_sld h0 (w32_R _) dL_law_756 (fun (v141 : Int) (hv141 : R32 v141) => ?_)
      refine j_callV (ci := 11) (As := [(0, v140), (0, v141)]) (st := []) kc_X11_bids (c_X11_bids x1 v140 v141 S h1 hv140 hv141) rfl lm_L_93 ki_X11_bids ke_X11_bids rfl (Nat.le_of_ble_eq_true rfl) (Nat.le_trans (m := 109) (Nat.le_of_ble_eq_true rfl) hd0) dL_law_757 (fun (v142 : Int) (S143 : jSt) (hv142 : R32 (v142)) => ?_)
      refine j_aload_n 2 dL_law_760 rfl rfl ?_
      refine j_aload_n 0 dL_law_761 rfl rfl ?_
      refine j_iload_n 3 dL_law_762 rfl rfl ?_
      refine j_iconst dL_law_763 ?_
      refine j_iadd dL_law_764 ?_
      refine j_sld h0 (w32_R _) dL_law_765 (fun (v144 : Int) (hv144 : R32 v144) => ?_)
      refine j_aload_n 0 dL_law_766 rfl rfl ?_
      refine j_iload_n 3 dL_law_767 rfl rfl ?_
      refine j_iconst dL_law_768 ?_
      refine j_iadd dL_law_769 ?_
      refine j_sld h0 (w32_R _) dL_law_770 (fun (v145 : Int) (hv145 : R32 v145) => ?_)
      refine j_callV (ci := 12) (As := [(0, v144), (0, v145)]) (st := [(0, v142)]) kc_X12_bids (c_X12_bids x2 v144 v145 S143 h2 hv144 hv145) rfl lm_L_96 ki_X12_bids ke_X12_bids rfl (Nat.le_of_ble_eq_true rfl) (Nat.le_trans (m := 109) (Nat.le_of_ble_eq_true rfl) hd0) dL_law_771 (fun (v146 : Int) (S147 : jSt) (hv146 : R32 (v146)) => ?_)
      refine j_icmp_eq (tgt := 1585) hv142 hv146 dL_law_774 rfl (fun _ => ?_) (fun _ => ?_)
      · exact p_f_L_law_b1585 hd0 k18 x0 x1 x2 x3 S147 h0 h1 h2 h3
      · refine j_iconst dL_law_777 ?_
        exact j_zreturn jz0 dL_law_778
    refine j_ite (fun hc19 => ?_) (fun hc19 => ?_)
    · refine j_tableIn (tgt := 779) (off := 746) (iand32_R _ _) dL_law_33 (by omega) (by omega) (by rw [hc19]; rfl) rfl ?_
      refine j_aload_n 1 dL_law_779 rfl rfl ?_
      refine j_aload_n 0 dL_law_780 rfl rfl ?_
      refine j_iload_n 3 dL_law_781 rfl rfl ?_
      refine j_iconst dL_law_782 ?_
      refine j_iadd dL_law_783 ?_
      refine j_sld h0 (w32_R _) dL_law_784 (fun (v148 : Int) (hv148 : R32 v148) => ?_)
      refine j_callV (ci := 11) (As := [(0, v148)]) (st := []) kc_X11_is (c_X11_is x1 v148 S h1 hv148) rfl lm_L_97 ki_X11_is ke_X11_is rfl (Nat.le_of_ble_eq_true rfl) (Nat.le_trans (m := 109) (Nat.le_of_ble_eq_true rfl) hd0) dL_law_785 (fun (v149 : Int) (S150 : jSt) (hv149 : R32 (v149)) => ?_)
      refine j_aload_n 2 dL_law_788 rfl rfl ?_
      refine j_aload_n 0 dL_law_789 rfl rfl ?_
      refine j_iload_n 3 dL_law_790 rfl rfl ?_
      refine j_iconst dL_law_791 ?_
      refine j_iadd dL_law_792 ?_
      refine j_sld h0 (w32_R _) dL_law_793 (fun (v151 : Int) (hv151 : R32 v151) => ?_)
      refine j_callV (ci := 12) (As := [(0, v151)]) (st := [(0, v149)]) kc_X12_is (c_X12_is x2 v151 S150 h2 hv151) rfl lm_L_100 ki_X12_is ke_X12_is rfl (Nat.le_of_ble_eq_true rfl) (Nat.le_trans (m := 109) (Nat.le_of_ble_eq_true rfl) hd0) dL_law_794 (fun (v152 : Int) (S153 : jSt) (hv152 : R32 (v152)) => ?_)
      refine j_icmp_eq (tgt := 1585) hv149 hv152 dL_law_797 rfl (fun _ => ?_) (fun _ => ?_)
      · exact p_f_L_law_b1585 hd0 k18 x0 x1 x2 x3 S153 h0 h1 h2 h3
      · refine j_iconst dL_law_800 ?_
        exact j_zreturn jz0 dL_law_801
    refine j_ite (fun hc20 => ?_) (fun hc20 => ?_)
    · refine j_tableIn (tgt := 802) (off := 769) (iand32_R _ _) dL_law_33 (by omega) (by omega) (by rw [hc20]; rfl) rfl ?_
      refine j_aload_n 1 dL_law_802 rfl rfl ?_
      refine j_aload_n 0 dL_law_803 rfl rfl ?_
      refine j_iload_n 3 dL_law_804 rfl rfl ?_
      refine j_iconst dL_law_805 ?_
      refine j_iadd dL_law_806 ?_
      refine j_sld h0 (w32_R _) dL_law_807 (fun (v154 : Int) (hv154 : R32 v154) => ?_)
      refine j_aload_n 0 dL_law_808 rfl rfl ?_
      refine j_iload_n 3 dL_law_809 rfl rfl ?_
      refine j_iconst dL_law_810 ?_
      refine j_iadd dL_law_811 ?_
      refine j_sld h0 (w32_R _) dL_law_812 (fun (v155 : Int) (hv155 : R32 v155) => ?_)
      refine j_callV (ci := 11) (As := [(0, v154), (0, v155)]) (st := []) kc_X11_book (c_X11_book x1 v154 v155 S h1 hv154 hv155) rfl lm_L_101 ki_X11_book ke_X11_book rfl (Nat.le_of_ble_eq_true rfl) (Nat.le_trans (m := 109) (Nat.le_of_ble_eq_true rfl) hd0) dL_law_813 (fun (v156 : Int) (S157 : jSt) (hv156 : R32 (v156)) => ?_)
      refine j_aload_n 2 dL_law_816 rfl rfl ?_
      refine j_aload_n 0 dL_law_817 rfl rfl ?_
      refine j_iload_n 3 dL_law_818 rfl rfl ?_
      refine j_iconst dL_law_819 ?_
      refine j_iadd dL_law_820 ?_
      refine j_sld h0 (w32_R _) dL_law_821 (fun (v158 : Int) (hv158 : R32 v158) => ?_)
      refine j_aload_n 0 dL_law_822 rfl rfl ?_
      refine j_iload_n 3 dL_law_823 rfl rfl ?_
      refine j_iconst dL_law_824 ?_
      refine j_iadd dL_law_825 ?_
      refine j_sld h0 (w32_R _) dL_law_826 (fun (v159 : Int) (hv159 : R32 v159) => ?_)
      refine j_callV (ci := 12) (As := [(0, v158), (0, v159)]) (st := [(0, v156)]) kc_X12_book (c_X12_book x2 v158 v159 S157 h2 hv158 hv159) rfl lm_L_104 ki_X12_book ke_X12_book rfl (Nat.le_of_ble_eq_true rfl) (Nat.le_trans (m := 109) (Nat.le_of_ble_eq_true rfl) hd0) dL_law_827 (fun (v160 : Int) (S161 : jSt) (hv160 : R32 (v160)) => ?_)
      refine j_icmp_eq (tgt := 1585) hv156 hv160 dL_law_830 rfl (fun _ => ?_) (fun _ => ?_)
      · exact p_f_L_law_b1585 hd0 k18 x0 x1 x2 x3 S161 h0 h1 h2 h3
      · refine j_iconst dL_law_833 ?_
        exact j_zreturn jz0 dL_law_834
    refine j_ite (fun hc21 => ?_) (fun hc21 => ?_)
    · refine j_tableIn (tgt := 835) (off := 802) (iand32_R _ _) dL_law_33 (by omega) (by omega) (by rw [hc21]; rfl) rfl ?_
      refine j_aload_n 1 dL_law_835 rfl rfl ?_
      refine j_aload_n 0 dL_law_836 rfl rfl ?_
      refine j_iload_n 3 dL_law_837 rfl rfl ?_
      refine j_iconst dL_law_838 ?_
      refine j_iadd dL_law_839 ?_
      refine j_sld h0 (w32_R _) dL_law_840 (fun (v162 : Int) (hv162 : R32 v162) => ?_)
      refine j_aload_n 0 dL_law_841 rfl rfl ?_
      refine j_iload_n 3 dL_law_842 rfl rfl ?_
      refine j_iconst dL_law_843 ?_
      refine j_iadd dL_law_844 ?_
      refine j_sld h0 (w32_R _) dL_law_845 (fun (v163 : Int) (hv163 : R32 v163) => ?_)
      refine j_aload_n 0 dL_law_846 rfl rfl ?_
      refine j_iload_n 3 dL_law_847 rfl rfl ?_
      refine j_iconst dL_law_848 ?_
      refine j_iadd dL_law_849 ?_
      refine j_sld h0 (w32_R _) dL_law_850 (fun (v164 : Int) (hv164 : R32 v164) => ?_)
      refine j_callV (ci := 11) (As := [(0, v162), (0, v163), (0, v164)]) (st := []) kc_X11_foretold (c_X11_foretold x1 v162 v163 v164 S h1 hv162 hv163 hv164) rfl lm_L_105 ki_X11_foretold ke_X11_foretold rfl (Nat.le_of_ble_eq_true rfl) (Nat.le_trans (m := 109) (Nat.le_of_ble_eq_true rfl) hd0) dL_law_851 (fun (v165 : Int) (S166 : jSt) (hv165 : R32 (v165)) => ?_)
      refine j_aload_n 2 dL_law_854 rfl rfl ?_
      refine j_aload_n 0 dL_law_855 rfl rfl ?_
      refine j_iload_n 3 dL_law_856 rfl rfl ?_
      refine j_iconst dL_law_857 ?_
      refine j_iadd dL_law_858 ?_
      refine j_sld h0 (w32_R _) dL_law_859 (fun (v167 : Int) (hv167 : R32 v167) => ?_)
      refine j_aload_n 0 dL_law_860 rfl rfl ?_
      refine j_iload_n 3 dL_law_861 rfl rfl ?_
      refine j_iconst dL_law_862 ?_
      refine j_iadd dL_law_863 ?_
      refine j_sld h0 (w32_R _) dL_law_864 (fun (v168 : Int) (hv168 : R32 v168) => ?_)
      refine j_aload_n 0 dL_law_865 rfl rfl ?_
      refine j_iload_n 3 dL_law_866 rfl rfl ?_
      refine j_iconst dL_law_867 ?_
      refine j_iadd dL_law_868 ?_
      refine j_sld h0 (w32_R _) dL_law_869 (fun (v169 : Int) (hv169 : R32 v169) => ?_)
      refine j_callV (ci := 12) (As := [(0, v167), (0, v168), (0, v169)]) (st := [(0, v165)]) kc_X12_foretold (c_X12_foretold x2 v167 v168 v169 S166 h2 hv167 hv168 hv169) rfl lm_L_108 ki_X12_foretold ke_X12_foretold rfl (Nat.le_of_ble_eq_true rfl) (Nat.le_trans (m := 109) (Nat.le_of_ble_eq_true rfl) hd0) dL_law_870 (fun (v170 : Int) (S171 : jSt) (hv170 : R32 (v170)) => ?_)
      refine j_icmp_eq (tgt := 1585) hv165 hv170 dL_law_873 rfl (fun _ => ?_) (fun _ => ?_)
      · exact p_f_L_law_b1585 hd0 k18 x0 x1 x2 x3 S171 h0 h1 h2 h3
      · refine j_iconst dL_law_876 ?_
        exact j_zreturn jz0 dL_law_877
    refine j_ite (fun hc22 => ?_) (fun hc22 => ?_)
    · refine j_tableIn (tgt := 878) (off := 845) (iand32_R _ _) dL_law_33 (by omega) (by omega) (by rw [hc22]; rfl) rfl ?_
      refine j_aload_n 1 dL_law_878 rfl rfl ?_
      refine j_aload_n 0 dL_law_879 rfl rfl ?_
      refine j_iload_n 3 dL_law_880 rfl rfl ?_
      refine j_iconst dL_law_881 ?_
      refine j_iadd dL_law_882 ?_
      refine j_sld h0 (w32_R _) dL_law_883 (fun (v172 : Int) (hv172 : R32 v172) => ?_)
      refine j_aload_n 0 dL_law_884 rfl rfl ?_
      refine j_iload_n 3 dL_law_885 rfl rfl ?_
      refine j_iconst dL_law_886 ?_
      refine j_iadd dL_law_887 ?_
      refine j_sld h0 (w32_R _) dL_law_888 (fun (v173 : Int) (hv173 : R32 v173) => ?_)
      refine j_callV (ci := 11) (As := [(0, v172), (0, v173)]) (st := []) kc_X11_order (c_X11_order x1 v172 v173 S h1 hv172 hv173) rfl lm_L_109 ki_X11_order ke_X11_order rfl (Nat.le_of_ble_eq_true rfl) (Nat.le_trans (m := 109) (Nat.le_of_ble_eq_true rfl) hd0) dL_law_889 (fun (v174 : Int) (S175 : jSt) (hv174 : R32 (v174)) => ?_)
      refine j_aload_n 2 dL_law_892 rfl rfl ?_
      refine j_aload_n 0 dL_law_893 rfl rfl ?_
      refine j_iload_n 3 dL_law_894 rfl rfl ?_
      refine j_iconst dL_law_895 ?_
      refine j_iadd dL_law_896 ?_
      refine j_sld h0 (w32_R _) dL_law_897 (fun (v176 : Int) (hv176 : R32 v176) => ?_)
      refine j_aload_n 0 dL_law_898 rfl rfl ?_
      refine j_iload_n 3 dL_law_899 rfl rfl ?_
      refine j_iconst dL_law_900 ?_
      refine j_iadd dL_law_901 ?_
      refine j_sld h0 (w32_R _) dL_law_902 (fun (v177 : Int) (hv177 : R32 v177) => ?_)
      refine j_callV (ci := 12) (As := [(0, v176), (0, v177)]) (st := [(0, v174)]) kc_X12_order (c_X12_order x2 v176 v177 S175 h2 hv176 hv177) rfl lm_L_112 ki_X12_order ke_X12_order rfl (Nat.le_of_ble_eq_true rfl) (Nat.le_trans (m := 109) (Nat.le_of_ble_eq_true rfl) hd0) dL_law_903 (fun (v178 : Int) (S179 : jSt) (hv178 : R32 (v178)) => ?_)
      refine j_icmp_eq (tgt := 1585) hv174 hv178 dL_law_906 rfl (fun _ => ?_) (fun _ => ?_)
      · exact p_f_L_law_b1585 hd0 k18 x0 x1 x2 x3 S179 h0 h1 h2 h3
      · refine j_iconst dL_law_909 ?_
        exact j_zreturn jz0 dL_law_910
    refine j_ite (fun hc23 => ?_) (fun hc23 => ?_)
    · refine j_tableIn (tgt := 911) (off := 878) (iand32_R _ _) dL_law_33 (by omega) (by omega) (by rw [hc23]; rfl) rfl ?_
      refine j_aload_n 1 dL_law_911 rfl rfl ?_
      refine j_aload_n 0 dL_law_912 rfl rfl ?_
      refine j_iload_n 3 dL_law_913 rfl rfl ?_
      refine j_iconst dL_law_914 ?_
      refine j_iadd dL_law_915 ?_
      refine j_sld h0 (w32_R _) dL_law_916 (fun (v180 : Int) (hv180 : R32 v180) => ?_)
      refine j_aload_n 0 dL_law_917 rfl rfl ?_
      refine j_iload_n 3 dL_law_918 rfl rfl ?_
      refine j_iconst dL_law_919 ?_
      refine j_iadd dL_law_920 ?_
      refine j_sld h0 (w32_R _) dL_law_921 (fun (v181 : Int) (hv181 : R32 v181) => ?_)
      refine j_aload_n 0 dL_law_922 rfl rfl ?_
      refine j_iload_n 3 dL_law_923 rfl rfl ?_
      refine j_iconst dL_law_924 ?_
      refine j_iadd dL_law_925 ?_
      refine j_sld h0 (w32_R _) dL_law_926 (fun (v182 : Int) (hv182 : R32 v182) => ?_)
      refine j_callV (ci := 11) (As := [(0, v180), (0, v181), (0, v182)]) (st := []) kc_X11_bundle (c_X11_bundle x1 v180 v181 v182 S h1 hv180 hv181 hv182) rfl lm_L_113 ki_X11_bundle ke_X11_bundle rfl (Nat.le_of_ble_eq_true rfl) (Nat.le_trans (m := 109) (Nat.le_of_ble_eq_true rfl) hd0) dL_law_927 (fun (v183 : Int) (S184 : jSt) (hv183 : R32 (v183)) => ?_)
      refine j_aload_n 2 dL_law_930 rfl rfl ?_
      refine j_aload_n 0 dL_law_931 rfl rfl ?_
      refine j_iload_n 3 dL_law_932 rfl rfl ?_
      refine j_iconst dL_law_933 ?_
      refine j_iadd dL_law_934 ?_
      refine j_sld h0 (w32_R _) dL_law_935 (fun (v185 : Int) (hv185 : R32 v185) => ?_)
      refine j_aload_n 0 dL_law_936 rfl rfl ?_
      refine j_iload_n 3 dL_law_937 rfl rfl ?_
      refine j_iconst dL_law_938 ?_
      refine j_iadd dL_law_939 ?_
      refine j_sld h0 (w32_R _) dL_law_940 (fun (v186 : Int) (hv186 : R32 v186) => ?_)
      refine j_aload_n 0 dL_law_941 rfl rfl ?_
      refine j_iload_n 3 dL_law_942 rfl rfl ?_
      refine j_iconst dL_law_943 ?_
      refine j_iadd dL_law_944 ?_
      refine j_sld h0 (w32_R _) dL_law_945 (fun (v187 : Int) (hv187 : R32 v187) => ?_)
      refine j_callV (ci := 12) (As := [(0, v185), (0, v186), (0, v187)]) (st := [(0, v183)]) kc_X12_bundle (c_X12_bundle x2 v185 v186 v187 S184 h2 hv185 hv186 hv187) rfl lm_L_116 ki_X12_bundle ke_X12_bundle rfl (Nat.le_of_ble_eq_true rfl) (Nat.le_trans (m := 109) (Nat.le_of_ble_eq_true rfl) hd0) dL_law_946 (fun (v188 : Int) (S189 : jSt) (hv188 : R32 (v188)) => ?_)
      refine j_icmp_eq (tgt := 1585) hv183 hv188 dL_law_949 rfl (fun _ => ?_) (fun _ => ?_)
      · exact p_f_L_law_b1585 hd0 k18 x0 x1 x2 x3 S189 h0 h1 h2 h3
      · refine j_iconst dL_law_952 ?_
        exact j_zreturn jz0 dL_law_953
    refine j_ite (fun hc24 => ?_) (fun hc24 => ?_)
    · refine j_tableIn (tgt := 954) (off := 921) (iand32_R _ _) dL_law_33 (by omega) (by omega) (by rw [hc24]; rfl) rfl ?_
      refine j_aload_n 1 dL_law_954 rfl rfl ?_
      refine j_aload_n 0 dL_law_955 rfl rfl ?_
      refine j_iload_n 3 dL_law_956 rfl rfl ?_
      refine j_iconst dL_law_957 ?_
      refine j_iadd dL_law_958 ?_
      refine j_sld h0 (w32_R _) dL_law_959 (fun (v190 : Int) (hv190 : R32 v190) => ?_)
      refine j_if_eq (tgt := 967) hv190 dL_law_960 rfl (fun _ => ?_) (fun _ => ?_)
      · refine j_iconst dL_law_967 ?_
        exact p_f_L_law_b968 hd0 k18 x0 x1 x2 x3 x1 0 S h0 h1 h2 h3 h1 jz0
      · refine j_iconst dL_law_963 ?_
        refine j_goto (tgt := 968) dL_law_964 rfl ?_
        exact p_f_L_law_b968 hd0 k18 x0 x1 x2 x3 x1 1 S h0 h1 h2 h3 h1 jz1
    refine j_ite (fun hc25 => ?_) (fun hc25 => ?_)
    · refine j_tableIn (tgt := 993) (off := 960) (iand32_R _ _) dL_law_33 (by omega) (by omega) (by rw [hc25]; rfl) rfl ?_
      refine j_aload_n 1 dL_law_993 rfl rfl ?_
      refine j_aload_n 0 dL_law_994 rfl rfl ?_
      refine j_iload_n 3 dL_law_995 rfl rfl ?_
      refine j_iconst dL_law_996 ?_
      refine j_iadd dL_law_997 ?_
      refine j_sld h0 (w32_R _) dL_law_998 (fun (v196 : Int) (hv196 : R32 v196) => ?_)
      refine j_callV (ci := 11) (As := [(0, v196)]) (st := []) kc_X11_pays (c_X11_pays x1 v196 S h1 hv196) rfl lm_L_122 ki_X11_pays ke_X11_pays rfl (Nat.le_of_ble_eq_true rfl) (Nat.le_trans (m := 109) (Nat.le_of_ble_eq_true rfl) hd0) dL_law_999 (fun (v197 : Int) (S198 : jSt) (hv197 : R32 (v197)) => ?_)
      refine j_aload_n 2 dL_law_1002 rfl rfl ?_
      refine j_aload_n 0 dL_law_1003 rfl rfl ?_
      refine j_iload_n 3 dL_law_1004 rfl rfl ?_
      refine j_iconst dL_law_1005 ?_
      refine j_iadd dL_law_1006 ?_
      refine j_sld h0 (w32_R _) dL_law_1007 (fun (v199 : Int) (hv199 : R32 v199) => ?_)
      refine j_callV (ci := 12) (As := [(0, v199)]) (st := [(0, v197)]) kc_X12_pays (c_X12_pays x2 v199 S198 h2 hv199) rfl lm_L_125 ki_X12_pays ke_X12_pays rfl (Nat.le_of_ble_eq_true rfl) (Nat.le_trans (m := 109) (Nat.le_of_ble_eq_true rfl) hd0) dL_law_1008 (fun (v200 : Int) (S201 : jSt) (hv200 : R32 (v200)) => ?_)
      refine j_icmp_eq (tgt := 1585) hv197 hv200 dL_law_1011 rfl (fun _ => ?_) (fun _ => ?_)
      · exact p_f_L_law_b1585 hd0 k18 x0 x1 x2 x3 S201 h0 h1 h2 h3
      · refine j_iconst dL_law_1014 ?_
        exact j_zreturn jz0 dL_law_1015
    refine j_ite (fun hc26 => ?_) (fun hc26 => ?_)
    · refine j_tableIn (tgt := 1016) (off := 983) (iand32_R _ _) dL_law_33 (by omega) (by omega) (by rw [hc26]; rfl) rfl ?_
      refine j_aload_n 1 dL_law_1016 rfl rfl ?_
      refine j_aload_n 0 dL_law_1017 rfl rfl ?_
      refine j_iload_n 3 dL_law_1018 rfl rfl ?_
      refine j_iconst dL_law_1019 ?_
      refine j_iadd dL_law_1020 ?_
      refine j_sld h0 (w32_R _) dL_law_1021 (fun (v202 : Int) (hv202 : R32 v202) => ?_)
      refine j_aload_n 0 dL_law_1022 rfl rfl ?_
      refine j_iload_n 3 dL_law_1023 rfl rfl ?_
      refine j_iconst dL_law_1024 ?_
      refine j_iadd dL_law_1025 ?_
      refine j_sld h0 (w32_R _) dL_law_1026 (fun (v203 : Int) (hv203 : R32 v203) => ?_)
      refine j_if_eq (tgt := 1034) hv203 dL_law_1027 rfl (fun _ => ?_) (fun _ => ?_)
      · refine j_iconst dL_law_1034 ?_
        exact p_f_L_law_b1035 hd0 k18 x0 x1 x2 x3 x1 v202 0 S h0 h1 h2 h3 h1 hv202 jz0
      · refine j_iconst dL_law_1030 ?_
        refine j_goto (tgt := 1035) dL_law_1031 rfl ?_
        exact p_f_L_law_b1035 hd0 k18 x0 x1 x2 x3 x1 v202 1 S h0 h1 h2 h3 h1 hv202 jz1
    refine j_ite (fun hc27 => ?_) (fun hc27 => ?_)
    · refine j_tableIn (tgt := 1065) (off := 1032) (iand32_R _ _) dL_law_33 (by omega) (by omega) (by rw [hc27]; rfl) rfl ?_
      refine j_aload_n 1 dL_law_1065 rfl rfl ?_
      refine j_aload_n 0 dL_law_1066 rfl rfl ?_
      refine j_iload_n 3 dL_law_1067 rfl rfl ?_
      refine j_iconst dL_law_1068 ?_
      refine j_iadd dL_law_1069 ?_
      refine j_sld h0 (w32_R _) dL_law_1070 (fun (v210 : Int) (hv210 : R32 v210) => ?_)
      refine j_aload_n 0 dL_law_1071 rfl rfl ?_
      refine j_iload_n 3 dL_law_1072 rfl rfl ?_
      refine j_iconst dL_law_1073 ?_
      refine j_iadd dL_law_1074 ?_
      refine j_sld h0 (w32_R _) dL_law_1075 (fun (v211 : Int) (hv211 : R32 v211) => ?_)
      refine j_callV (ci := 11) (As := [(0, v210), (0, v211)]) (st := []) kc_X11_stair (c_X11_stair x1 v210 v211 S h1 hv210 hv211) rfl lm_L_131 ki_X11_stair ke_X11_stair rfl (Nat.le_of_ble_eq_true rfl) (Nat.le_trans (m := 109) (Nat.le_of_ble_eq_true rfl) hd0) dL_law_1076 (fun (v212 : Int) (S213 : jSt) (hv212 : (v212) = 0 ∨ (v212) = 1) => ?_)
      refine j_aload_n 2 dL_law_1079 rfl rfl ?_
      refine j_aload_n 0 dL_law_1080 rfl rfl ?_
      refine j_iload_n 3 dL_law_1081 rfl rfl ?_
      refine j_iconst dL_law_1082 ?_
      refine j_iadd dL_law_1083 ?_
      refine j_sld h0 (w32_R _) dL_law_1084 (fun (v214 : Int) (hv214 : R32 v214) => ?_)
      refine j_aload_n 0 dL_law_1085 rfl rfl ?_
      refine j_iload_n 3 dL_law_1086 rfl rfl ?_
      refine j_iconst dL_law_1087 ?_
      refine j_iadd dL_law_1088 ?_
      refine j_sld h0 (w32_R _) dL_law_1089 (fun (v215 : Int) (hv215 : R32 v215) => ?_)
      refine j_callV (ci := 12) (As := [(0, v214), (0, v215)]) (st := [(0, v212)]) kc_X12_stair (c_X12_stair x2 v214 v215 S213 h2 hv214 hv215) rfl lm_L_134 ki_X12_stair ke_X12_stair rfl (Nat.le_of_ble_eq_true rfl) (Nat.le_trans (m := 109) (Nat.le_of_ble_eq_true rfl) hd0) dL_law_1090 (fun (v216 : Int) (S217 : jSt) (hv216 : (v216) = 0 ∨ (v216) = 1) => ?_)
      refine j_icmp_eq (tgt := 1585) (jZ_R hv212) (jZ_R hv216) dL_law_1093 rfl (fun _ => ?_) (fun _ => ?_)
      · exact p_f_L_law_b1585 hd0 k18 x0 x1 x2 x3 S217 h0 h1 h2 h3
      · refine j_iconst dL_law_1096 ?_
        exact j_zreturn jz0 dL_law_1097
    refine j_ite (fun hc28 => ?_) (fun hc28 => ?_)
    · refine j_tableIn (tgt := 1098) (off := 1065) (iand32_R _ _) dL_law_33 (by omega) (by omega) (by rw [hc28]; rfl) rfl ?_
      refine j_aload_n 1 dL_law_1098 rfl rfl ?_
      refine j_aload_n 0 dL_law_1099 rfl rfl ?_
      refine j_iload_n 3 dL_law_1100 rfl rfl ?_
      refine j_iconst dL_law_1101 ?_
      refine j_iadd dL_law_1102 ?_
      refine j_sld h0 (w32_R _) dL_law_1103 (fun (v218 : Int) (hv218 : R32 v218) => ?_)
      refine j_aload_n 0 dL_law_1104 rfl rfl ?_
      refine j_iload_n 3 dL_law_1105 rfl rfl ?_
      refine j_iconst dL_law_1106 ?_
      refine j_iadd dL_law_1107 ?_
      refine j_sld h0 (w32_R _) dL_law_1108 (fun (v219 : Int) (hv219 : R32 v219) => ?_)
      refine j_callV (ci := 11) (As := [(0, v218), (0, v219)]) (st := []) kc_X11_gone (c_X11_gone x1 v218 v219 S h1 hv218 hv219) rfl lm_L_135 ki_X11_gone ke_X11_gone rfl (Nat.le_of_ble_eq_true rfl) (Nat.le_trans (m := 109) (Nat.le_of_ble_eq_true rfl) hd0) dL_law_1109 (fun (v220 : Int) (S221 : jSt) (hv220 : (v220) = 0 ∨ (v220) = 1) => ?_)
      refine j_aload_n 2 dL_law_1112 rfl rfl ?_
      refine j_aload_n 0 dL_law_1113 rfl rfl ?_
      refine j_iload_n 3 dL_law_1114 rfl rfl ?_
      refine j_iconst dL_law_1115 ?_
      refine j_iadd dL_law_1116 ?_
      refine j_sld h0 (w32_R _) dL_law_1117 (fun (v222 : Int) (hv222 : R32 v222) => ?_)
      refine j_aload_n 0 dL_law_1118 rfl rfl ?_
      refine j_iload_n 3 dL_law_1119 rfl rfl ?_
      refine j_iconst dL_law_1120 ?_
      refine j_iadd dL_law_1121 ?_
      refine j_sld h0 (w32_R _) dL_law_1122 (fun (v223 : Int) (hv223 : R32 v223) => ?_)
      refine j_callV (ci := 12) (As := [(0, v222), (0, v223)]) (st := [(0, v220)]) kc_X12_gone (c_X12_gone x2 v222 v223 S221 h2 hv222 hv223) rfl lm_L_138 ki_X12_gone ke_X12_gone rfl (Nat.le_of_ble_eq_true rfl) (Nat.le_trans (m := 109) (Nat.le_of_ble_eq_true rfl) hd0) dL_law_1123 (fun (v224 : Int) (S225 : jSt) (hv224 : (v224) = 0 ∨ (v224) = 1) => ?_)
      refine j_icmp_eq (tgt := 1585) (jZ_R hv220) (jZ_R hv224) dL_law_1126 rfl (fun _ => ?_) (fun _ => ?_)
      · exact p_f_L_law_b1585 hd0 k18 x0 x1 x2 x3 S225 h0 h1 h2 h3
      · refine j_iconst dL_law_1129 ?_
        exact j_zreturn jz0 dL_law_1130
    refine j_ite (fun hc29 => ?_) (fun hc29 => ?_)
    · refine j_tableIn (tgt := 1131) (off := 1098) (iand32_R _ _) dL_law_33 (by omega) (by omega) (by rw [hc29]; rfl) rfl ?_
      refine j_aload_n 1 dL_law_1131 rfl rfl ?_
      refine j_aload_n 0 dL_law_1132 rfl rfl ?_
      refine j_iload_n 3 dL_law_1133 rfl rfl ?_
      refine j_iconst dL_law_1134 ?_
      refine j_iadd dL_law_1135 ?_
      refine j_sld h0 (w32_R _) dL_law_1136 (fun (v226 : Int) (hv226 : R32 v226) => ?_)
      refine j_aload_n 0 dL_law_1137 rfl rfl ?_
      refine j_iload_n 3 dL_law_1138 rfl rfl ?_
      refine j_iconst dL_law_1139 ?_
      refine j_iadd dL_law_1140 ?_
      refine j_sld h0 (w32_R _) dL_law_1141 (fun (v227 : Int) (hv227 : R32 v227) => ?_)
      refine j_callV (ci := 11) (As := [(0, v226), (0, v227)]) (st := []) kc_X11_climb (c_X11_climb x1 v226 v227 S h1 hv226 hv227) rfl lm_L_139 ki_X11_climb ke_X11_climb rfl (Nat.le_of_ble_eq_true rfl) (Nat.le_trans (m := 109) (Nat.le_of_ble_eq_true rfl) hd0) dL_law_1142 (fun (v228 : Int) (S229 : jSt) (hv228 : R32 (v228)) => ?_)
      refine j_aload_n 2 dL_law_1145 rfl rfl ?_
      refine j_aload_n 0 dL_law_1146 rfl rfl ?_
      refine j_iload_n 3 dL_law_1147 rfl rfl ?_
      refine j_iconst dL_law_1148 ?_
      refine j_iadd dL_law_1149 ?_
      refine j_sld h0 (w32_R _) dL_law_1150 (fun (v230 : Int) (hv230 : R32 v230) => ?_)
      refine j_aload_n 0 dL_law_1151 rfl rfl ?_
      refine j_iload_n 3 dL_law_1152 rfl rfl ?_
      refine j_iconst dL_law_1153 ?_
      refine j_iadd dL_law_1154 ?_
      refine j_sld h0 (w32_R _) dL_law_1155 (fun (v231 : Int) (hv231 : R32 v231) => ?_)
      refine j_callV (ci := 12) (As := [(0, v230), (0, v231)]) (st := [(0, v228)]) kc_X12_climb (c_X12_climb x2 v230 v231 S229 h2 hv230 hv231) rfl lm_L_142 ki_X12_climb ke_X12_climb rfl (Nat.le_of_ble_eq_true rfl) (Nat.le_trans (m := 109) (Nat.le_of_ble_eq_true rfl) hd0) dL_law_1156 (fun (v232 : Int) (S233 : jSt) (hv232 : R32 (v232)) => ?_)
      refine j_icmp_eq (tgt := 1585) hv228 hv232 dL_law_1159 rfl (fun _ => ?_) (fun _ => ?_)
      · exact p_f_L_law_b1585 hd0 k18 x0 x1 x2 x3 S233 h0 h1 h2 h3
      · refine j_iconst dL_law_1162 ?_
        exact j_zreturn jz0 dL_law_1163
    refine j_ite (fun hc30 => ?_) (fun hc30 => ?_)
    · refine j_tableIn (tgt := 1164) (off := 1131) (iand32_R _ _) dL_law_33 (by omega) (by omega) (by rw [hc30]; rfl) rfl ?_
      refine j_aload_n 1 dL_law_1164 rfl rfl ?_
      refine j_aload_n 0 dL_law_1165 rfl rfl ?_
      refine j_iload_n 3 dL_law_1166 rfl rfl ?_
      refine j_iconst dL_law_1167 ?_
      refine j_iadd dL_law_1168 ?_
      refine j_sld h0 (w32_R _) dL_law_1169 (fun (v234 : Int) (hv234 : R32 v234) => ?_)
      refine j_aload_n 0 dL_law_1170 rfl rfl ?_
      refine j_iload_n 3 dL_law_1171 rfl rfl ?_
      refine j_iconst dL_law_1172 ?_
      refine j_iadd dL_law_1173 ?_
      refine j_sld h0 (w32_R _) dL_law_1174 (fun (v235 : Int) (hv235 : R32 v235) => ?_)
      refine j_callV (ci := 11) (As := [(0, v234), (0, v235)]) (st := []) kc_X11_cut (c_X11_cut x1 v234 v235 S h1 hv234 hv235) rfl lm_L_143 ki_X11_cut ke_X11_cut rfl (Nat.le_of_ble_eq_true rfl) (Nat.le_trans (m := 109) (Nat.le_of_ble_eq_true rfl) hd0) dL_law_1175 (fun (v236 : Int) (S237 : jSt) (hv236 : R32 (v236)) => ?_)
      refine j_aload_n 2 dL_law_1178 rfl rfl ?_
      refine j_aload_n 0 dL_law_1179 rfl rfl ?_
      refine j_iload_n 3 dL_law_1180 rfl rfl ?_
      refine j_iconst dL_law_1181 ?_
      refine j_iadd dL_law_1182 ?_
      refine j_sld h0 (w32_R _) dL_law_1183 (fun (v238 : Int) (hv238 : R32 v238) => ?_)
      refine j_aload_n 0 dL_law_1184 rfl rfl ?_
      refine j_iload_n 3 dL_law_1185 rfl rfl ?_
      refine j_iconst dL_law_1186 ?_
      refine j_iadd dL_law_1187 ?_
      refine j_sld h0 (w32_R _) dL_law_1188 (fun (v239 : Int) (hv239 : R32 v239) => ?_)
      refine j_callV (ci := 12) (As := [(0, v238), (0, v239)]) (st := [(0, v236)]) kc_X12_cut (c_X12_cut x2 v238 v239 S237 h2 hv238 hv239) rfl lm_L_146 ki_X12_cut ke_X12_cut rfl (Nat.le_of_ble_eq_true rfl) (Nat.le_trans (m := 109) (Nat.le_of_ble_eq_true rfl) hd0) dL_law_1189 (fun (v240 : Int) (S241 : jSt) (hv240 : R32 (v240)) => ?_)
      refine j_icmp_eq (tgt := 1585) hv236 hv240 dL_law_1192 rfl (fun _ => ?_) (fun _ => ?_)
      · exact p_f_L_law_b1585 hd0 k18 x0 x1 x2 x3 S241 h0 h1 h2 h3
      · refine j_iconst dL_law_1195 ?_
        exact j_zreturn jz0 dL_law_1196
    refine j_ite (fun hc31 => ?_) (fun hc31 => ?_)
    · refine j_tableIn (tgt := 1197) (off := 1164) (iand32_R _ _) dL_law_33 (by omega) (by omega) (by rw [hc31]; rfl) rfl ?_
      refine j_aload_n 1 dL_law_1197 rfl rfl ?_
      refine j_callV (ci := 11) (As := []) (st := []) kc_X11_bridges (c_X11_bridges x1 S h1) rfl lm_L_147 ki_X11_bridges ke_X11_bridges rfl (Nat.le_of_ble_eq_true rfl) (Nat.le_trans (m := 109) (Nat.le_of_ble_eq_true rfl) hd0) dL_law_1198 (fun (v242 : Int) (S243 : jSt) (hv242 : R32 (v242)) => ?_)
      refine j_aload_n 2 dL_law_1201 rfl rfl ?_
      refine j_callV (ci := 12) (As := []) (st := [(0, v242)]) kc_X12_bridges (c_X12_bridges x2 S243 h2) rfl lm_L_150 ki_X12_bridges ke_X12_bridges rfl (Nat.le_of_ble_eq_true rfl) (Nat.le_trans (m := 109) (Nat.le_of_ble_eq_true rfl) hd0) dL_law_1202 (fun (v244 : Int) (S245 : jSt) (hv244 : R32 (v244)) => ?_)
      refine j_icmp_eq (tgt := 1585) hv242 hv244 dL_law_1205 rfl (fun _ => ?_) (fun _ => ?_)
      · exact p_f_L_law_b1585 hd0 k18 x0 x1 x2 x3 S245 h0 h1 h2 h3
      · refine j_iconst dL_law_1208 ?_
        exact j_zreturn jz0 dL_law_1209
    refine j_ite (fun hc32 => ?_) (fun hc32 => ?_)
    · refine j_tableIn (tgt := 1210) (off := 1177) (iand32_R _ _) dL_law_33 (by omega) (by omega) (by rw [hc32]; rfl) rfl ?_
      refine j_aload_n 1 dL_law_1210 rfl rfl ?_
      refine j_aload_n 0 dL_law_1211 rfl rfl ?_
      refine j_iload_n 3 dL_law_1212 rfl rfl ?_
      refine j_iconst dL_law_1213 ?_
      refine j_iadd dL_law_1214 ?_
      refine j_sld h0 (w32_R _) dL_law_1215 (fun (v246 : Int) (hv246 : R32 v246) => ?_)
      refine j_aload_n 0 dL_law_1216 rfl rfl ?_
      refine j_iload_n 3 dL_law_1217 rfl rfl ?_
      refine j_iconst dL_law_1218 ?_
      refine j_iadd dL_law_1219 ?_
      refine j_sld h0 (w32_R _) dL_law_1220 (fun (v247 : Int) (hv247 : R32 v247) => ?_)
      refine j_callV (ci := 11) (As := [(0, v246), (0, v247)]) (st := []) kc_X11_odds (c_X11_odds x1 v246 v247 S h1 hv246 hv247) rfl lm_L_151 ki_X11_odds ke_X11_odds rfl (Nat.le_of_ble_eq_true rfl) (Nat.le_trans (m := 109) (Nat.le_of_ble_eq_true rfl) hd0) dL_law_1221 (fun (v248 : Int) (S249 : jSt) (hv248 : (v248) = 0 ∨ (v248) = 1) => ?_)
      refine j_aload_n 2 dL_law_1224 rfl rfl ?_
      refine j_aload_n 0 dL_law_1225 rfl rfl ?_
      refine j_iload_n 3 dL_law_1226 rfl rfl ?_
      refine j_iconst dL_law_1227 ?_
      refine j_iadd dL_law_1228 ?_
      refine j_sld h0 (w32_R _) dL_law_1229 (fun (v250 : Int) (hv250 : R32 v250) => ?_)
      refine j_aload_n 0 dL_law_1230 rfl rfl ?_
      refine j_iload_n 3 dL_law_1231 rfl rfl ?_
      refine j_iconst dL_law_1232 ?_
      refine j_iadd dL_law_1233 ?_
      refine j_sld h0 (w32_R _) dL_law_1234 (fun (v251 : Int) (hv251 : R32 v251) => ?_)
      refine j_callV (ci := 12) (As := [(0, v250), (0, v251)]) (st := [(0, v248)]) kc_X12_odds (c_X12_odds x2 v250 v251 S249 h2 hv250 hv251) rfl lm_L_154 ki_X12_odds ke_X12_odds rfl (Nat.le_of_ble_eq_true rfl) (Nat.le_trans (m := 109) (Nat.le_of_ble_eq_true rfl) hd0) dL_law_1235 (fun (v252 : Int) (S253 : jSt) (hv252 : (v252) = 0 ∨ (v252) = 1) => ?_)
      refine j_icmp_eq (tgt := 1585) (jZ_R hv248) (jZ_R hv252) dL_law_1238 rfl (fun _ => ?_) (fun _ => ?_)
      · exact p_f_L_law_b1585 hd0 k18 x0 x1 x2 x3 S253 h0 h1 h2 h3
      · refine j_iconst dL_law_1241 ?_
        exact j_zreturn jz0 dL_law_1242
    refine j_ite (fun hc33 => ?_) (fun hc33 => ?_)
    · refine j_tableIn (tgt := 1243) (off := 1210) (iand32_R _ _) dL_law_33 (by omega) (by omega) (by rw [hc33]; rfl) rfl ?_
      refine j_aload_n 1 dL_law_1243 rfl rfl ?_
      refine j_aload_n 0 dL_law_1244 rfl rfl ?_
      refine j_iload_n 3 dL_law_1245 rfl rfl ?_
      refine j_iconst dL_law_1246 ?_
      refine j_iadd dL_law_1247 ?_
      refine j_sld h0 (w32_R _) dL_law_1248 (fun (v254 : Int) (hv254 : R32 v254) => ?_)
      refine j_aload_n 0 dL_law_1249 rfl rfl ?_
      refine j_iload_n 3 dL_law_1250 rfl rfl ?_
      refine j_iconst dL_law_1251 ?_
      refine j_iadd dL_law_1252 ?_
      refine j_sld h0 (w32_R _) dL_law_1253 (fun (v255 : Int) (hv255 : R32 v255) => ?_)
      refine j_if_eq (tgt := 1261) hv255 dL_law_1254 rfl (fun _ => ?_) (fun _ => ?_)
      · refine j_iconst dL_law_1261 ?_
        exact p_f_L_law_b1262 hd0 k18 x0 x1 x2 x3 x1 v254 0 S h0 h1 h2 h3 h1 hv254 jz0
      · refine j_iconst dL_law_1257 ?_
        refine j_goto (tgt := 1262) dL_law_1258 rfl ?_
        exact p_f_L_law_b1262 hd0 k18 x0 x1 x2 x3 x1 v254 1 S h0 h1 h2 h3 h1 hv254 jz1
    refine j_ite (fun hc34 => ?_) (fun hc34 => ?_)
    · refine j_tableIn (tgt := 1293) (off := 1260) (iand32_R _ _) dL_law_33 (by omega) (by omega) (by rw [hc34]; rfl) rfl ?_
      refine j_aload_n 1 dL_law_1293 rfl rfl ?_
      refine j_aload_n 0 dL_law_1294 rfl rfl ?_
      refine j_iload_n 3 dL_law_1295 rfl rfl ?_
      refine j_iconst dL_law_1296 ?_
      refine j_iadd dL_law_1297 ?_
      refine j_sld h0 (w32_R _) dL_law_1298 (fun (v262 : Int) (hv262 : R32 v262) => ?_)
      refine j_aload_n 0 dL_law_1299 rfl rfl ?_
      refine j_iload_n 3 dL_law_1300 rfl rfl ?_
      refine j_iconst dL_law_1301 ?_
      refine j_iadd dL_law_1302 ?_
      refine j_sld h0 (w32_R _) dL_law_1303 (fun (v263 : Int) (hv263 : R32 v263) => ?_)
      refine j_callV (ci := 11) (As := [(0, v262), (0, v263)]) (st := []) kc_X11_takes (c_X11_takes x1 v262 v263 S h1 hv262 hv263) rfl lm_L_160 ki_X11_takes ke_X11_takes rfl (Nat.le_of_ble_eq_true rfl) (Nat.le_trans (m := 109) (Nat.le_of_ble_eq_true rfl) hd0) dL_law_1304 (fun (v264 : Int) (S265 : jSt) (hv264 : R32 (v264)) => ?_)
      refine j_aload_n 2 dL_law_1307 rfl rfl ?_
      refine j_aload_n 0 dL_law_1308 rfl rfl ?_
      refine j_iload_n 3 dL_law_1309 rfl rfl ?_
      refine j_iconst dL_law_1310 ?_
      refine j_iadd dL_law_1311 ?_
      refine j_sld h0 (w32_R _) dL_law_1312 (fun (v266 : Int) (hv266 : R32 v266) => ?_)
      refine j_aload_n 0 dL_law_1313 rfl rfl ?_
      refine j_iload_n 3 dL_law_1314 rfl rfl ?_
      refine j_iconst dL_law_1315 ?_
      refine j_iadd dL_law_1316 ?_
      refine j_sld h0 (w32_R _) dL_law_1317 (fun (v267 : Int) (hv267 : R32 v267) => ?_)
      refine j_callV (ci := 12) (As := [(0, v266), (0, v267)]) (st := [(0, v264)]) kc_X12_takes (c_X12_takes x2 v266 v267 S265 h2 hv266 hv267) rfl lm_L_163 ki_X12_takes ke_X12_takes rfl (Nat.le_of_ble_eq_true rfl) (Nat.le_trans (m := 109) (Nat.le_of_ble_eq_true rfl) hd0) dL_law_1318 (fun (v268 : Int) (S269 : jSt) (hv268 : R32 (v268)) => ?_)
      refine j_icmp_eq (tgt := 1585) hv264 hv268 dL_law_1321 rfl (fun _ => ?_) (fun _ => ?_)
      · exact p_f_L_law_b1585 hd0 k18 x0 x1 x2 x3 S269 h0 h1 h2 h3
      · refine j_iconst dL_law_1324 ?_
        exact j_zreturn jz0 dL_law_1325
    refine j_ite (fun hc35 => ?_) (fun hc35 => ?_)
    · refine j_tableIn (tgt := 1326) (off := 1293) (iand32_R _ _) dL_law_33 (by omega) (by omega) (by rw [hc35]; rfl) rfl ?_
      refine j_aload_n 1 dL_law_1326 rfl rfl ?_
      refine j_aload_n 0 dL_law_1327 rfl rfl ?_
      refine j_iload_n 3 dL_law_1328 rfl rfl ?_
      refine j_iconst dL_law_1329 ?_
      refine j_iadd dL_law_1330 ?_
      refine j_sld h0 (w32_R _) dL_law_1331 (fun (v270 : Int) (hv270 : R32 v270) => ?_)
      refine j_aload_n 0 dL_law_1332 rfl rfl ?_
      refine j_iload_n 3 dL_law_1333 rfl rfl ?_
      refine j_iconst dL_law_1334 ?_
      refine j_iadd dL_law_1335 ?_
      refine j_sld h0 (w32_R _) dL_law_1336 (fun (v271 : Int) (hv271 : R32 v271) => ?_)
      refine j_callV (ci := 11) (As := [(0, v270), (0, v271)]) (st := []) kc_X11_ash (c_X11_ash x1 v270 v271 S h1 hv270 hv271) rfl lm_L_164 ki_X11_ash ke_X11_ash rfl (Nat.le_of_ble_eq_true rfl) (Nat.le_trans (m := 109) (Nat.le_of_ble_eq_true rfl) hd0) dL_law_1337 (fun (v272 : Int) (S273 : jSt) (hv272 : R32 (v272)) => ?_)
      refine j_aload_n 2 dL_law_1340 rfl rfl ?_
      refine j_aload_n 0 dL_law_1341 rfl rfl ?_
      refine j_iload_n 3 dL_law_1342 rfl rfl ?_
      refine j_iconst dL_law_1343 ?_
      refine j_iadd dL_law_1344 ?_
      refine j_sld h0 (w32_R _) dL_law_1345 (fun (v274 : Int) (hv274 : R32 v274) => ?_)
      refine j_aload_n 0 dL_law_1346 rfl rfl ?_
      refine j_iload_n 3 dL_law_1347 rfl rfl ?_
      refine j_iconst dL_law_1348 ?_
      refine j_iadd dL_law_1349 ?_
      refine j_sld h0 (w32_R _) dL_law_1350 (fun (v275 : Int) (hv275 : R32 v275) => ?_)
      refine j_callV (ci := 12) (As := [(0, v274), (0, v275)]) (st := [(0, v272)]) kc_X12_ash (c_X12_ash x2 v274 v275 S273 h2 hv274 hv275) rfl lm_L_167 ki_X12_ash ke_X12_ash rfl (Nat.le_of_ble_eq_true rfl) (Nat.le_trans (m := 109) (Nat.le_of_ble_eq_true rfl) hd0) dL_law_1351 (fun (v276 : Int) (S277 : jSt) (hv276 : R32 (v276)) => ?_)
      refine j_icmp_eq (tgt := 1585) hv272 hv276 dL_law_1354 rfl (fun _ => ?_) (fun _ => ?_)
      · exact p_f_L_law_b1585 hd0 k18 x0 x1 x2 x3 S277 h0 h1 h2 h3
      · refine j_iconst dL_law_1357 ?_
        exact j_zreturn jz0 dL_law_1358
    refine j_ite (fun hc36 => ?_) (fun hc36 => ?_)
    · refine j_tableIn (tgt := 1359) (off := 1326) (iand32_R _ _) dL_law_33 (by omega) (by omega) (by rw [hc36]; rfl) rfl ?_
      refine j_aload_n 1 dL_law_1359 rfl rfl ?_
      refine j_aload_n 0 dL_law_1360 rfl rfl ?_
      refine j_iload_n 3 dL_law_1361 rfl rfl ?_
      refine j_iconst dL_law_1362 ?_
      refine j_iadd dL_law_1363 ?_
      refine j_sld h0 (w32_R _) dL_law_1364 (fun (v278 : Int) (hv278 : R32 v278) => ?_)
      refine j_aload_n 0 dL_law_1365 rfl rfl ?_
      refine j_iload_n 3 dL_law_1366 rfl rfl ?_
      refine j_iconst dL_law_1367 ?_
      refine j_iadd dL_law_1368 ?_
      refine j_sld h0 (w32_R _) dL_law_1369 (fun (v279 : Int) (hv279 : R32 v279) => ?_)
      refine j_aload_n 0 dL_law_1370 rfl rfl ?_
      refine j_iload_n 3 dL_law_1371 rfl rfl ?_
      refine j_iconst dL_law_1372 ?_
      refine j_iadd dL_law_1373 ?_
      refine j_sld h0 (w32_R _) dL_law_1374 (fun (v280 : Int) (hv280 : R32 v280) => ?_)
      refine j_if_eq (tgt := 1382) hv280 dL_law_1375 rfl (fun _ => ?_) (fun _ => ?_)
      · refine j_iconst dL_law_1382 ?_
        exact p_f_L_law_b1383 hd0 k18 x0 x1 x2 x3 x1 v278 v279 0 S h0 h1 h2 h3 h1 hv278 hv279 jz0
      · refine j_iconst dL_law_1378 ?_
        refine j_goto (tgt := 1383) dL_law_1379 rfl ?_
        exact p_f_L_law_b1383 hd0 k18 x0 x1 x2 x3 x1 v278 v279 1 S h0 h1 h2 h3 h1 hv278 hv279 jz1
    refine j_ite (fun hc37 => ?_) (fun hc37 => ?_)
    · refine j_tableIn (tgt := 1418) (off := 1385) (iand32_R _ _) dL_law_33 (by omega) (by omega) (by rw [hc37]; rfl) rfl ?_
      refine j_aload_n 1 dL_law_1418 rfl rfl ?_
      refine j_aload_n 0 dL_law_1419 rfl rfl ?_
      refine j_iload_n 3 dL_law_1420 rfl rfl ?_
      refine j_iconst dL_law_1421 ?_
      refine j_iadd dL_law_1422 ?_
      refine j_sld h0 (w32_R _) dL_law_1423 (fun (v288 : Int) (hv288 : R32 v288) => ?_)
      refine j_aload_n 0 dL_law_1424 rfl rfl ?_
      refine j_iload_n 3 dL_law_1425 rfl rfl ?_
      refine j_iconst dL_law_1426 ?_
      refine j_iadd dL_law_1427 ?_
      refine j_sld h0 (w32_R _) dL_law_1428 (fun (v289 : Int) (hv289 : R32 v289) => ?_)
      refine j_callV (ci := 11) (As := [(0, v288), (0, v289)]) (st := []) kc_X11_said (c_X11_said x1 v288 v289 S h1 hv288 hv289) rfl lm_L_173 ki_X11_said ke_X11_said rfl (Nat.le_of_ble_eq_true rfl) (Nat.le_trans (m := 109) (Nat.le_of_ble_eq_true rfl) hd0) dL_law_1429 (fun (v290 : Int) (S291 : jSt) (hv290 : R32 (v290)) => ?_)
      refine j_aload_n 2 dL_law_1432 rfl rfl ?_
      refine j_aload_n 0 dL_law_1433 rfl rfl ?_
      refine j_iload_n 3 dL_law_1434 rfl rfl ?_
      refine j_iconst dL_law_1435 ?_
      refine j_iadd dL_law_1436 ?_
      refine j_sld h0 (w32_R _) dL_law_1437 (fun (v292 : Int) (hv292 : R32 v292) => ?_)
      refine j_aload_n 0 dL_law_1438 rfl rfl ?_
      refine j_iload_n 3 dL_law_1439 rfl rfl ?_
      refine j_iconst dL_law_1440 ?_
      refine j_iadd dL_law_1441 ?_
      refine j_sld h0 (w32_R _) dL_law_1442 (fun (v293 : Int) (hv293 : R32 v293) => ?_)
      refine j_callV (ci := 12) (As := [(0, v292), (0, v293)]) (st := [(0, v290)]) kc_X12_said (c_X12_said x2 v292 v293 S291 h2 hv292 hv293) rfl lm_L_176 ki_X12_said ke_X12_said rfl (Nat.le_of_ble_eq_true rfl) (Nat.le_trans (m := 109) (Nat.le_of_ble_eq_true rfl) hd0) dL_law_1443 (fun (v294 : Int) (S295 : jSt) (hv294 : R32 (v294)) => ?_)
      refine j_icmp_eq (tgt := 1585) hv290 hv294 dL_law_1446 rfl (fun _ => ?_) (fun _ => ?_)
      · exact p_f_L_law_b1585 hd0 k18 x0 x1 x2 x3 S295 h0 h1 h2 h3
      · refine j_iconst dL_law_1449 ?_
        exact j_zreturn jz0 dL_law_1450
    refine j_ite (fun hc38 => ?_) (fun hc38 => ?_)
    · refine j_tableIn (tgt := 1451) (off := 1418) (iand32_R _ _) dL_law_33 (by omega) (by omega) (by rw [hc38]; rfl) rfl ?_
      refine j_aload_n 1 dL_law_1451 rfl rfl ?_
      refine j_callV (ci := 11) (As := []) (st := []) kc_X11_whose (c_X11_whose x1 S h1) rfl lm_L_177 ki_X11_whose ke_X11_whose rfl (Nat.le_of_ble_eq_true rfl) (Nat.le_trans (m := 109) (Nat.le_of_ble_eq_true rfl) hd0) dL_law_1452 (fun (v296 : Int) (S297 : jSt) (hv296 : R32 (v296)) => ?_)
      refine j_aload_n 2 dL_law_1455 rfl rfl ?_
      refine j_callV (ci := 12) (As := []) (st := [(0, v296)]) kc_X12_whose (c_X12_whose x2 S297 h2) rfl lm_L_180 ki_X12_whose ke_X12_whose rfl (Nat.le_of_ble_eq_true rfl) (Nat.le_trans (m := 109) (Nat.le_of_ble_eq_true rfl) hd0) dL_law_1456 (fun (v298 : Int) (S299 : jSt) (hv298 : R32 (v298)) => ?_)
      refine j_icmp_eq (tgt := 1585) hv296 hv298 dL_law_1459 rfl (fun _ => ?_) (fun _ => ?_)
      · exact p_f_L_law_b1585 hd0 k18 x0 x1 x2 x3 S299 h0 h1 h2 h3
      · refine j_iconst dL_law_1462 ?_
        exact j_zreturn jz0 dL_law_1463
    refine j_ite (fun hc39 => ?_) (fun hc39 => ?_)
    · refine j_tableIn (tgt := 1464) (off := 1431) (iand32_R _ _) dL_law_33 (by omega) (by omega) (by rw [hc39]; rfl) rfl ?_
      refine j_aload_n 1 dL_law_1464 rfl rfl ?_
      refine j_callV (ci := 11) (As := []) (st := []) kc_X11_dearest (c_X11_dearest x1 S h1) rfl lm_L_181 ki_X11_dearest ke_X11_dearest rfl (Nat.le_of_ble_eq_true rfl) (Nat.le_trans (m := 109) (Nat.le_of_ble_eq_true rfl) hd0) dL_law_1465 (fun (v300 : Int) (S301 : jSt) (hv300 : R32 (v300)) => ?_)
      refine j_aload_n 2 dL_law_1468 rfl rfl ?_
      refine j_callV (ci := 12) (As := []) (st := [(0, v300)]) kc_X12_dearest (c_X12_dearest x2 S301 h2) rfl lm_L_184 ki_X12_dearest ke_X12_dearest rfl (Nat.le_of_ble_eq_true rfl) (Nat.le_trans (m := 109) (Nat.le_of_ble_eq_true rfl) hd0) dL_law_1469 (fun (v302 : Int) (S303 : jSt) (hv302 : R32 (v302)) => ?_)
      refine j_icmp_eq (tgt := 1585) hv300 hv302 dL_law_1472 rfl (fun _ => ?_) (fun _ => ?_)
      · exact p_f_L_law_b1585 hd0 k18 x0 x1 x2 x3 S303 h0 h1 h2 h3
      · refine j_iconst dL_law_1475 ?_
        exact j_zreturn jz0 dL_law_1476
    refine j_ite (fun hc40 => ?_) (fun hc40 => ?_)
    · refine j_tableIn (tgt := 1477) (off := 1444) (iand32_R _ _) dL_law_33 (by omega) (by omega) (by rw [hc40]; rfl) rfl ?_
      refine j_aload_n 1 dL_law_1477 rfl rfl ?_
      refine j_aload_n 0 dL_law_1478 rfl rfl ?_
      refine j_iload_n 3 dL_law_1479 rfl rfl ?_
      refine j_iconst dL_law_1480 ?_
      refine j_iadd dL_law_1481 ?_
      refine j_sld h0 (w32_R _) dL_law_1482 (fun (v304 : Int) (hv304 : R32 v304) => ?_)
      refine j_callV (ci := 11) (As := [(0, v304)]) (st := []) kc_X11_left (c_X11_left x1 v304 S h1 hv304) rfl lm_L_185 ki_X11_left ke_X11_left rfl (Nat.le_of_ble_eq_true rfl) (Nat.le_trans (m := 109) (Nat.le_of_ble_eq_true rfl) hd0) dL_law_1483 (fun (v305 : Int) (S306 : jSt) (hv305 : R32 (v305)) => ?_)
      refine j_aload_n 2 dL_law_1486 rfl rfl ?_
      refine j_aload_n 0 dL_law_1487 rfl rfl ?_
      refine j_iload_n 3 dL_law_1488 rfl rfl ?_
      refine j_iconst dL_law_1489 ?_
      refine j_iadd dL_law_1490 ?_
      refine j_sld h0 (w32_R _) dL_law_1491 (fun (v307 : Int) (hv307 : R32 v307) => ?_)
      refine j_callV (ci := 12) (As := [(0, v307)]) (st := [(0, v305)]) kc_X12_left (c_X12_left x2 v307 S306 h2 hv307) rfl lm_L_188 ki_X12_left ke_X12_left rfl (Nat.le_of_ble_eq_true rfl) (Nat.le_trans (m := 109) (Nat.le_of_ble_eq_true rfl) hd0) dL_law_1492 (fun (v308 : Int) (S309 : jSt) (hv308 : R32 (v308)) => ?_)
      refine j_icmp_eq (tgt := 1585) hv305 hv308 dL_law_1495 rfl (fun _ => ?_) (fun _ => ?_)
      · exact p_f_L_law_b1585 hd0 k18 x0 x1 x2 x3 S309 h0 h1 h2 h3
      · refine j_iconst dL_law_1498 ?_
        exact j_zreturn jz0 dL_law_1499
    refine j_ite (fun hc41 => ?_) (fun hc41 => ?_)
    · refine j_tableIn (tgt := 1500) (off := 1467) (iand32_R _ _) dL_law_33 (by omega) (by omega) (by rw [hc41]; rfl) rfl ?_
      refine j_aload_n 1 dL_law_1500 rfl rfl ?_
      refine j_aload_n 0 dL_law_1501 rfl rfl ?_
      refine j_iload_n 3 dL_law_1502 rfl rfl ?_
      refine j_iconst dL_law_1503 ?_
      refine j_iadd dL_law_1504 ?_
      refine j_sld h0 (w32_R _) dL_law_1505 (fun (v310 : Int) (hv310 : R32 v310) => ?_)
      refine j_callV (ci := 11) (As := [(0, v310)]) (st := []) kc_X11_ledger (c_X11_ledger x1 v310 S h1 hv310) rfl lm_L_189 ki_X11_ledger ke_X11_ledger rfl (Nat.le_of_ble_eq_true rfl) (Nat.le_trans (m := 109) (Nat.le_of_ble_eq_true rfl) hd0) dL_law_1506 (fun (v311 : Int) (S312 : jSt) (hv311 : R32 (v311)) => ?_)
      refine j_aload_n 2 dL_law_1509 rfl rfl ?_
      refine j_aload_n 0 dL_law_1510 rfl rfl ?_
      refine j_iload_n 3 dL_law_1511 rfl rfl ?_
      refine j_iconst dL_law_1512 ?_
      refine j_iadd dL_law_1513 ?_
      refine j_sld h0 (w32_R _) dL_law_1514 (fun (v313 : Int) (hv313 : R32 v313) => ?_)
      refine j_callV (ci := 12) (As := [(0, v313)]) (st := [(0, v311)]) kc_X12_ledger (c_X12_ledger x2 v313 S312 h2 hv313) rfl lm_L_192 ki_X12_ledger ke_X12_ledger rfl (Nat.le_of_ble_eq_true rfl) (Nat.le_trans (m := 109) (Nat.le_of_ble_eq_true rfl) hd0) dL_law_1515 (fun (v314 : Int) (S315 : jSt) (hv314 : R32 (v314)) => ?_)
      refine j_icmp_eq (tgt := 1585) hv311 hv314 dL_law_1518 rfl (fun _ => ?_) (fun _ => ?_)
      · exact p_f_L_law_b1585 hd0 k18 x0 x1 x2 x3 S315 h0 h1 h2 h3
      · refine j_iconst dL_law_1521 ?_
        exact j_zreturn jz0 dL_law_1522
    refine j_ite (fun hc42 => ?_) (fun hc42 => ?_)
    · refine j_tableIn (tgt := 1523) (off := 1490) (iand32_R _ _) dL_law_33 (by omega) (by omega) (by rw [hc42]; rfl) rfl ?_
      refine j_aload_n 1 dL_law_1523 rfl rfl ?_
      refine j_callV (ci := 11) (As := []) (st := []) kc_X11_richest (c_X11_richest x1 S h1) rfl lm_L_193 ki_X11_richest ke_X11_richest rfl (Nat.le_of_ble_eq_true rfl) (Nat.le_trans (m := 109) (Nat.le_of_ble_eq_true rfl) hd0) dL_law_1524 (fun (v316 : Int) (S317 : jSt) (hv316 : R32 (v316)) => ?_)
      refine j_aload_n 2 dL_law_1527 rfl rfl ?_
      refine j_callV (ci := 12) (As := []) (st := [(0, v316)]) kc_X12_richest (c_X12_richest x2 S317 h2) rfl lm_L_196 ki_X12_richest ke_X12_richest rfl (Nat.le_of_ble_eq_true rfl) (Nat.le_trans (m := 109) (Nat.le_of_ble_eq_true rfl) hd0) dL_law_1528 (fun (v318 : Int) (S319 : jSt) (hv318 : R32 (v318)) => ?_)
      refine j_icmp_eq (tgt := 1585) hv316 hv318 dL_law_1531 rfl (fun _ => ?_) (fun _ => ?_)
      · exact p_f_L_law_b1585 hd0 k18 x0 x1 x2 x3 S319 h0 h1 h2 h3
      · refine j_iconst dL_law_1534 ?_
        exact j_zreturn jz0 dL_law_1535
    refine j_ite (fun hc43 => ?_) (fun hc43 => ?_)
    · refine j_tableIn (tgt := 1536) (off := 1503) (iand32_R _ _) dL_law_33 (by omega) (by omega) (by rw [hc43]; rfl) rfl ?_
      refine j_aload_n 1 dL_law_1536 rfl rfl ?_
      refine j_callV (ci := 11) (As := []) (st := []) kc_X11_image (c_X11_image x1 S h1) rfl lm_L_197 ki_X11_image ke_X11_image rfl (Nat.le_of_ble_eq_true rfl) (Nat.le_trans (m := 109) (Nat.le_of_ble_eq_true rfl) hd0) dL_law_1537 (fun (v320 : Int) (S321 : jSt) (hv320 : R32 (v320)) => ?_)
      refine j_aload_n 2 dL_law_1540 rfl rfl ?_
      refine j_callV (ci := 12) (As := []) (st := [(0, v320)]) kc_X12_image (c_X12_image x2 S321 h2) rfl lm_L_200 ki_X12_image ke_X12_image rfl (Nat.le_of_ble_eq_true rfl) (Nat.le_trans (m := 109) (Nat.le_of_ble_eq_true rfl) hd0) dL_law_1541 (fun (v322 : Int) (S323 : jSt) (hv322 : R32 (v322)) => ?_)
      refine j_icmp_eq (tgt := 1585) hv320 hv322 dL_law_1544 rfl (fun _ => ?_) (fun _ => ?_)
      · exact p_f_L_law_b1585 hd0 k18 x0 x1 x2 x3 S323 h0 h1 h2 h3
      · refine j_iconst dL_law_1547 ?_
        exact j_zreturn jz0 dL_law_1548
    refine j_ite (fun hc44 => ?_) (fun hc44 => ?_)
    · refine j_tableIn (tgt := 1549) (off := 1516) (iand32_R _ _) dL_law_33 (by omega) (by omega) (by rw [hc44]; rfl) rfl ?_
      refine j_aload_n 1 dL_law_1549 rfl rfl ?_
      refine j_callV (ci := 11) (As := []) (st := []) kc_X11_back (c_X11_back x1 S h1) rfl lm_L_201 ki_X11_back ke_X11_back rfl (Nat.le_of_ble_eq_true rfl) (Nat.le_trans (m := 109) (Nat.le_of_ble_eq_true rfl) hd0) dL_law_1550 (fun (v324 : Int) (S325 : jSt) (hv324 : R32 (v324)) => ?_)
      refine j_aload_n 2 dL_law_1553 rfl rfl ?_
      refine j_callV (ci := 12) (As := []) (st := [(0, v324)]) kc_X12_back (c_X12_back x2 S325 h2) rfl lm_L_204 ki_X12_back ke_X12_back rfl (Nat.le_of_ble_eq_true rfl) (Nat.le_trans (m := 109) (Nat.le_of_ble_eq_true rfl) hd0) dL_law_1554 (fun (v326 : Int) (S327 : jSt) (hv326 : R32 (v326)) => ?_)
      refine j_icmp_eq (tgt := 1585) hv324 hv326 dL_law_1557 rfl (fun _ => ?_) (fun _ => ?_)
      · exact p_f_L_law_b1585 hd0 k18 x0 x1 x2 x3 S327 h0 h1 h2 h3
      · refine j_iconst dL_law_1560 ?_
        exact j_zreturn jz0 dL_law_1561
    refine j_ite (fun hc45 => ?_) (fun hc45 => ?_)
    · refine j_tableIn (tgt := 1562) (off := 1529) (iand32_R _ _) dL_law_33 (by omega) (by omega) (by rw [hc45]; rfl) rfl ?_
      refine j_aload_n 1 dL_law_1562 rfl rfl ?_
      refine j_aload_n 0 dL_law_1563 rfl rfl ?_
      refine j_iload_n 3 dL_law_1564 rfl rfl ?_
      refine j_iconst dL_law_1565 ?_
      refine j_iadd dL_law_1566 ?_
      refine j_sld h0 (w32_R _) dL_law_1567 (fun (v328 : Int) (hv328 : R32 v328) => ?_)
      refine j_callV (ci := 11) (As := [(0, v328)]) (st := []) kc_X11_about (c_X11_about x1 v328 S h1 hv328) rfl lm_L_205 ki_X11_about ke_X11_about rfl (Nat.le_of_ble_eq_true rfl) (Nat.le_trans (m := 109) (Nat.le_of_ble_eq_true rfl) hd0) dL_law_1568 (fun (v329 : Int) (S330 : jSt) (hv329 : R32 (v329)) => ?_)
      refine j_aload_n 2 dL_law_1571 rfl rfl ?_
      refine j_aload_n 0 dL_law_1572 rfl rfl ?_
      refine j_iload_n 3 dL_law_1573 rfl rfl ?_
      refine j_iconst dL_law_1574 ?_
      refine j_iadd dL_law_1575 ?_
      refine j_sld h0 (w32_R _) dL_law_1576 (fun (v331 : Int) (hv331 : R32 v331) => ?_)
      refine j_callV (ci := 12) (As := [(0, v331)]) (st := [(0, v329)]) kc_X12_about (c_X12_about x2 v331 S330 h2 hv331) rfl lm_L_208 ki_X12_about ke_X12_about rfl (Nat.le_of_ble_eq_true rfl) (Nat.le_trans (m := 109) (Nat.le_of_ble_eq_true rfl) hd0) dL_law_1577 (fun (v332 : Int) (S333 : jSt) (hv332 : R32 (v332)) => ?_)
      refine j_icmp_eq (tgt := 1585) hv329 hv332 dL_law_1580 rfl (fun _ => ?_) (fun _ => ?_)
      · exact p_f_L_law_b1585 hd0 k18 x0 x1 x2 x3 S333 h0 h1 h2 h3
      · refine j_iconst dL_law_1583 ?_
        exact j_zreturn jz0 dL_law_1584
    refine j_tableOut (tgt := 1585) (iand32_R _ _) dL_law_33 (by omega) rfl ?_
    exact p_f_L_law_b1585 hd0 k18 x0 x1 x2 x3 S h0 h1 h2 h3
def f_L_law_b18 (L : Nat) (xs : Nat → Int32) : Int → Int → Int → Int → jSt → Option (Int × jSt) := jrep (β := Int → Int → Int → Int → jSt → Option (Int × jSt)) (fun _ _ _ _ _ => none) (fun r => f_L_law_b18B L xs r) jN
theorem p_f_L_law_b18 {G : jG} {d : Nat} {S0 : jSt} (hd0 : 109 ≤ d) : ∀ (x0 : Int) (x1 : Int) (x2 : Int) (x3 : Int) (S : jSt), ((x0) = ((G.2.2.2.2.2.2.2.1 : Nat) : Int)) → (0 ≤ (x1)) → (0 ≤ (x2)) → (R32 (x3)) → J G yL_law cL_law 4 (some .boolean) d S0 18 [(0, 2, x0), (1, 2, x1), (2, 2, x2), (3, 0, x3)] [] S (f_L_law_b18 G.2.2.2.2.2.2.2.2.1 G.2.2.2.2.2.2.2.2.2 x0 x1 x2 x3 S) :=
  jrep_ind (P := fun (r : Int → Int → Int → Int → jSt → Option (Int × jSt)) => ∀ (x0 : Int) (x1 : Int) (x2 : Int) (x3 : Int) (S : jSt), ((x0) = ((G.2.2.2.2.2.2.2.1 : Nat) : Int)) → (0 ≤ (x1)) → (0 ≤ (x2)) → (R32 (x3)) → J G yL_law cL_law 4 (some .boolean) d S0 18 [(0, 2, x0), (1, 2, x1), (2, 2, x2), (3, 0, x3)] [] S (r x0 x1 x2 x3 S)) (by intros; exact j_none) (fun r k => p_f_L_law_b18B hd0 k) jN
def f_L_law (L : Nat) (xs : Nat → Int32) (a0 : Int) (S : jSt) : Option (Int × jSt) :=
  fnew S 11 (fun v1 S2 => fcall (f_X11_init v1 S2) (fun v3 S4 => fnew S4 12 (fun v5 S6 => fcall (f_X12_init v5 S6) (fun v7 S8 => f_L_law_b18 L xs a0 v1 v5 0 S8))))
theorem e_L_law {G : jG} {d : Nat} {S0 : jSt} (hd0 : 109 ≤ d) (a0 : Int) (S : jSt) (h0 : (a0) = ((G.2.2.2.2.2.2.2.1 : Nat) : Int)) : J G yL_law cL_law 4 (some .boolean) d S0 0 [(0, 2, a0)] [] S (f_L_law G.2.2.2.2.2.2.2.2.1 G.2.2.2.2.2.2.2.2.2 a0 S) := by
  unfold f_L_law
  refine j_new (ci := 11) rfl in_X11 rfl tyX11_ok rfl pl_X11 cl_L_7 is_X11 iz_X11 dL_law_0 (fun (v1 : Int) (S2 : jSt) hv1 => ?_)
  refine j_dup dL_law_3 (fun h => nomatch h) ?_
  refine j_callI (As := []) (st := [(2, v1)]) kc_X11_init (c_X11_init v1 S2 hv1) lm_L_9 ki_X11_init rfl rfl (Nat.le_of_ble_eq_true rfl) (Nat.le_trans (m := 109) (Nat.le_of_ble_eq_true rfl) hd0) dL_law_4 (fun v3 S4 => ?_)
  refine j_astore_n (lv' := [(1, 2, v1), (0, 2, a0)]) dL_law_7 rfl (Nat.le_of_ble_eq_true rfl) rfl ?_
  refine j_new (ci := 12) rfl in_X12 rfl tyX12_ok rfl pl_X12 cl_L_10 is_X12 iz_X12 dL_law_8 (fun (v5 : Int) (S6 : jSt) hv5 => ?_)
  refine j_dup dL_law_11 (fun h => nomatch h) ?_
  refine j_callI (As := []) (st := [(2, v5)]) kc_X12_init (c_X12_init v5 S6 hv5) lm_L_12 ki_X12_init rfl rfl (Nat.le_of_ble_eq_true rfl) (Nat.le_trans (m := 109) (Nat.le_of_ble_eq_true rfl) hd0) dL_law_12 (fun v7 S8 => ?_)
  refine j_astore_n (lv' := [(2, 2, v5), (1, 2, v1), (0, 2, a0)]) dL_law_15 rfl (Nat.le_of_ble_eq_true rfl) rfl ?_
  refine j_iconst dL_law_16 ?_
  refine j_istore_n (lv' := [(3, 0, 0), (2, 2, v5), (1, 2, v1), (0, 2, a0)]) dL_law_17 rfl (Nat.le_of_ble_eq_true rfl) rfl ?_
  refine j_sub [3, 2, 1, 0] rfl ?_
  exact p_f_L_law_b18 hd0 a0 v1 v5 0 S8 h0 hv1 hv5 (jZ_R jz0)
