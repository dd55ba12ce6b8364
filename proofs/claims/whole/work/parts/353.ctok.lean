-- THE CLASS' TOKENS
def wtx : List Int := [98, 105, 100, 115, 32, 114, 101, 115, 101, 114, 118, 101, 32, 119, 97, 114, 109, 115, 32, 98, 105, 100, 100, 101, 114, 32, 115, 101, 108, 108, 32, 99, 97, 114, 114, 121, 32, 98, 117, 114, 110, 32, 98, 117, 121, 32, 108, 111, 116, 32, 119, 97, 110, 116, 32, 119, 101, 101, 107, 32, 119, 111, 114, 116, 104, 32, 119, 101, 105, 103, 104, 116, 32, 102, 108, 111, 111, 114, 32, 112, 117, 114, 115, 101, 32, 119, 104, 111, 32, 104, 97, 115, 32, 111, 102, 32, 98, 121, 32, 102, 111, 114, 32, 116, 104, 101, 110, 32, 101, 108, 115, 101, 32, 101, 110, 100, 32, 105, 102, 32, 110, 111, 116, 32, 101, 118, 101, 110, 32, 119, 111, 114, 116, 104, 115, 32, 111, 114, 32, 97, 110, 100, 32]
def wt (i : Nat) : Int := wtx.getD i 0
def kof : Nat → Nat
  | 0 => 0
  | i + 1 => if wt i = 32 then kof i + 1 else kof i
def sof : Nat → Nat
  | 0 => 0
  | i + 1 => if wt i = 32 then i + 1 else sof i
def wen : List Nat := [4, 12, 18, 25, 30, 36, 41, 45, 49, 54, 59, 65, 72, 78, 84, 88, 92, 95, 98, 102, 107, 112, 116, 119, 123, 128, 135, 138, 142]
theorem wt_c : ∀ i, i < 143 → jch ((i : Nat) : Int) = wt i := by decide +kernel
theorem wt_1 : ∀ i, i < 143 → wt i = 32 → kof i < 29 ∧ wvl wt (sof i) (i - sof i) = wcs.getD (kof i) 0 := by decide +kernel
theorem wt_3 : ∀ i, i < 143 → ∀ j, j < i → sof i ≤ j → 65 ≤ wt j ∧ wt j ≤ 122 := by decide +kernel
theorem wt_4 : ∀ k, k < 29 → wen.getD k 0 < 143 ∧ wt (wen.getD k 0) = 32 ∧ kof (wen.getD k 0) = k := by decide +kernel
theorem sof_b : ∀ i, sof i ≤ i
  | 0 => Nat.le_refl _
  | i + 1 => by
    have := sof_b i
    rw [sof]
    split <;> omega
theorem s_let (c : Int) (S : jSt) : f_X9_isLetter c S = some (if isLetP c = true then 1 else 0, S) := by
  unfold f_X9_isLetter f_X9_isLetter_b22 f_X9_isLetter_b27 isLetP
  simp only [s_within, fcall_some, if_b01, decide_eq_true_eq]
  (repeat' split) <;> first | rfl | (exfalso; omega)
theorem s_dig (c : Int) (S : jSt) : f_X9_isDigit c S = some (if isDigP c = true then 1 else 0, S) := by
  unfold f_X9_isDigit isDigP
  simp only [s_within, fcall_some, decide_eq_true_eq]
  rfl
theorem s_sgnK (c t : Int) (S : jSt) : f_X9_signKind c t S = some (((sgk c (decide (t ≠ 0)) : Nat) : Int), S) := by
  unfold f_X9_signKind f_X9_signKind_b179 f_X9_signKind_b139 f_X9_signKind_b151
  by_cases h : 35 ≤ c ∧ c ≤ 62
  · have hc : c = 35 ∨ c = 36 ∨ c = 37 ∨ c = 38 ∨ c = 39 ∨ c = 40 ∨ c = 41 ∨ c = 42 ∨ c = 43 ∨ c = 44 ∨ c = 45 ∨ c = 46 ∨ c = 47 ∨ c = 48 ∨ c = 49 ∨ c = 50 ∨ c = 51 ∨ c = 52 ∨ c = 53 ∨ c = 54 ∨ c = 55 ∨ c = 56 ∨ c = 57 ∨ c = 58 ∨ c = 59 ∨ c = 60 ∨ c = 61 ∨ c = 62 := by omega
    by_cases ht : t = 0
    · subst ht
      rcases hc with rfl | rfl | rfl | rfl | rfl | rfl | rfl | rfl | rfl | rfl | rfl | rfl | rfl | rfl | rfl | rfl | rfl | rfl | rfl | rfl | rfl | rfl | rfl | rfl | rfl | rfl | rfl | rfl <;> rfl
    · rw [show decide (t ≠ 0) = true from decide_eq_true ht]
      rcases hc with rfl | rfl | rfl | rfl | rfl | rfl | rfl | rfl | rfl | rfl | rfl | rfl | rfl | rfl | rfl | rfl | rfl | rfl | rfl | rfl | rfl | rfl | rfl | rfl | rfl | rfl | rfl | rfl <;> first | rfl | (show (if t = 0 then some (31, S) else some (32, S)) = _; rw [if_neg ht]; rfl) | (show (if t = 0 then some (33, S) else some (34, S)) = _; rw [if_neg ht]; rfl)
  · have e : sgk c (decide (t ≠ 0)) = 0 := by
      unfold sgk
      repeat rw [if_neg (by omega)]
    rw [e]
    repeat rw [if_neg (by omega)]
    rfl
def TPc (C : Nat → Nat → Int) (B : Nat → Int) (L : Nat) : Prop := C 404 = B ∧ C 403 0 = (L : Int) ∧ L ≤ 300 ∧ ∀ i, i < L → 0 ≤ B i ∧ B i ≤ 255
section CT1
variable {x : Nat} {S : jSt} {C : Nat → Nat → Int} {B : Nat → Int} {L : Nat}
theorem c_let14 (I : CI x S C) (t : TPc C B L) : ∀ (n q : Nat), q < L → L - q ≤ n → jrep (fun _ _ _ => none) (fun r => f_X9_lastOf_b14B r) n ((x + 403 : Nat) : Int) (q : Int) (cS x S C) = some (((rE isLetP B L (q + 1) : Nat) : Int) - 1, cS x S C) := by
  obtain ⟨t1, t2, t3, t4⟩ := t
  intro n
  induction n with
  | zero => intro q h h2; omega
  | succ n ih =>
    intro q hq hn
    rw [jrep_s]
    unfold f_X9_lastOf_b14B f_X9_lastOf_b134
    rw [cg_403 I, t2, w32_of (by omega) (by omega)]
    by_cases h : q + 1 < L
    · rw [if_neg (by omega), cr403_2 I, al_404 I (by omega) (by omega), t1, s_let, fcall_some, show ((q : Int) + 1).toNat = q + 1 by omega]
      by_cases hl : isLetP (B (q + 1)) = true
      · rw [if_pos hl, if_neg (by decide), flet_eq, zs, rE_1 h hl]
        exact ih (q + 1) h (by omega)
      · rw [if_neg hl, if_pos rfl, rE_0 (Or.inr (by simpa using hl))]
        congr 2
        omega
    · rw [if_pos (by omega), rE_0 (Or.inl (by omega))]
      congr 2
      omega
theorem c_dig56 (I : CI x S C) (t : TPc C B L) : ∀ (n q : Nat), q < L → L - q ≤ n → jrep (fun _ _ _ => none) (fun r => f_X9_lastOf_b56B r) n ((x + 403 : Nat) : Int) (q : Int) (cS x S C) = some (((rE isDigP B L (q + 1) : Nat) : Int) - 1, cS x S C) := by
  obtain ⟨t1, t2, t3, t4⟩ := t
  intro n
  induction n with
  | zero => intro q h h2; omega
  | succ n ih =>
    intro q hq hn
    rw [jrep_s]
    unfold f_X9_lastOf_b56B f_X9_lastOf_b134
    rw [cg_403 I, t2, w32_of (by omega) (by omega)]
    by_cases h : q + 1 < L
    · rw [if_neg (by omega), cr403_2 I, al_404 I (by omega) (by omega), t1, s_dig, fcall_some, show ((q : Int) + 1).toNat = q + 1 by omega]
      by_cases hl : isDigP (B (q + 1)) = true
      · rw [if_pos hl, if_neg (by decide), flet_eq, zs, rE_1 h hl]
        exact ih (q + 1) h (by omega)
      · rw [if_neg hl, if_pos rfl, rE_0 (Or.inr (by simpa using hl))]
        congr 2
        omega
    · rw [if_pos (by omega), rE_0 (Or.inl (by omega))]
      congr 2
      omega
theorem c_lastOf (I : CI x S C) (t : TPc C B L) {p : Nat} (hp : p < L) : f_X9_lastOf ((x + 403 : Nat) : Int) (p : Int) (cS x S C) = some (((tnd B L p : Nat) : Int) - 1, cS x S C) := by
  have t' := t
  obtain ⟨t1, t2, t3, t4⟩ := t
  unfold f_X9_lastOf f_X9_lastOf_b14 f_X9_lastOf_b56 f_X9_lastOf_b108 f_X9_lastOf_b134
  have al : ∀ f, fald (cS x S C) ((x + 404 : Nat) : Int) (p : Int) 1 f = f (B p) := fun f => by rw [al_404 I (by omega) (by omega), toNat_z, t1]
  rw [cr403_2 I, al, s_let, fcall_some]
  have eL : ¬ L ≤ p := by omega
  by_cases hl : isLetP (B p) = true
  · rw [if_pos hl, if_neg (by decide), c_let14 I t' jN p hp (by unfold jN; omega)]
    unfold tnd
    rw [if_neg eL, if_pos hl, rE_1 hp hl]
  rw [if_neg hl, if_pos rfl, cr403_2 I, al, s_dig, fcall_some]
  by_cases hd : isDigP (B p) = true
  · rw [if_pos hd, if_neg (by decide), c_dig56 I t' jN p hp (by unfold jN; omega)]
    unfold tnd
    rw [if_neg eL, if_neg hl, if_pos hd, rE_1 hp hd]
  rw [if_neg hd, if_pos rfl, cr403_2 I, al]
  have e1 : ¬ ((B p = 60 ∨ B p = 62) ∧ p + 1 < L ∧ B (p + 1) = 61) → tnd B L p = p + 1 := fun h => by
    unfold tnd
    rw [if_neg eL, if_neg hl, if_neg hd, if_neg h]
  have two : B p = 60 ∨ B p = 62 → fget (cS x S C) ((x + 403 : Nat) : Int) 9 0 (fun v11 => if v11 ≤ (w32 ((p : Int) + 1)) then some ((p : Int), cS x S C) else fgetr (cS x S C) ((x + 403 : Nat) : Int) 9 2 (fun v12 => fald (cS x S C) v12 (w32 ((p : Int) + 1)) 1 (fun v13 => if v13 = 61 then flet (w32 ((p : Int) + 1)) (fun v14 => some (v14, cS x S C)) else some ((p : Int), cS x S C)))) = some (((tnd B L p : Nat) : Int) - 1, cS x S C) := fun hc => by
    rw [cg_403 I, t2, w32_of (by omega) (by omega)]
    by_cases h : p + 1 < L
    · rw [if_neg (by omega), cr403_2 I, al_404 I (by omega) (by omega), t1, show ((p : Int) + 1).toNat = p + 1 by omega]
      by_cases h2 : B (p + 1) = 61
      · rw [if_pos h2, flet_eq]
        unfold tnd
        rw [if_neg eL, if_neg hl, if_neg hd, if_pos ⟨hc, h, h2⟩]
        congr 2
        omega
      · rw [if_neg h2, e1 (fun q => h2 q.2.2)]
        congr 2
        omega
    · rw [if_pos (by omega), e1 (fun q => h q.2.1)]
      congr 2
      omega
  by_cases h60 : B p = 60
  · rw [if_pos h60]
    exact two (Or.inl h60)
  rw [if_neg h60, cr403_2 I, al]
  by_cases h62 : B p = 62
  · rw [if_pos h62]
    exact two (Or.inr h62)
  rw [if_neg h62, e1 (by omega)]
  congr 2
  omega
theorem c_numberIn (I : CI x S C) (t : TPc C B L) {p e : Nat} (hpe : p ≤ e) (he : e ≤ L) (hd : ∀ i, p ≤ i → i < e → 48 ≤ B i ∧ B i ≤ 57) : f_X9_numberIn ((x + 403 : Nat) : Int) (p : Int) (e : Int) (cS x S C) = some (cN B p (e - p), cS x S C) := by
  obtain ⟨t1, t2, t3, t4⟩ := t
  unfold f_X9_numberIn f_X9_numberIn_b5
  have key : ∀ (n q : Nat), p ≤ q → q ≤ e → e - q < n → jrep (fun _ _ _ _ _ => none) (fun r => f_X9_numberIn_b5B r) n ((x + 403 : Nat) : Int) (e : Int) (cN B p (q - p)) (q : Int) (cS x S C) = some (cN B p (e - p), cS x S C) := by
    intro n
    induction n with
    | zero => intro q _ _ h; omega
    | succ n ih =>
      intro q h1 h2 hn
      rw [jrep_s]
      unfold f_X9_numberIn_b5B
      by_cases h : e ≤ q
      · have : q = e := by omega
        subst this
        rw [if_pos (by omega)]
      · have cb := cN_b B p (q - p) (fun i hi => hd (p + i) (by omega) (by omega))
        have hb := hd q h1 (by omega)
        rw [if_neg (by omega), cr403_2 I, al_404 I (by omega) (by omega), toNat_z, t1]
        simp only [flet_eq]
        rw [w32_of (z := cN B p (q - p) * 10) (by omega) (by omega), w32_of (z := cN B p (q - p) * 10 + B q) (by omega) (by omega), w32_of (z := cN B p (q - p) * 10 + B q - 48) (by omega) (by omega), w32_of (by omega) (by omega), zs]
        have en : imin 10000 (cN B p (q - p) * 10 + B q - 48) = cN B p (q + 1 - p) := by
          rw [show q + 1 - p = (q - p) + 1 by omega, cN, show p + (q - p) = q by omega]
        rw [en]
        exact ih (q + 1) (by omega) (by omega) (by omega)
  have := key jN p (by omega) hpe (by unfold jN; omega)
  rw [Nat.sub_self] at this
  exact this
theorem c_isWord (I : CI x S C) (t : TPc C B L) {p s many : Nat} (hp : p + many ≤ L) (hs : s + many ≤ 143) : f_X9_isWord ((x + 403 : Nat) : Int) (s : Int) (p : Int) (many : Int) (cS x S C) = some (if ∀ i, i < many → B (p + i) = wt (s + i) then 1 else 0, cS x S C) := by
  obtain ⟨t1, t2, t3, t4⟩ := t
  unfold f_X9_isWord f_X9_isWord_b3
  have key : ∀ (n q : Nat), q ≤ many → many - q < n → (∀ i, i < q → B (p + i) = wt (s + i)) → jrep (fun _ _ _ _ _ _ => none) (fun r => f_X9_isWord_b3B r) n ((x + 403 : Nat) : Int) (s : Int) (p : Int) (many : Int) (q : Int) (cS x S C) = some (if ∀ i, i < many → B (p + i) = wt (s + i) then 1 else 0, cS x S C) := by
    intro n
    induction n with
    | zero => intro q _ h; omega
    | succ n ih =>
      intro q h1 hn hq
      rw [jrep_s]
      unfold f_X9_isWord_b3B f_J0_charAt_5068e
      by_cases h : many ≤ q
      · rw [if_pos (by omega), if_pos (fun i hi => hq i (by omega))]
      · rw [if_neg (by omega), w32_of (by omega) (by omega), if_pos (by omega), fcall_some, cr403_2 I, w32_of (by omega) (by omega), al_404 I (by omega) (by omega), t1, show (s : Int) + (q : Int) = ((s + q : Nat) : Int) by omega, wt_c (s + q) (by omega), show ((p : Int) + (q : Int)).toNat = p + q by omega]
        by_cases hc : wt (s + q) = B (p + q)
        · rw [if_pos hc, flet_eq, w32_of (by omega) (by omega), zs]
          exact ih (q + 1) (by omega) (by omega) (fun i hi => by
            by_cases e : i = q
            · rw [e]; exact hc.symm
            · exact hq i (by omega))
        · rw [if_neg hc, if_neg (fun z => hc (z q (by omega)).symm)]
  exact key jN 0 (by omega) (by unfold jN; omega) (fun i hi => by omega)
theorem c_wordKind (I : CI x S C) (t : TPc C B L) {p e : Nat} (hpe : p < e) (he : e ≤ L) (hl : ∀ i, p ≤ i → i < e → 65 ≤ B i ∧ B i ≤ 122) : f_X9_wordKind ((x + 403 : Nat) : Int) (p : Int) (e : Int) (cS x S C) = some (((wkv (wvl B p (e - p)) : Nat) : Int), cS x S C) := by
  have t3 := t.2.2.1
  unfold f_X9_wordKind f_X9_wordKind_b8
  have key : ∀ (n i : Nat), i ≤ 143 → 143 - i < n → (∀ i', i' < i → wt i' = 32 → wvl B p (e - p) ≠ wcs.getD (kof i') 0) → jrep (fun _ _ _ _ _ _ _ => none) (fun r => f_X9_wordKind_b8B r) n ((x + 403 : Nat) : Int) (p : Int) (e : Int) ((kof i + 1 : Nat) : Int) ((sof i : Nat) : Int) (i : Int) (cS x S C) = some (((wkv (wvl B p (e - p)) : Nat) : Int), cS x S C) := by
    intro n
    induction n with
    | zero => intro q _ h; omega
    | succ n ih =>
      intro i hi hn hq
      rw [jrep_s]
      unfold f_X9_wordKind_b8B f_X9_wordKind_b56 f_X9_wordKind_b65 f_J0_length_8abf5
      rw [fcall_some]
      by_cases h : 143 ≤ i
      · have ei : i = 143 := by omega
        rw [if_pos (by omega)]
        have w0 : wkv (wvl B p (e - p)) = 0 := by
          rcases wkl_b (wvl B p (e - p)) wcs 1 with h0 | ⟨h1, h2, h3⟩
          · exact h0
          · exfalso
            have e9 : wcs.length = 29 := rfl
            obtain ⟨q1, q2, q3⟩ := wt_4 (wkl wcs 1 (wvl B p (e - p)) - 1) (by omega)
            have := hq _ (by omega) q2
            rw [q3] at this
            exact this h3.symm
        rw [w0]
        rfl
      · have kb : kof i ≤ i := by
          have : ∀ k, kof k ≤ k := fun k => by
            induction k with
            | zero => exact Nat.le_refl _
            | succ k ihk => rw [kof]; split <;> omega
          exact this i
        have sb := sof_b i
        unfold f_J0_charAt_5068e
        rw [if_neg (by omega), if_pos (by omega), fcall_some, wt_c i (by omega)]
        by_cases hw : wt i = 32
        · obtain ⟨k29, wv⟩ := wt_1 i (by omega) hw
          have ek : kof (i + 1) = kof i + 1 := by rw [kof, if_pos hw]
          have es : sof (i + 1) = i + 1 := by rw [sof, if_pos hw]
          have go : wvl B p (e - p) ≠ wcs.getD (kof i) 0 → flet (w32 (((kof i + 1 : Nat) : Int) + 1)) (fun v8 => flet (w32 ((i : Int) + 1)) (fun v9 => flet (w32 ((i : Int) + 1)) (fun v7 => jrep (fun _ _ _ _ _ _ _ => none) (fun r => f_X9_wordKind_b8B r) n ((x + 403 : Nat) : Int) (p : Int) (e : Int) v8 v9 v7 (cS x S C)))) = some (((wkv (wvl B p (e - p)) : Nat) : Int), cS x S C) := fun hne => by
            simp only [flet_eq]
            rw [w32_of (by omega) (by omega), w32_of (by omega) (by omega)]
            have := ih (i + 1) (by omega) (by omega) (fun i' h1 h2 => by
              by_cases q : i' = i
              · rw [q]; exact hne
              · exact hq i' (by omega) h2)
            rw [ek, es] at this
            exact this
          rw [if_pos hw, w32_of (z := (i : Int) - ((sof i : Nat) : Int)) (by omega) (by omega), w32_of (z := (e : Int) - (p : Int)) (by omega) (by omega)]
          by_cases hlen : i - sof i = e - p
          · rw [if_pos (by omega), cv_403 I, show (e : Int) - (p : Int) = ((e - p : Nat) : Int) by omega, c_isWord I t (by omega) (by omega), fcall_some]
            by_cases hall : ∀ j, j < e - p → B (p + j) = wt (sof i + j)
            · rw [if_pos hall, if_neg (by decide)]
              have ev : wvl B p (e - p) = wcs.getD (kof i) 0 := by
                rw [← wv, hlen]
                have : ∀ k, k ≤ e - p → wvl B p k = wvl wt (sof i) k := fun k => by
                  induction k with
                  | zero => intro _; rfl
                  | succ k ihk => intro hk; rw [wvl, wvl, ihk (by omega), hall k (by omega)]
                exact this _ (Nat.le_refl _)
              have : wkv (wvl B p (e - p)) = kof i + 1 := (wkv_c _ (by omega) (by omega)).mpr (by rw [ev]; rfl)
              rw [this]
            · rw [if_neg hall, if_pos rfl]
              refine go (fun q => hall ?_)
              rw [← wv] at q
              exact (wvl_inj (B := B) (D := wt) (p := p) (s := sof i) (e - p) (i - sof i) (fun j hj => by have := hl (p + j) (by omega) (by omega); omega) (fun j hj => by have := wt_3 i (by omega) (sof i + j) (by omega) (by omega); omega) q).2
          · rw [if_neg (by omega)]
            refine go (fun q => hlen ?_)
            rw [← wv] at q
            exact ((wvl_inj (B := B) (D := wt) (p := p) (s := sof i) (e - p) (i - sof i) (fun j hj => by have := hl (p + j) (by omega) (by omega); omega) (fun j hj => by have := wt_3 i (by omega) (sof i + j) (by omega) (by omega); omega) q).1).symm
        · have ek : kof (i + 1) = kof i := by rw [kof, if_neg hw]
          have es : sof (i + 1) = sof i := by rw [sof, if_neg hw]
          rw [if_neg hw, flet_eq, w32_of (by omega) (by omega), zs]
          have := ih (i + 1) (by omega) (by omega) (fun i' h1 h2 => by
            by_cases q : i' = i
            · rw [q] at h2; exact absurd h2 hw
            · exact hq i' (by omega) h2)
          rw [ek, es] at this
          exact this
  exact key jN 0 (by omega) (by unfold jN; omega) (fun i' h1 => by omega)
end CT1
