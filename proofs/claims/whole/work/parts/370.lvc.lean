-- what lies beyond the class' own cells
section OU
variable {x N : Nat} {S : jSt} {C : Nat → Nat → Int} {p : Nat}
theorem gS_gO (hp : x + N ≤ p) (k : Nat) : jg (gS x N S C) (p : Int) k = S.2.2.2 p k := by
  unfold jg gS
  rw [Int.toNat_natCast]
  show (if x ≤ p ∧ p < x + N then C (p - x) else S.2.2.2 p) k = _
  rw [if_neg (by omega)]
theorem o_get {ci k : Nat} {f : Int → Option (Int × jSt)} (hp : x + N ≤ p) (ht : S.2.2.1 p = (0, ci)) : fget (gS x N S C) (p : Int) ci k f = f (S.2.2.2 p k) := by
  unfold fget
  rw [gS_ty, gS_tyn, if_pos ht, gS_gO hp]
theorem o_getr {ci k q : Nat} {f : Int → Option (Int × jSt)} (hp : x + N ≤ p) (ht : S.2.2.1 p = (0, ci)) (hq : S.2.2.2 p k = (q : Int)) : fgetr (gS x N S C) (p : Int) ci k f = f (q : Int) := by
  unfold fgetr
  rw [gS_ty, gS_tyn, gS_gO hp, hq, if_pos ⟨ht, by omega⟩]
theorem o_ald {kd n : Nat} {j : Int} {f : Int → Option (Int × jSt)} (hp : x + N ≤ p) (ht : S.2.2.1 p = (kd, n)) (h0 : 0 ≤ j) (h1 : j < (n : Int)) : fald (gS x N S C) (p : Int) j kd f = f (S.2.2.2 p j.toNat) := by
  unfold fald
  rw [gS_ty, gS_tyn, ht, if_pos ⟨rfl, h0, h1⟩, gS_gO hp]
theorem o_len {n : Nat} {f : Int → Option (Int × jSt)} (ht : S.2.2.1 p = (1, n)) (h1 : n < 2147483648) : flen (gS x N S C) (p : Int) 1 f = f (n : Int) := by
  unfold flen
  rw [gS_ty, gS_tyn, ht, if_pos ⟨rfl, h1⟩]
end OU
/-- a text as the class holds it -/
def ScO (x : Nat) (S : jSt) (p n : Nat) (V : Nat → Option Den) (rws : Nat → Row) : Prop := ∃ q pr pc pf pt : Nat, (x ≤ p ∧ x ≤ pr ∧ x ≤ pc ∧ x ≤ pf ∧ x ≤ pt) ∧ (p < S.1 ∧ pr < S.1 ∧ pc < S.1 ∧ pf < S.1 ∧ pt < S.1) ∧ S.2.2.1 p = (0, 6) ∧ (S.2.2.2 p 0 = (n : Int) ∧ S.2.2.2 p 1 = (pr : Int) ∧ S.2.2.2 p 2 = (pc : Int) ∧ S.2.2.2 p 3 = (pf : Int) ∧ S.2.2.2 p 4 = (pt : Int)) ∧ (S.2.2.1 pr = (1, 4 * n) ∧ S.2.2.1 pc = (1, q) ∧ S.2.2.1 pf = (1, 4) ∧ S.2.2.1 pt = (1, 4)) ∧ (n ≤ 24 ∧ q ≤ 300) ∧ RowsC (S.2.2.2 pr) n rws ∧ ∀ s, s < 3 → (V s = none → S.2.2.2 pf (s + 1) = 0 ∧ S.2.2.2 pt (s + 1) = 0) ∧ ∀ d, V s = some d → ∃ a b : Nat, S.2.2.2 pf (s + 1) = (a : Int) ∧ S.2.2.2 pt (s + 1) = (b : Int) ∧ a < b ∧ b ≤ q ∧ Seg (S.2.2.2 pc) a b d 43 ∧ Bd d
def vst3 (kd : Int) (p : Nat) (y : Int) : List Int → Option (Nat × List Int)
  | [] => none
  | y2 :: r' => some (p + 1, jn2 kd y2 y :: r')
def vst2 (kd nm : Int) (w : Int → Int) (p : Nat) : List Int → Option (Nat × List Int)
  | [] => none
  | y :: r => if kd = 21 then some (if y ≠ 0 then p + 1 else max p (nm - 1).toNat + 1, r) else if kd = 45 ∨ kd = 25 ∨ kd = 27 then some (p + 1, jn1 kd w y :: r) else vst3 kd p y r
theorem vst_e {cp kd nm : Int} {e : Nat → Int} {w : Int → Int} {p : Nat} (st : List Int) (hkd : cp / 16384 = kd) (hnm : cp % 16384 = nm) (k22 : ¬ kd = 22) (kp : ¬ (kd = 30 ∨ (9 ≤ kd ∧ kd ≤ 17))) : vst (fun _ => cp) e w p st = vst2 kd nm w p st := by
  unfold vst
  simp only [hkd, hnm]
  rw [if_neg k22, if_neg kp]
  cases st with
  | nil => rfl
  | cons y r =>
    cases r with
    | nil => rfl
    | cons y2 r' => rfl
def vnx (c : Nat → Int) (e : Nat → Int) (w : Int → Int) (t n : Nat) : Option (Nat × List Int) → Option (List Int)
  | none => none
  | some (p', st') => vex c e w t n p' st'
section VL
variable {x : Nat} {S : jSt} {C : Nat → Nat → Int} {a : Nat → Int}
theorem k415 (I : CI x S C) {n : Nat} (hn : n < 64) {f : Int → Option (Int × jSt)} : fald (cS x S C) ((x + 415 : Nat) : Int) (n : Int) 1 f = f (C 415 n) := by
  rw [al_415 I (by omega) (by omega), toNat_z]
theorem t415 (I : CI x S C) {n : Nat} (hn : n < 64) {z : Int} {f : jSt → Option (Int × jSt)} : fast (cS x S C) ((x + 415 : Nat) : Int) (n : Int) 1 z f = f (cS x S (va_up C 415 (va_up (C 415) n z))) := by
  rw [st_415 I (by omega) (by omega), toNat_z]
theorem c_turned (I : CI x S C) (T : Td a C 1) (W : Wf a) {k z : Int} (hz : bdv z) (hk : k = 45 ∨ k = 25 ∨ k = 27) : f_X2_turned ((x + 414 : Nat) : Int) k z (cS x S C) = some (jn1 k (wfn a) z, cS x S C) := by
  have hz' := hz
  unfold bdv at hz'
  have hL := W.1.1
  unfold f_X2_turned f_X2_turned_b52 f_X2_turned_b53 f_X2_turned_b24
  rcases hk with rfl | rfl | rfl
  · have ej : jn1 45 (wfn a) z = -z := rfl
    rw [ej, if_pos rfl, w32_of (by omega) (by omega)]
  · have ej : jn1 25 (wfn a) z = if z = 0 then 1 else 0 := rfl
    rw [ej, if_neg (by decide), if_pos rfl]
    by_cases h : z = 0
    · rw [if_pos h, if_pos h]
    · rw [if_neg h, if_neg h]
  · have ej : jn1 27 (wfn a) z = wfn a z := rfl
    rw [ej, if_neg (by decide), if_neg (by decide)]
    unfold wfn
    by_cases h : z < 0
    · rw [if_pos h, if_neg (by omega)]
    · rw [if_neg h, cr414_0 I, cg_1 I, T.1]
      by_cases h2 : a 0 ≤ z
      · rw [if_pos h2, if_neg (by omega)]
      · rw [if_neg h2, cr414_0 I, cr1_2 I, al_2 I (by omega) (by omega), if_pos (by omega), (T.2.2.2.2 z.toNat (by omega)).1]
set_option maxHeartbeats 1600000 in
theorem valLp {ps pc q t a0 : Nat} {e : Nat → Int} (T : Td a C 1) (W : Wf a) (hps : x + 426 ≤ ps ∧ x + 426 ≤ pc) (kp : S.2.2.1 ps = (0, 6)) (k2 : S.2.2.2 ps 2 = (pc : Int)) (kc : S.2.2.1 pc = (1, q)) (htq : t ≤ q) (hq : q ≤ 300) (hok : ∀ i, a0 ≤ i → i < t → okC (S.2.2.2 pc i)) (hN : ∀ k, 9 ≤ k → k ≤ 17 → C 416 (k - 9) = e (nmx k)) (hE : EB e (wfn a)) : ∀ (n M p : Nat) (st : List Int) (G : Nat → Nat → Int) {z : Int}, CI x S G → (∀ i, i ≠ 415 → G i = C i) → vex (S.2.2.2 pc) e (wfn a) t n p st = some [z] → SkR (G 415) st → st.length ≤ 64 → a0 ≤ p → n ≤ M → ∃ C', jrep (fun _ _ _ _ _ _ => none) (fun r => f_X2_value_b36B r) M ((x + 414 : Nat) : Int) (ps : Int) (st.length : Int) (t : Int) (p : Int) (cS x S G) = some (z, cS x S C') ∧ CI x S C' ∧ ∀ i, i ≠ 415 → C' i = C i := by
  intro n
  induction n with
  | zero => intro M p st G z _ _ h; cases h
  | succ n ih =>
    intro M p st G z I hf hv hs hl ha0 hM
    obtain ⟨M, rfl⟩ : ∃ Q, M = Q + 1 := ⟨M - 1, by omega⟩
    rw [jrep_s]
    generalize hR1 : jrep (fun _ _ _ _ _ _ => none) (fun r => f_X2_value_b36B r) M = r1
    have ih' : ∀ (p : Nat) (st : List Int) (G : Nat → Nat → Int), CI x S G → (∀ i, i ≠ 415 → G i = C i) → vex (S.2.2.2 pc) e (wfn a) t n p st = some [z] → SkR (G 415) st → st.length ≤ 64 → a0 ≤ p → ∃ C', r1 ((x + 414 : Nat) : Int) (ps : Int) (st.length : Int) (t : Int) (p : Int) (cS x S G) = some (z, cS x S C') ∧ CI x S C' ∧ ∀ i, i ≠ 415 → C' i = C i := fun p st G a b c d e f => by
      rw [← hR1]
      exact ih M p st G a b c d e f (by omega)
    show ∃ C', f_X2_value_b36B r1 ((x + 414 : Nat) : Int) (ps : Int) (st.length : Int) (t : Int) (p : Int) (cS x S G) = some (z, cS x S C') ∧ CI x S C' ∧ ∀ i, i ≠ 415 → C' i = C i
    unfold f_X2_value_b36B f_X2_value_b316
    rw [vex] at hv
    by_cases hpt : p = t
    · rw [if_pos hpt] at hv
      injection hv with hv
      subst hv
      rw [if_pos (by omega), if_pos (show (1 : Int) ≤ (([z] : List Int).length : Int) by simp), cr414_1 I, al_415 I (by omega) (by omega), show (0 : Int).toNat = 0 from rfl]
      have e0 : G 415 0 = z := hs.1.1
      rw [e0]
      exact ⟨G, rfl, I, hf⟩
    rw [if_neg hpt] at hv
    by_cases htp : t < p
    · rw [if_pos htp] at hv; cases hv
    rw [if_neg htp] at hv
    have okp := hok p ha0 (by omega)
    generalize hcp : S.2.2.2 pc p = cp at *
    have okp' := okp
    unfold okC at okp'
    have al : ∀ (f : Int → Option (Int × jSt)), fald (cS x S G) (pc : Int) (p : Int) 1 f = f cp := fun f => by rw [o_ald hps.2 kc (by omega) (by omega), toNat_z, hcp]
    rw [if_neg (by omega), if_pos (by omega), o_getr hps.1 kp k2, al, if_neg (by decide), flet_eq, if_pos (by omega), o_getr hps.1 kp k2, al, if_neg (by decide), flet_eq, idiv_n (by omega) (by omega) (by omega) (by omega), irem_n (by omega) (by omega) (by omega) (by omega)]
    generalize hkd : cp / 16384 = kd at *
    generalize hnm : cp % 16384 = nm at *
    have hnb : 0 ≤ nm ∧ nm < 16384 := by omega
    have hx : vst (S.2.2.2 pc) e (wfn a) p st = vst (fun _ => cp) e (wfn a) p st := vst_c hcp
    rw [hx] at hv
    have go : ∀ (G' : Nat → Nat → Int) (st' : List Int) (p' : Nat) (z1 z2 : Int), CI x S G' → (∀ i, i ≠ 415 → G' i = C i) → vex (S.2.2.2 pc) e (wfn a) t n (p' + 1) st' = some [z] → SkR (G' 415) st' → st'.length ≤ 64 → a0 ≤ p' → p' < 16384 → z1 = (st'.length : Int) → z2 = (p' : Int) → ∃ C', f_X2_value_b294 r1 ((x + 414 : Nat) : Int) (ps : Int) z1 (t : Int) z2 (cS x S G') = some (z, cS x S C') ∧ CI x S C' ∧ ∀ i, i ≠ 415 → C' i = C i := by
      intro G' st' p' z1 z2 I' hf' hv' hs' hl' hp' hp2 e1 e2
      unfold f_X2_value_b294
      rw [flet_eq, e2, w32_of (by omega) (by omega), zs, e1]
      exact ih' (p' + 1) st' G' I' hf' hv' hs' hl' (by omega)
    have fr : ∀ (v : Nat → Int) i, i ≠ 415 → va_up G 415 v i = C i := fun v i hi => by rw [va_up_ne _ _ hi]; exact hf i hi
    have U : ∀ (v : Nat → Int), CI x S (va_up G 415 v) := fun v => CI_ar I (fun k => rfl)
    have jmp : imax (p : Int) (w32 (nm - 1)) = ((max p (nm - 1).toNat : Nat) : Int) := by
      rw [w32_of (by omega) (by omega)]
      unfold imax
      split <;> omega
    by_cases k22 : kd = 22
    · have ev : vst (fun _ => cp) e (wfn a) p st = some (max p (nm - 1).toNat + 1, st) := by
        unfold vst
        simp only [hkd, hnm]
        rw [if_pos k22]
      rw [ev] at hv
      rw [if_pos k22, flet_eq]
      exact go G st (max p (nm - 1).toNat) _ _ I hf hv hs hl (by omega) (by omega) rfl jmp
    rw [if_neg k22]
    have push : ∀ (val : Int), bdv val → vst (fun _ => cp) e (wfn a) p st = (if 64 ≤ st.length then none else some (p + 1, val :: st)) → st.length < 64 ∧ ∃ C', f_X2_value_b149 r1 ((x + 414 : Nat) : Int) (ps : Int) (st.length : Int) (t : Int) (p : Int) ((x + 415 : Nat) : Int) (st.length : Int) val (cS x S G) = some (z, cS x S C') ∧ CI x S C' ∧ ∀ i, i ≠ 415 → C' i = C i := by
      intro val hval ev
      rw [ev] at hv
      by_cases h64 : 64 ≤ st.length
      · rw [if_pos h64] at hv; cases hv
      rw [if_neg h64] at hv
      refine ⟨by omega, ?_⟩
      unfold f_X2_value_b149
      rw [t415 I (by omega), flet_eq, w32_of (by omega) (by omega)]
      refine go _ (val :: st) p _ _ (U _) (fr _) hv ?_ (by rw [List.length_cons]; omega) ha0 (by omega) (by rw [zs]; rfl) rfl
      rw [va_up_self]
      exact ⟨⟨va_up_self _ _ _, hval⟩, SkR_up _ _ _ _ (Nat.le_refl _) hs⟩
    unfold f_X2_value_b109
    by_cases k30 : kd = 30
    · obtain ⟨h64, pp⟩ := push nm (by unfold bdv; omega) (by
        unfold vst
        simp only [hkd, hnm]
        rw [if_neg k22, if_pos (Or.inl k30), if_pos k30])
      rw [if_pos k30, cr414_1 I, ln_415 I, if_pos (by omega), cr414_1 I, if_pos k30]
      exact pp
    rw [if_neg k30, s_within, fcall_some, if_b01]
    by_cases kn : 9 ≤ kd ∧ kd ≤ 17
    · have g6 : G 416 = C 416 := hf 416 (by decide)
      obtain ⟨h64, pp⟩ := push (e (nmx kd.toNat)) (hE.1 _) (by
        unfold vst
        simp only [hkd, hnm]
        rw [if_neg k22, if_pos (Or.inr kn), if_neg k30])
      rw [if_pos kn, cr414_1 I, ln_415 I, if_pos (by omega), cr414_1 I, if_neg k30, cr414_2 I, w32_of (by omega) (by omega), al_416 I (by omega) (by omega), g6, show (kd - 9).toNat = kd.toNat - 9 by omega, hN kd.toNat (by omega) (by omega)]
      exact pp
    rw [if_neg kn]
    rw [vst_e st hkd hnm k22 (by omega)] at hv
    have hv' : vnx (S.2.2.2 pc) e (wfn a) t n (vst2 kd nm (wfn a) p st) = some [z] := hv
    clear hv hx push
    cases st with
    | nil => cases hv'
    | cons y r =>
      have hlr : r.length + 1 ≤ 64 := by simpa using hl
      have hv2 : vnx (S.2.2.2 pc) e (wfn a) t n (if kd = 21 then some (if y ≠ 0 then p + 1 else max p (nm - 1).toNat + 1, r) else if kd = 45 ∨ kd = 25 ∨ kd = 27 then some (p + 1, jn1 kd (wfn a) y :: r) else vst3 kd p y r) = some [z] := hv'
      clear hv'
      rw [if_pos (show (1 : Int) ≤ ((y :: r).length : Int) by rw [List.length_cons]; omega)]
      have e0 : G 415 r.length = y := hs.1.1
      by_cases k21 : kd = 21
      · rw [if_pos k21] at hv2
        rw [if_pos k21]
        show ∃ C', flet (w32 (((r.length + 1 : Nat) : Int) + (-1))) _ = _ ∧ _
        unfold f_X2_value_b198
        rw [wp1 (by omega), flet_eq, cr414_1 I, k415 I (by omega), e0]
        by_cases hy : y = 0
        · rw [if_pos hy]
          have hv3 : vex (S.2.2.2 pc) e (wfn a) t n (if y ≠ 0 then p + 1 else max p (nm - 1).toNat + 1) r = some [z] := hv2
          rw [if_neg (fun q => q hy)] at hv3
          exact go G r (max p (nm - 1).toNat) _ _ I hf hv3 hs.2 (by omega) (by omega) (by omega) rfl jmp
        · rw [if_neg hy]
          have hv3 : vex (S.2.2.2 pc) e (wfn a) t n (if y ≠ 0 then p + 1 else max p (nm - 1).toNat + 1) r = some [z] := hv2
          rw [if_pos hy] at hv3
          exact go G r p _ _ I hf hv3 hs.2 (by omega) ha0 (by omega) rfl rfl
      rw [if_neg k21] at hv2
      rw [if_neg k21]
      have T' : Td a G 1 := Td_fr T (fun i _ _ => hf i (by omega))
      have un : kd = 45 ∨ kd = 25 ∨ kd = 27 → ∃ C', f_X2_value_b224 r1 ((x + 414 : Nat) : Int) (ps : Int) ((y :: r).length : Int) (t : Int) (p : Int) kd (cS x S G) = some (z, cS x S C') ∧ CI x S C' ∧ ∀ i, i ≠ 415 → C' i = C i := fun hk => by
        rw [if_pos hk] at hv2
        have hv3 : vex (S.2.2.2 pc) e (wfn a) t n (p + 1) (jn1 kd (wfn a) y :: r) = some [z] := hv2
        unfold f_X2_value_b224
        rw [cr414_1 I, cr414_1 I]
        show ∃ C', fald (cS x S G) ((x + 415 : Nat) : Int) (w32 (((r.length + 1 : Nat) : Int) - 1)) 1 _ = _ ∧ _
        rw [wm1 (by omega), k415 I (by omega), e0, cv_414 I, c_turned I T' W hs.1.2 hk, fcall_some]
        show ∃ C', fast (cS x S G) ((x + 415 : Nat) : Int) (w32 (((r.length + 1 : Nat) : Int) - 1)) 1 _ _ = _ ∧ _
        rw [wm1 (by omega), t415 I (by omega)]
        refine go _ (jn1 kd (wfn a) y :: r) p _ _ (U _) (fr _) hv3 ?_ hl ha0 (by omega) rfl rfl
        rw [va_up_self]
        exact ⟨⟨va_up_self _ _ _, jn1_b hs.1.2 hE.2⟩, SkR_up _ _ _ _ (Nat.le_refl _) hs.2⟩
      by_cases k45 : kd = 45
      · rw [if_pos k45]; exact un (Or.inl k45)
      rw [if_neg k45]
      by_cases k25 : kd = 25
      · rw [if_pos k25]; exact un (Or.inr (Or.inl k25))
      rw [if_neg k25]
      by_cases k27 : kd = 27
      · rw [if_pos k27]; exact un (Or.inr (Or.inr k27))
      rw [if_neg k27]
      rw [if_neg (by omega)] at hv2
      cases r with
      | nil => cases hv2
      | cons y2 r' =>
        have hlr' : r'.length + 1 + 1 ≤ 64 := by simpa using hlr
        have hv3 : vex (S.2.2.2 pc) e (wfn a) t n (p + 1) (jn2 kd y2 y :: r') = some [z] := hv2
        have e2 : G 415 r'.length = y2 := hs.2.1.1
        have e0' : G 415 (r'.length + 1) = y := e0
        rw [if_pos (show (2 : Int) ≤ ((y :: y2 :: r').length : Int) by rw [List.length_cons, List.length_cons]; omega)]
        show ∃ C', flet (w32 (((r'.length + 1 + 1 : Nat) : Int) + (-1))) _ = _ ∧ _
        rw [wp1 (by omega), flet_eq, cr414_1 I, cr414_1 I, wm1 (by omega), k415 I (by omega), e2, cr414_1 I, k415 I (by omega), e0', c_joined hs.2.1.2 hs.1.2 (by omega), fcall_some, t415 I (by omega)]
        refine go _ (jn2 kd y2 y :: r') p _ _ (U _) (fr _) hv3 ?_ (by rw [List.length_cons]; omega) ha0 (by omega) rfl rfl
        rw [va_up_self]
        exact ⟨⟨va_up_self _ _ _, jn2_b hs.2.1.2⟩, SkR_up _ _ _ _ (Nat.le_refl _) hs.2.2⟩
/-- texts as the class holds them: its laws -/
theorem LvC_t {P : Nat → Int} {N : Int} {V : LwV} (h : ∀ t : Nat, (t : Int) < N → ∃ (p n : Nat) (rws : Nat → Row), P t = (p : Int) ∧ ScO (x + 426) S p n (V t) rws) : LvC x S P N V := by
  intro t ht
  obtain ⟨p, n, rws, hp, q, pr, pc, pf, pt, ⟨b0, b1, b2, b3, b4⟩, _, kp, ⟨f0, f1, f2, f3, f4⟩, ⟨c1, c2, c3, c4⟩, ⟨hn, hq⟩, hrow, hlaw⟩ := h t ht
  rw [hp]
  refine ⟨⟨by omega, by unfold jty; rw [toNat_z]; exact kp⟩, fun s hs => ⟨fun C I => ?_, fun d hd C a o l b I ho T H W hl hb0 hb1 => ?_⟩⟩
  · unfold f_X6_rules f_X6_rules_b20
    rw [o_getr b0 kp f4, o_ald b4 c4 (by omega) (by omega), o_getr b0 kp f3, o_ald b3 c3 (by omega) (by omega), show ((s : Int) + 1).toNat = s + 1 by omega]
    unfold b01
    cases hV : V t s with
    | none =>
      obtain ⟨y1, y2⟩ := (hlaw s hs).1 hV
      rw [y1, y2, if_pos (by omega), if_neg (by simp)]
    | some d =>
      obtain ⟨a, b, y1, y2, y3, _⟩ := (hlaw s hs).2 d hV
      rw [y1, y2, if_neg (by omega), if_pos (by rfl)]
  · obtain ⟨a1, b', y1, y2, y3, y4, sg, bd⟩ := (hlaw s hs).2 d hd
    have hbb : b = -1 ∨ (0 ≤ b ∧ b < a 1) := by
      by_cases e : s = 0
      · exact Or.inr (hb0 e)
      · exact Or.inl (hb1 e)
    have hb1' : b < a 1 := by
      have := W.1.2.1
      rcases hbb with h | h <;> omega
    obtain ⟨C1, v1, I1, g1, n1⟩ := c_names I ho T H W hl hbb
    have T1 : Td a C1 1 := Td_fr T (fun i _ _ => g1 i (by omega))
    unfold f_X2_value f_X2_value_b36
    rw [cv_414 I, v1, fcall_some, if_pos (by omega), o_getr b0 kp f4, o_ald b4 c4 (by omega) (by omega), if_pos (by omega), o_getr b0 kp f2, o_len c2 (by omega), flet_eq, if_pos (by omega), o_getr b0 kp f3, o_ald b3 c3 (by omega) (by omega), show ((s : Int) + 1).toNat = s + 1 by omega, y1, y2]
    have em : imin (b' : Int) (q : Int) = (b' : Int) := by
      unfold imin
      rw [if_neg (by omega)]
    rw [em]
    have E := EB_L W hl hb1'
    obtain ⟨k, hk⟩ := sg.2 (envL a l b) (wfn a) E [] (by simp)
    have hk' := vex_b k a1 [] hk
    obtain ⟨C', v, I', f'⟩ := valLp (x := x) (S := S) (C := C1) (a := a) (ps := p) (pc := pc) (q := q) (t := b') (a0 := a1) (e := envL a l b) T1 W ⟨b0, b2⟩ kp f2 c2 y4 hq sg.1.2 n1 E _ jN a1 [] C1 I1 (fun _ _ => rfl) hk' trivial (by simp) (Nat.le_refl _) (by unfold jN; omega)
    exact ⟨C', v, I', fun i h1 h2 => by rw [f' i h1, g1 i h2]⟩
end VL
