-- laws as the reference says them
def Dpn (lim : Nat) (d : Den) : Prop := ∀ (e e' : Nat → Int) (w : Int → Int), (∀ k, k < lim → e k = e' k) → d e w = d e' w
def Bpn (lim : Nat) (b : BDen) : Prop := ∀ (e e' : Nat → Int) (w : Int → Int), (∀ k, k < lim → e k = e' k) → b e w = b e' w
theorem cex_dp {f : Nat → Int} {b lim : Nat} : ∀ {n : Nat} {s : SS}, cex f b lim n = some s → (∀ d ∈ s.1, Dpn lim d) ∧ ∀ d ∈ s.2, Bpn lim d := by
  intro n
  induction n with
  | zero =>
    intro s h
    rw [cex] at h
    injection h with h
    rw [← h]
    exact ⟨fun d hd => (by cases hd), fun d hd => (by cases hd)⟩
  | succ n ih =>
    intro s h
    obtain ⟨s0, h0, hok, hsx⟩ := cex_s h
    obtain ⟨i1, i2⟩ := ih h0
    obtain ⟨ok0, ok1, ok2⟩ := hok
    obtain ⟨o, ho⟩ : ∃ o : Nat, f (b + 2 * n) = (o : Int) := ⟨(f (b + 2 * n)).toNat, by omega⟩
    rw [ho] at ok0 ok1 ok2 hsx
    rw [toNat_z] at hsx
    obtain ⟨vs, bs⟩ := s0
    rcases sx_way hsx with ⟨eo, es⟩ | ⟨eo, es⟩ | ⟨eo, d1, r, e, es⟩ | ⟨eo, d2, d1, r, b1, t, e, e', es⟩ | ⟨eo, d2, d1, r, e, es⟩ | ⟨eo, d1, r, e, es⟩ | ⟨eo, d2, d1, r, e, es⟩ | ⟨eo, d2, d1, r, e, es⟩ | ⟨eo, b1, t, e, es⟩ | ⟨eo, b2, b1, t, e, es⟩
    · subst es
      refine ⟨fun d hd => ?_, i2⟩
      rcases List.mem_cons.mp hd with rfl | hd
      · exact fun _ _ _ _ => rfl
      · exact i1 d hd
    · subst es
      refine ⟨fun d hd => ?_, i2⟩
      rcases List.mem_cons.mp hd with rfl | hd
      · exact fun e e' w h => h _ (by omega)
      · exact i1 d hd
    · have e : vs = d1 :: r := e
      subst e; subst es
      refine ⟨fun d hd => ?_, i2⟩
      rcases List.mem_cons.mp hd with rfl | hd
      · exact fun e e' w h => by show w (d1 e w) = w (d1 e' w); rw [i1 d1 List.mem_cons_self e e' w h]
      · exact i1 d (List.mem_cons_of_mem _ hd)
    · have e : vs = d2 :: d1 :: r := e
      have e' : bs = b1 :: t := e'
      subst e; subst e'; subst es
      refine ⟨fun d hd => ?_, fun d hd => i2 d (List.mem_cons_of_mem _ hd)⟩
      rcases List.mem_cons.mp hd with rfl | hd
      · exact fun e e' w h => by
          show (if b1 e w = true then d1 e w else d2 e w) = (if b1 e' w = true then d1 e' w else d2 e' w)
          rw [i1 d1 (List.mem_cons_of_mem _ List.mem_cons_self) e e' w h, i1 d2 List.mem_cons_self e e' w h, i2 b1 List.mem_cons_self e e' w h]
      · exact i1 d (List.mem_cons_of_mem _ (List.mem_cons_of_mem _ hd))
    · have e : vs = d2 :: d1 :: r := e
      subst e; subst es
      refine ⟨fun d hd => ?_, i2⟩
      rcases List.mem_cons.mp hd with rfl | hd
      · exact fun e e' w h => by
          show evn (d1 e w) (d2 e w) = evn (d1 e' w) (d2 e' w)
          rw [i1 d1 (List.mem_cons_of_mem _ List.mem_cons_self) e e' w h, i1 d2 List.mem_cons_self e e' w h]
      · exact i1 d (List.mem_cons_of_mem _ (List.mem_cons_of_mem _ hd))
    · have e : vs = d1 :: r := e
      subst e; subst es
      refine ⟨fun d hd => ?_, i2⟩
      rcases List.mem_cons.mp hd with rfl | hd
      · exact fun e e' w h => by show - d1 e w = - d1 e' w; rw [i1 d1 List.mem_cons_self e e' w h]
      · exact i1 d (List.mem_cons_of_mem _ hd)
    · have e : vs = d2 :: d1 :: r := e
      subst e; subst es
      refine ⟨fun d hd => ?_, i2⟩
      rcases List.mem_cons.mp hd with rfl | hd
      · exact fun e e' w h => by
          show ar2 o (d1 e w) (d2 e w) = ar2 o (d1 e' w) (d2 e' w)
          rw [i1 d1 (List.mem_cons_of_mem _ List.mem_cons_self) e e' w h, i1 d2 List.mem_cons_self e e' w h]
      · exact i1 d (List.mem_cons_of_mem _ (List.mem_cons_of_mem _ hd))
    · have e : vs = d2 :: d1 :: r := e
      subst e; subst es
      refine ⟨fun d hd => i1 d (List.mem_cons_of_mem _ (List.mem_cons_of_mem _ hd)), fun d hd => ?_⟩
      rcases List.mem_cons.mp hd with rfl | hd
      · exact fun e e' w h => by
          show cm2 o (d1 e w) (d2 e w) = cm2 o (d1 e' w) (d2 e' w)
          rw [i1 d1 (List.mem_cons_of_mem _ List.mem_cons_self) e e' w h, i1 d2 List.mem_cons_self e e' w h]
      · exact i2 d hd
    · have e : bs = b1 :: t := e
      subst e; subst es
      refine ⟨i1, fun d hd => ?_⟩
      rcases List.mem_cons.mp hd with rfl | hd
      · exact fun e e' w h => by show (!b1 e w) = (!b1 e' w); rw [i2 b1 List.mem_cons_self e e' w h]
      · exact i2 d (List.mem_cons_of_mem _ hd)
    · have e : bs = b2 :: b1 :: t := e
      subst e; subst es
      refine ⟨i1, fun d hd => ?_⟩
      rcases List.mem_cons.mp hd with rfl | hd
      · exact fun e e' w h => by
          show (if o = 21 then (b1 e w && b2 e w) else (b1 e w || b2 e w)) = (if o = 21 then (b1 e' w && b2 e' w) else (b1 e' w || b2 e' w))
          rw [i2 b1 (List.mem_cons_of_mem _ List.mem_cons_self) e e' w h, i2 b2 List.mem_cons_self e e' w h]
      · exact i2 d (List.mem_cons_of_mem _ (List.mem_cons_of_mem _ hd))
theorem cnt_le (p : Nat → Bool) : ∀ n, cnt p n ≤ n
  | 0 => Nat.le_refl _
  | n + 1 => by
    have := cnt_le p n
    rw [cnt]
    split <;> omega
theorem envL_b {a : Nat → Int} (W : Wf a) {l : Nat} (hl : (l : Int) < a 0) {b : Int} (hb : b < a 1) (k : Nat) : -1000000 ≤ envL a l b k ∧ envL a l b k ≤ 1000000 := by
  obtain ⟨⟨w0, w1, w2, w3, w4, w7, w8, w9, w10⟩, WL, WB⟩ := W
  have hL := WL l hl
  unfold envL
  split
  · omega
  split
  · omega
  split
  · omega
  split
  · omega
  split
  · omega
  split
  · omega
  rename_i hb0
  have hB := WB b.toNat (by omega)
  have hB2 := hB.2 l (by omega)
  split
  · omega
  split
  · omega
  split
  · omega
  have := cnt_le (fun l => decide (a (12 + 5 * l) = 3 + b)) (a 0).toNat
  omega
theorem wfn_b2 {a : Nat → Int} (W : Wf a) (z : Int) : -1000000 ≤ wfn a z ∧ wfn a z ≤ 1000000 := by
  unfold wfn
  split
  · have := W.2.1 z.toNat (by omega)
    omega
  · omega
theorem EB_L {a : Nat → Int} (W : Wf a) {l : Nat} (hl : (l : Int) < a 0) {b : Int} (hb : b < a 1) : EB (envL a l b) (wfn a) := ⟨envL_b W hl hb, wfn_b2 W⟩
/-- a text as the reference holds it -/
def TxR (T : Nat → Int) (t n : Nat) (V : Nat → Option Den) (rws : Nat → Row) : Prop := ∃ w : Nat, T (705 * t) = (n : Int) ∧ n ≤ 24 ∧ w ≤ 300 ∧ RowsR T (705 * t) w n V rws ∧ ∀ i, i < n → 1 ≤ (rws i).1 ∧ (rws i).1 ≤ 11
section LR
variable {m : Nat} {S : jSt} {F : Nat → Nat → Int}
theorem s_summedUp (R : RI m S F) (W : Wf (F 1)) {t k a b lim : Nat} {d : Den} (ht : t < 4) (hk : k < 24) (h1 : F 3 (705 * t + 1 + 4 * k + 1) = (a : Int)) (h2 : F 3 (705 * t + 1 + 4 * k + 2) = (b : Int)) (hab : a ≤ b) (hb : b ≤ 303) (hlim : lim ≤ 9) (hE : ∀ k, k < lim → bdv (F 6 k)) (hd : cex (F 3) (705 * t + 97 + 2 * a) lim (b - a) = some ([d], [])) : ∃ F', f_X12_summedUp (m : Int) (t : Int) (k : Int) (rS m S F) = some (d (F 6) (wfn (F 1)), rS m S F') ∧ RI m S F' ∧ ∀ j, j ≠ 7 → j ≠ 8 → F' j = F j := by
  unfold f_X12_summedUp f_X12_summedUp_b38
  rw [w32_of (z := 705 * (t : Int)) (by omega) (by omega), w32_of (z := 705 * (t : Int) + 1) (by omega) (by omega), w32_of (z := 4 * (k : Int)) (by omega) (by omega), w32_of (z := 705 * (t : Int) + 1 + 4 * (k : Int)) (by omega) (by omega), w32_of (z := 705 * (t : Int) + 97) (by omega) (by omega), flet_eq, flet_eq, r_tx R, w32_of (by omega) (by omega), ra_3 R (by omega) (by omega), show (705 * (t : Int) + 1 + 4 * (k : Int) + 1).toNat = 705 * t + 1 + 4 * k + 1 by omega, h1]
  have := sumLp (m := m) (S := S) (X := 705 * t + 1 + 4 * k) (cd := 705 * t + 97) (a := a) (b := b) (lim := lim) (d := d) (by omega) (by omega) hb F hlim W h2 hE hd jN a F ([], []) (Nat.le_refl _) hab (by unfold jN; omega) R (fun _ _ _ => rfl) (by rw [Nat.sub_self]; rfl) trivial trivial
  rw [show (705 * (t : Int) + 1 + 4 * (k : Int)) = ((705 * t + 1 + 4 * k : Nat) : Int) by omega, show (705 * (t : Int) + 97) = ((705 * t + 97 : Nat) : Int) by omega]
  exact this
theorem srt_law {k s : Nat} (hk : 1 ≤ k ∧ k ≤ 11) (hs : s < 3) : srt k = s ↔ k = s + 1 := by
  obtain ⟨b1, b2, b3⟩ := srt_b hk
  constructor
  · intro h
    have := b3 (b2.mpr (by omega))
    omega
  · intro h
    rw [b3 (by omega)]
    omega
theorem LvR_t {T : Nat → Int} {N : Int} {V : LwV} (hT : N ≤ 4) (h : ∀ t : Nat, (t : Int) < N → ∃ n rws, TxR T t n (V t) rws) : LvR m S T N V := by
  intro t ht s hs F l b dflt top R h3 W hl hb0 hb1 hE hd hto
  obtain ⟨n, rws, w, e0, hn, hw, hR, hk⟩ := h t ht
  unfold f_X12_says f_X12_says_b3
  have hlim : (if s = 0 then 9 else 5) = lmt s := rfl
  have hbl : b < F 1 1 := by
    have := W.1.2.1
    by_cases e : s = 0
    · exact (hb0 e).2
    · rw [hb1 e]; omega
  have key : ∀ (N k : Nat), k ≤ n → n - k < N → (∀ i, i < k → (rws i).1 ≠ s + 1) → ∃ F', jrep (fun _ _ _ _ _ _ _ => none) (fun r => f_X12_says_b3B r) N (m : Int) (t : Int) (s : Int) dflt top (k : Int) (rS m S F) = some (clp top ((V t s).elim dflt (fun d => d (envL (F 1) l b) (wfn (F 1)))), rS m S F') ∧ RI m S F' ∧ ∀ i, i ≠ 7 → i ≠ 8 → F' i = F i := by
    intro N
    induction N with
    | zero => intro k _ h; omega
    | succ N ih =>
      intro k hkn hN hno
      rw [jrep_s]
      generalize hR1 : jrep (fun _ _ _ _ _ _ _ => none) (fun r => f_X12_says_b3B r) N = r1 at *
      show ∃ F', f_X12_says_b3B r1 (m : Int) (t : Int) (s : Int) dflt top (k : Int) (rS m S F) = _ ∧ RI m S F' ∧ ∀ i, i ≠ 7 → i ≠ 8 → F' i = F i
      unfold f_X12_says_b3B f_X12_says_b63
      rw [if_neg (by omega), r_tx R, w32_of (z := 705 * (t : Int)) (by omega) (by omega), ra_3 R (by omega) (by omega), show (705 * (t : Int)).toNat = 705 * t by omega, h3, e0]
      by_cases hk2 : n ≤ k
      · have hv : V t s = none := by
          cases hv : V t s with
          | none => rfl
          | some d =>
            obtain ⟨i, hi, hi2⟩ := hR.2 s hs (by rw [hv]; rfl)
            exact absurd hi2 (hno i (by omega))
        rw [if_pos (by omega), held_clp hto, fcall_some, hv]
        exact ⟨F, rfl, R, fun _ _ _ => rfl⟩
      · obtain ⟨y1, y2, y3⟩ := hR.1 k (by omega)
        rw [if_neg (by omega), r_tx R, w32_of (z := 705 * (t : Int) + 1) (by omega) (by omega), w32_of (z := 4 * (k : Int)) (by omega) (by omega), w32_of (z := 705 * (t : Int) + 1 + 4 * (k : Int)) (by omega) (by omega), ra_3 R (by omega) (by omega), show (705 * (t : Int) + 1 + 4 * (k : Int)).toNat = 705 * t + 1 + 4 * k by omega, h3, y1]
        by_cases hks : (rws k).1 = s + 1
        · have es : srt (rws k).1 = s := (srt_law (hk k (by omega)) hs).mpr hks
          obtain ⟨d, a, b', z1, z2, z3, z4, z5, z6⟩ := y3 (by omega)
          have esub : (rws k).1 - 1 = s := by omega
          rw [esub] at z1 z6
          have hE' : ∀ q, q < lmt s → F 6 q = envL (F 1) l b q := fun q hq => hE q (by rw [hlim]; exact hq)
          obtain ⟨F', v, R', f'⟩ := s_summedUp R W (t := t) (k := k) (a := a) (b := b') (lim := lmt s) (d := d) (by omega) (by omega) (by rw [h3]; exact z2) (by rw [h3]; exact z3) z4 (by omega) (by unfold lmt; split <;> omega) (fun q hq => by rw [hE' q hq]; exact envL_b W hl hbl q) (by rw [h3]; exact z6)
          rw [if_pos (by rw [es]), r_cv R, v, fcall_some, held_clp hto, fcall_some, z1]
          have ed : d (F 6) (wfn (F 1)) = d (envL (F 1) l b) (wfn (F 1)) := (cex_dp z6).1 d List.mem_cons_self _ _ _ hE'
          rw [ed]
          exact ⟨F', rfl, R', f'⟩
        · clear y3 y2
          have es : srt (rws k).1 ≠ s := fun z => hks ((srt_law (hk k (by omega)) hs).mp z)
          rw [if_neg (by omega), flet_eq, w32_of (by omega) (by omega), zs]
          exact ih (k + 1) (by omega) (by omega) (fun i hi => by
            by_cases e : i = k
            · rw [e]; exact hks
            · exact hno i (by omega))
  exact key jN 0 (by omega) (by unfold jN; omega) (fun i hi => by omega)
end LR
