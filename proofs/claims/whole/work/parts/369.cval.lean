-- THE CLASS' NUMBER OF A LAW
section CV
variable {x : Nat} {S : jSt} {C : Nat → Nat → Int} {a : Nat → Int} {o : Nat}
theorem c_names (I : CI x S C) (ho : isH o) (T : Td a C 1) (H : Hs a C o) (W : Wf a) {l : Nat} (hl : (l : Int) < a 0) {b : Int} (hb : b = -1 ∨ (0 ≤ b ∧ b < a 1)) : ∃ C', f_X2_nameAll ((x + 414 : Nat) : Int) ((x + o : Nat) : Int) (l : Int) b (cS x S C) = some (0, cS x S C') ∧ CI x S C' ∧ (∀ i, i ≠ 416 → C' i = C i) ∧ ∀ k, 9 ≤ k → k ≤ 17 → C' 416 (k - 9) = envL a l b (nmx k) := by
  have hl12 : l < 12 := by have := W.1.1; omega
  have b1 := W.1.2.1
  have lots := W.1.1
  obtain ⟨t0, t1, t2, t3, t4⟩ := T
  obtain ⟨tw, tg⟩ := t4 l hl
  obtain ⟨⟨h7, _⟩, HL, HB, _⟩ := H
  obtain ⟨hw, hf⟩ := HL l hl
  have no := isH_no (i := o) ho (by omega) (by omega)
  have no1 := isH_no (i := o + 1) ho (by omega) (by omega)
  have no2 := isH_no (i := o + 2) ho (by omega) (by omega)
  have no3 := isH_no (i := o + 3) ho (by omega) (by omega)
  have no4 := isH_no (i := o + 4) ho (by omega) (by omega)
  unfold f_X2_nameAll
  -- five that are always told
  have U : ∀ (v : Nat → Int), CI x S (va_up C 416 v) := fun v => CI_ar I (fun k => rfl)
  have ui : ∀ (v : Nat → Int) i, i ≠ 416 → va_up C 416 v i = C i := fun v i hi => va_up_ne _ _ hi
  have us : ∀ (v : Nat → Int), va_up C 416 v 416 = v := fun v => va_up_self _ _ _
  rw [cr414_2 I, st_416 I (by omega) (by omega), show (0 : Int).toNat = 0 from rfl]
  rw [cr414_2 (U _), cg_h (U _) ho, ui _ o (by omega), h7, st_416 (U _) (by omega) (by omega), show (2 : Int).toNat = 2 from rfl, us, va_uu]
  rw [cr414_2 (U _), cr414_0 (U _), cr1_2 (U _), al_2 (U _) (by omega) (by omega), toNat_z, ui _ 2 (by decide), tw, st_416 (U _) (by omega) (by omega), show (3 : Int).toNat = 3 from rfl, us, va_uu]
  rw [cr414_2 (U _), cr414_0 (U _), cr1_3 (U _), al_3 (U _) (by omega) (by omega), toNat_z, ui _ 3 (by decide), tg, st_416 (U _) (by omega) (by omega), show (4 : Int).toNat = 4 from rfl, us, va_uu]
  rw [cr414_2 (U _), crh_1 (U _) ho, alh_2 (U _) ho (by omega) (by omega), toNat_z, ui _ (o + 2) (by omega), hf, st_416 (U _) (by omega) (by omega), show (5 : Int).toNat = 5 from rfl, us, va_uu]
  generalize hv0 : va_up (va_up (va_up (va_up (va_up (C 416) 0 (l : Int)) 2 (a 7)) 3 (a (13 + 5 * l))) 4 (a (14 + 5 * l))) 5 (a (11 + 5 * l)) = v0
  have q0 : v0 0 = (l : Int) := by rw [← hv0]; rfl
  have q2 : v0 2 = a 7 := by rw [← hv0]; rfl
  have q3 : v0 3 = a (13 + 5 * l) := by rw [← hv0]; rfl
  have q4 : v0 4 = a (14 + 5 * l) := by rw [← hv0]; rfl
  have q5 : v0 5 = a (11 + 5 * l) := by rw [← hv0]; rfl
  have fin : ∀ (kn z1 z6 z7 : Int), z1 = (if b < 0 then 0 else a (72 + 14 * b.toNat + l)) → z6 = (if b < 0 then 0 else a (71 + 14 * b.toNat)) → z7 = (if b < 0 then 0 else b) → (kn = 0 ↔ b < 0) → ∃ C', f_X2_nameAll_b152 ((x + 414 : Nat) : Int) ((x + o : Nat) : Int) b kn 0 0 (cS x S (va_up C 416 (va_up (va_up (va_up v0 1 z1) 6 z6) 7 z7))) = some (0, cS x S C') ∧ CI x S C' ∧ (∀ i, i ≠ 416 → C' i = C i) ∧ ∀ k, 9 ≤ k → k ≤ 17 → C' 416 (k - 9) = envL a l b (nmx k) := by
    intro kn z1 z6 z7 e1 e6 e7 hk
    have last : ∀ cn : Int, cn = (if b < 0 then 0 else ((cnt (fun l => decide (a (12 + 5 * l) = 3 + b)) (a 0).toNat : Nat) : Int)) → ∃ C', f_X2_nameAll_b198 ((x + 414 : Nat) : Int) cn (cS x S (va_up C 416 (va_up (va_up (va_up v0 1 z1) 6 z6) 7 z7))) = some (0, cS x S C') ∧ CI x S C' ∧ (∀ i, i ≠ 416 → C' i = C i) ∧ ∀ k, 9 ≤ k → k ≤ 17 → C' 416 (k - 9) = envL a l b (nmx k) := by
      intro cn hcn
      unfold f_X2_nameAll_b198
      rw [cr414_2 (U _), st_416 (U _) (by omega) (by omega), show (8 : Int).toNat = 8 from rfl, us, va_uu]
      refine ⟨_, rfl, U _, ui _, fun k k1 k2 => ?_⟩
      rw [us]
      have kk : k = 9 ∨ k = 10 ∨ k = 11 ∨ k = 12 ∨ k = 13 ∨ k = 14 ∨ k = 15 ∨ k = 16 ∨ k = 17 := by omega
      rcases kk with rfl | rfl | rfl | rfl | rfl | rfl | rfl | rfl | rfl
      · exact q0
      · show z1 = envL a l b 5
        rw [e1]; rfl
      · exact q2
      · exact q3
      · exact q4
      · exact q5
      · show z6 = envL a l b 6
        rw [e6]; rfl
      · show z7 = envL a l b 7
        rw [e7]; rfl
      · show cn = envL a l b 8
        rw [hcn]; rfl
    unfold f_X2_nameAll_b152
    by_cases hb0 : b < 0
    · show ∃ C', jrep (fun _ _ _ _ _ _ _ => none) (fun r => f_X2_nameAll_b152B r) (4999 + 1) _ _ _ _ _ _ _ = _ ∧ _
      rw [jrep_s]
      unfold f_X2_nameAll_b152B
      rw [if_pos (hk.mpr hb0)]
      exact last 0 (by rw [if_pos hb0])
    · have key : ∀ (N i : Nat), (i : Int) ≤ a 0 → (a 0).toNat - i < N → ∃ C', jrep (fun _ _ _ _ _ _ _ => none) (fun r => f_X2_nameAll_b152B r) N ((x + 414 : Nat) : Int) ((x + o : Nat) : Int) b kn ((cnt (fun l => decide (a (12 + 5 * l) = 3 + b)) i : Nat) : Int) (i : Int) (cS x S (va_up C 416 (va_up (va_up (va_up v0 1 z1) 6 z6) 7 z7))) = some (0, cS x S C') ∧ CI x S C' ∧ (∀ i, i ≠ 416 → C' i = C i) ∧ ∀ k, 9 ≤ k → k ≤ 17 → C' 416 (k - 9) = envL a l b (nmx k) := by
        intro N
        induction N with
        | zero => intro i _ h; omega
        | succ N ih =>
          intro i hi hN
          have cl := cnt_le (fun l => decide (a (12 + 5 * l) = 3 + b)) i
          rw [jrep_s]
          generalize hR1 : jrep (fun _ _ _ _ _ _ _ => none) (fun r => f_X2_nameAll_b152B r) N = r1 at *
          show ∃ C', f_X2_nameAll_b152B r1 _ _ _ _ _ _ _ = _ ∧ _
          unfold f_X2_nameAll_b152B f_X2_nameAll_b189
          rw [if_neg (fun z => hb0 (hk.mp z)), cr414_0 (U _), cg_1 (U _), ui _ 1 (by decide), t0]
          by_cases hia : a 0 ≤ (i : Int)
          · rw [if_pos hia]
            exact last _ (by rw [if_neg hb0, show i = (a 0).toNat by omega])
          · rw [if_neg hia, crh_0 (U _) ho, alh_1 (U _) ho (by omega) (by omega), toNat_z, ui _ (o + 1) (by omega), (HL i (by omega)).1, w32_of (by omega) (by omega)]
            have ihn := ih (i + 1) (by omega) (by omega)
            by_cases hc : a (12 + 5 * i) = 3 + b
            · rw [if_pos hc, flet_eq, flet_eq, w32_of (by omega) (by omega), w32_of (by omega) (by omega), zs, zs]
              rw [cnt, if_pos (decide_eq_true hc)] at ihn
              exact ihn
            · rw [if_neg hc, flet_eq, flet_eq, w32_of (by omega) (by omega), w32_of (by omega) (by omega), zs, Int.add_zero]
              rw [cnt, if_neg (by simpa using hc), Nat.add_zero] at ihn
              exact ihn
      exact key jN 0 (by omega) (by unfold jN; omega)
  unfold f_X2_nameAll_b78
  rcases hb with hb | hb
  · subst hb
    rw [if_pos (by decide)]
    unfold f_X2_nameAll_b79 f_X2_nameAll_b106 f_X2_nameAll_b128 f_X2_nameAll_b145
    rw [cr414_2 (U _), if_pos rfl, st_416 (U _) (by omega) (by omega), show (1 : Int).toNat = 1 from rfl, us, va_uu, cr414_2 (U _), if_pos rfl, st_416 (U _) (by omega) (by omega), show (6 : Int).toNat = 6 from rfl, us, va_uu, cr414_2 (U _), if_pos rfl, st_416 (U _) (by omega) (by omega), show (7 : Int).toNat = 7 from rfl, us, va_uu]
    exact fin 0 0 0 0 (by rw [if_pos (by decide)]) (by rw [if_pos (by decide)]) (by rw [if_pos (by decide)]) (by decide)
  · obtain ⟨bn, rfl⟩ : ∃ bn : Nat, b = (bn : Int) := ⟨b.toNat, by omega⟩
    obtain ⟨hp, hwt⟩ := HB bn (by omega)
    rw [if_neg (by omega), cr414_0 (U _), cg_1 (U _), ui _ 1 (by decide), t1, if_neg (by omega)]
    unfold f_X2_nameAll_b79 f_X2_nameAll_b106 f_X2_nameAll_b128 f_X2_nameAll_b145
    rw [cr414_2 (U _), if_neg (by decide), crh_3 (U _) ho, w32_of (z := (bn : Int) * 12) (by omega) (by omega), w32_of (by omega) (by omega), alh_4 (U _) ho (by omega) (by omega), show ((bn : Int) * 12 + (l : Int)).toNat = 12 * bn + l by omega, ui _ (o + 4) (by omega), hwt l hl12, st_416 (U _) (by omega) (by omega), show (1 : Int).toNat = 1 from rfl, us, va_uu, cr414_2 (U _), if_neg (by decide), crh_2 (U _) ho, alh_3 (U _) ho (by omega) (by omega), toNat_z, ui _ (o + 3) (by omega), hp, st_416 (U _) (by omega) (by omega), show (6 : Int).toNat = 6 from rfl, us, va_uu, cr414_2 (U _), if_neg (by decide), st_416 (U _) (by omega) (by omega), show (7 : Int).toNat = 7 from rfl, us, va_uu]
    exact fin 1 _ _ _ (by rw [if_neg (by omega), toNat_z]) (by rw [if_neg (by omega), toNat_z]) (by rw [if_neg (by omega)]) (by constructor <;> (intro z; omega))
end CV
def SkR (f : Nat → Int) : List Int → Prop
  | [] => True
  | z :: r => (f r.length = z ∧ bdv z) ∧ SkR f r
theorem SkR_up (f : Nat → Int) (z : Int) : ∀ (P : List Int) (n : Nat), P.length ≤ n → SkR f P → SkR (va_up f n z) P
  | [], _, _, _ => trivial
  | d :: P, n, h, q => by
    rw [List.length_cons] at h
    exact ⟨⟨by rw [va_up_ne _ _ (by omega)]; exact q.1.1, q.1.2⟩, SkR_up f z P n (by omega) q.2⟩
theorem s_b250 (v : Int) (h : -1000000000000 ≤ v ∧ v ≤ 1000000000000) (S : jSt) : f_X2_joined_b250 v S = some (clipv v, S) := by
  unfold f_X2_joined_b250 f_X2_joined_b279 clipv
  by_cases h1 : v ≤ 1000000
  · rw [if_pos h1]
    by_cases h2 : -1000000 ≤ v
    · rw [if_pos h2, if_neg (by omega), if_neg (by omega), w32_of (by omega) (by omega)]
    · rw [if_neg h2, if_neg (by omega), if_pos (by omega)]
  · rw [if_neg h1, if_pos (by omega)]
theorem clip_0 : clipv 0 = 0 := by
  unfold clipv
  rw [if_neg (by omega), if_neg (by omega)]
theorem jn_26 {a b : Int} (ha : bdv a) (hb : bdv b) (S : jSt) : f_X2_joined 26 a b S = some (jn2 26 a b, S) := by
  have ha' := ha
  have hb' := hb
  unfold bdv at ha' hb'
  have hd := tdivb (y := b) ha
  have he := evn_b (y := b) ha'
  have ej : jn2 26 a b = evn a b := rfl
  rw [ej]
  unfold f_X2_joined f_X2_joined_b137
  rw [if_pos rfl]
  by_cases h0 : b = 0
  · rw [if_pos h0, s_b250 0 (by omega), clip_0]
    unfold evn
    rw [if_pos h0]
  · have e : evn a b = a - a.tmod b := by rw [evn_e, if_neg h0]
    rw [if_neg h0, if_neg h0, lrem_t ⟨by omega, by omega⟩ ⟨by omega, by omega⟩ ⟨by omega, by omega⟩ ⟨by omega, by omega⟩, ← e, w64_of (by omega) (by omega), s_b250 _ (by omega)]
    unfold clipv
    rw [if_neg (by omega), if_neg (by omega)]
theorem jn_28 (a b : Int) (S : jSt) : f_X2_joined 28 a b S = some (jn2 28 a b, S) := by
  have ej : jn2 28 a b = if a ≠ 0 ∨ b ≠ 0 then 1 else 0 := rfl
  rw [ej]
  unfold f_X2_joined f_X2_joined_b137 f_X2_joined_b117 f_X2_joined_b154 f_X2_joined_b159 f_X2_joined_b176 f_X2_joined_b177 f_X2_joined_b189 f_X2_joined_b201 f_X2_joined_b213 f_X2_joined_b225 f_X2_joined_b237 f_X2_joined_b238 f_X2_joined_b249
  rw [if_neg (by decide), if_neg (by decide), if_pos rfl]
  (repeat' split) <;> first | rfl | (exfalso; omega) | (exfalso; simp only [decide_eq_true_eq] at *; omega)
theorem jn_29 (a b : Int) (S : jSt) : f_X2_joined 29 a b S = some (jn2 29 a b, S) := by
  have ej : jn2 29 a b = if a ≠ 0 ∧ b ≠ 0 then 1 else 0 := rfl
  rw [ej]
  unfold f_X2_joined f_X2_joined_b137 f_X2_joined_b117 f_X2_joined_b154 f_X2_joined_b159 f_X2_joined_b176 f_X2_joined_b177 f_X2_joined_b189 f_X2_joined_b201 f_X2_joined_b213 f_X2_joined_b225 f_X2_joined_b237 f_X2_joined_b238 f_X2_joined_b249
  rw [if_neg (by decide), if_neg (by decide), if_neg (by decide), if_pos rfl]
  (repeat' split) <;> first | rfl | (exfalso; omega) | (exfalso; simp only [decide_eq_true_eq] at *; omega)
theorem jn_31 (a b : Int) (S : jSt) : f_X2_joined 31 a b S = some (jn2 31 a b, S) := by
  have ej : jn2 31 a b = if decide (a < b) = true then 1 else 0 := rfl
  rw [ej]
  unfold f_X2_joined f_X2_joined_b137 f_X2_joined_b117 f_X2_joined_b154 f_X2_joined_b159 f_X2_joined_b176 f_X2_joined_b177 f_X2_joined_b189 f_X2_joined_b201 f_X2_joined_b213 f_X2_joined_b225 f_X2_joined_b237 f_X2_joined_b238 f_X2_joined_b249
  rw [if_neg (by decide), if_neg (by decide), if_neg (by decide), if_neg (by decide), if_neg (by decide), if_pos rfl]
  (repeat' split) <;> first | rfl | (exfalso; omega) | (exfalso; simp only [decide_eq_true_eq] at *; omega)
theorem jn_32 (a b : Int) (S : jSt) : f_X2_joined 32 a b S = some (jn2 32 a b, S) := by
  have ej : jn2 32 a b = if decide (a ≤ b) = true then 1 else 0 := rfl
  rw [ej]
  unfold f_X2_joined f_X2_joined_b137 f_X2_joined_b117 f_X2_joined_b154 f_X2_joined_b159 f_X2_joined_b176 f_X2_joined_b177 f_X2_joined_b189 f_X2_joined_b201 f_X2_joined_b213 f_X2_joined_b225 f_X2_joined_b237 f_X2_joined_b238 f_X2_joined_b249
  rw [if_neg (by decide), if_neg (by decide), if_neg (by decide), if_neg (by decide), if_neg (by decide), if_neg (by decide), if_pos rfl]
  (repeat' split) <;> first | rfl | (exfalso; omega) | (exfalso; simp only [decide_eq_true_eq] at *; omega)
theorem jn_33 (a b : Int) (S : jSt) : f_X2_joined 33 a b S = some (jn2 33 a b, S) := by
  have ej : jn2 33 a b = if decide (b < a) = true then 1 else 0 := rfl
  rw [ej]
  unfold f_X2_joined f_X2_joined_b137 f_X2_joined_b117 f_X2_joined_b154 f_X2_joined_b159 f_X2_joined_b176 f_X2_joined_b177 f_X2_joined_b189 f_X2_joined_b201 f_X2_joined_b213 f_X2_joined_b225 f_X2_joined_b237 f_X2_joined_b238 f_X2_joined_b249
  rw [if_neg (by decide), if_neg (by decide), if_neg (by decide), if_neg (by decide), if_neg (by decide), if_neg (by decide), if_neg (by decide), if_pos rfl]
  (repeat' split) <;> first | rfl | (exfalso; omega) | (exfalso; simp only [decide_eq_true_eq] at *; omega)
theorem jn_34 (a b : Int) (S : jSt) : f_X2_joined 34 a b S = some (jn2 34 a b, S) := by
  have ej : jn2 34 a b = if decide (b ≤ a) = true then 1 else 0 := rfl
  rw [ej]
  unfold f_X2_joined f_X2_joined_b137 f_X2_joined_b117 f_X2_joined_b154 f_X2_joined_b159 f_X2_joined_b176 f_X2_joined_b177 f_X2_joined_b189 f_X2_joined_b201 f_X2_joined_b213 f_X2_joined_b225 f_X2_joined_b237 f_X2_joined_b238 f_X2_joined_b249
  rw [if_neg (by decide), if_neg (by decide), if_neg (by decide), if_neg (by decide), if_neg (by decide), if_neg (by decide), if_neg (by decide), if_neg (by decide), if_pos rfl]
  (repeat' split) <;> first | rfl | (exfalso; omega) | (exfalso; simp only [decide_eq_true_eq] at *; omega)
theorem jn_35 (a b : Int) (S : jSt) : f_X2_joined 35 a b S = some (jn2 35 a b, S) := by
  have ej : jn2 35 a b = if decide (a = b) = true then 1 else 0 := rfl
  rw [ej]
  unfold f_X2_joined f_X2_joined_b137 f_X2_joined_b117 f_X2_joined_b154 f_X2_joined_b159 f_X2_joined_b176 f_X2_joined_b177 f_X2_joined_b189 f_X2_joined_b201 f_X2_joined_b213 f_X2_joined_b225 f_X2_joined_b237 f_X2_joined_b238 f_X2_joined_b249
  rw [if_neg (by decide), if_neg (by decide), if_neg (by decide), if_neg (by decide), if_neg (by decide), if_neg (by decide), if_neg (by decide), if_neg (by decide), if_neg (by decide), if_pos rfl]
  (repeat' split) <;> first | rfl | (exfalso; omega) | (exfalso; simp only [decide_eq_true_eq] at *; omega)
theorem jn_36 (a b : Int) (S : jSt) : f_X2_joined 36 a b S = some (jn2 36 a b, S) := by
  have ej : jn2 36 a b = if decide (¬ a = b) = true then 1 else 0 := rfl
  rw [ej]
  unfold f_X2_joined f_X2_joined_b137 f_X2_joined_b117 f_X2_joined_b154 f_X2_joined_b159 f_X2_joined_b176 f_X2_joined_b177 f_X2_joined_b189 f_X2_joined_b201 f_X2_joined_b213 f_X2_joined_b225 f_X2_joined_b237 f_X2_joined_b238 f_X2_joined_b249
  rw [if_neg (by decide), if_neg (by decide), if_neg (by decide), if_neg (by decide), if_neg (by decide), if_neg (by decide), if_neg (by decide), if_neg (by decide), if_neg (by decide), if_neg (by decide), if_pos rfl]
  (repeat' split) <;> first | rfl | (exfalso; omega) | (exfalso; simp only [decide_eq_true_eq] at *; omega)
theorem jn_37 {a b : Int} (ha : bdv a) (hb : bdv b) (S : jSt) : f_X2_joined 37 a b S = some (jn2 37 a b, S) := by
  have ha' := ha
  have hb' := hb
  unfold bdv at ha' hb'
  have hm := mulb ha hb
  have ej : jn2 37 a b = clipv (a + b) := by
    unfold jn2
    rw [if_neg (by decide), if_neg (by decide), if_neg (by decide), if_pos (by decide), show ((37 : Int) - 31).toNat = 6 from rfl]
    unfold ar2
    rw [if_pos rfl]
  rw [ej]
  unfold f_X2_joined
  rw [if_neg (by decide), if_neg (by decide), if_neg (by decide), if_neg (by decide), if_neg (by decide), if_neg (by decide), if_neg (by decide), if_neg (by decide), if_neg (by decide), if_neg (by decide), if_neg (by decide), if_pos rfl, flet_eq, w64_of (by omega) (by omega), s_b250 _ (by omega)]
theorem jn_38 {a b : Int} (ha : bdv a) (hb : bdv b) (S : jSt) : f_X2_joined 38 a b S = some (jn2 38 a b, S) := by
  have ha' := ha
  have hb' := hb
  unfold bdv at ha' hb'
  have hm := mulb ha hb
  have ej : jn2 38 a b = clipv (a - b) := by
    unfold jn2
    rw [if_neg (by decide), if_neg (by decide), if_neg (by decide), if_pos (by decide), show ((38 : Int) - 31).toNat = 7 from rfl]
    unfold ar2
    rw [if_neg (by decide), if_pos rfl]
  rw [ej]
  unfold f_X2_joined
  rw [if_neg (by decide), if_neg (by decide), if_neg (by decide), if_neg (by decide), if_neg (by decide), if_neg (by decide), if_neg (by decide), if_neg (by decide), if_neg (by decide), if_neg (by decide), if_neg (by decide), if_neg (by decide), if_pos rfl, flet_eq, w64_of (by omega) (by omega), s_b250 _ (by omega)]
theorem jn_39 {a b : Int} (ha : bdv a) (hb : bdv b) (S : jSt) : f_X2_joined 39 a b S = some (jn2 39 a b, S) := by
  have ha' := ha
  have hb' := hb
  unfold bdv at ha' hb'
  have hm := mulb ha hb
  have ej : jn2 39 a b = clipv (a * b) := by
    unfold jn2
    rw [if_neg (by decide), if_neg (by decide), if_neg (by decide), if_pos (by decide), show ((39 : Int) - 31).toNat = 8 from rfl]
    unfold ar2
    rw [if_neg (by decide), if_neg (by decide), if_pos rfl]
  rw [ej]
  unfold f_X2_joined
  rw [if_neg (by decide), if_neg (by decide), if_neg (by decide), if_neg (by decide), if_neg (by decide), if_neg (by decide), if_neg (by decide), if_neg (by decide), if_neg (by decide), if_neg (by decide), if_neg (by decide), if_neg (by decide), if_neg (by decide), if_pos rfl, flet_eq, w64_of (by omega) (by omega), s_b250 _ (by omega)]
theorem jn_40 {a b : Int} (ha : bdv a) (hb : bdv b) (S : jSt) : f_X2_joined 40 a b S = some (jn2 40 a b, S) := by
  have ha' := ha
  have hb' := hb
  unfold bdv at ha' hb'
  have hd := tdivb (y := b) ha
  have ej : jn2 40 a b = if b = 0 then 0 else clipv (a.tdiv b) := rfl
  rw [ej]
  unfold f_X2_joined f_X2_joined_b117
  rw [if_neg (by decide), if_neg (by decide), if_neg (by decide), if_neg (by decide), if_neg (by decide), if_neg (by decide), if_neg (by decide), if_neg (by decide), if_neg (by decide), if_neg (by decide), if_neg (by decide), if_neg (by decide), if_neg (by decide), if_neg (by decide), if_pos rfl]
  by_cases h0 : b = 0
  · rw [if_pos h0, if_pos h0, s_b250 0 (by omega), clip_0]
  · rw [if_neg h0, if_neg h0, if_neg h0, ldiv_t ⟨by omega, by omega⟩ ⟨by omega, by omega⟩ ⟨by omega, by omega⟩, s_b250 _ (by omega)]
theorem c_joined {k a b : Int} (ha : bdv a) (hb : bdv b) (hk : k = 26 ∨ k = 28 ∨ k = 29 ∨ (31 ≤ k ∧ k ≤ 40)) (S : jSt) : f_X2_joined k a b S = some (jn2 k a b, S) := by
  have kk : k = 26 ∨ k = 28 ∨ k = 29 ∨ k = 31 ∨ k = 32 ∨ k = 33 ∨ k = 34 ∨ k = 35 ∨ k = 36 ∨ k = 37 ∨ k = 38 ∨ k = 39 ∨ k = 40 := by omega
  rcases kk with rfl | rfl | rfl | rfl | rfl | rfl | rfl | rfl | rfl | rfl | rfl | rfl | rfl
  · exact jn_26 ha hb S
  · exact jn_28 a b S
  · exact jn_29 a b S
  · exact jn_31 a b S
  · exact jn_32 a b S
  · exact jn_33 a b S
  · exact jn_34 a b S
  · exact jn_35 a b S
  · exact jn_36 a b S
  · exact jn_37 ha hb S
  · exact jn_38 ha hb S
  · exact jn_39 ha hb S
  · exact jn_40 ha hb S
