-- TOKENS, PURE
def isLetP (c : Int) : Bool := decide ((97 ≤ c ∧ c ≤ 122) ∨ (65 ≤ c ∧ c ≤ 90))
def isDigP (c : Int) : Bool := decide (48 ≤ c ∧ c ≤ 57)
def isBlk (c : Int) : Bool := decide (c = 32 ∨ c = 10)
def runE (pr : Int → Bool) (B : Nat → Int) : Nat → Nat → Nat
  | 0, p => p
  | n + 1, p => if pr (B p) = true then runE pr B n (p + 1) else p
def rE (pr : Int → Bool) (B : Nat → Int) (L p : Nat) : Nat := runE pr B (L - p) p
theorem rE_1 {pr : Int → Bool} {B : Nat → Int} {L p : Nat} (h : p < L) (hp : pr (B p) = true) : rE pr B L p = rE pr B L (p + 1) := by
  unfold rE
  rw [show L - p = (L - (p + 1)) + 1 by omega, runE, if_pos hp]
theorem rE_0 {pr : Int → Bool} {B : Nat → Int} {L p : Nat} (h : L ≤ p ∨ pr (B p) = false) : rE pr B L p = p := by
  unfold rE
  by_cases q : p < L
  · rw [show L - p = (L - (p + 1)) + 1 by omega, runE, if_neg (by
      rcases h with h | h
      · omega
      · rw [h]; decide)]
  · rw [show L - p = 0 by omega, runE]
theorem rE_b {pr : Int → Bool} {B : Nat → Int} {L : Nat} : ∀ (d p : Nat), L - p = d → p ≤ L → p ≤ rE pr B L p ∧ rE pr B L p ≤ L ∧ (∀ i, p ≤ i → i < rE pr B L p → pr (B i) = true) ∧ (rE pr B L p < L → pr (B (rE pr B L p)) = false) := by
  intro d
  induction d with
  | zero =>
    intro p hd hp
    rw [rE_0 (by omega)]
    exact ⟨by omega, by omega, fun i h1 h2 => by omega, fun h => by omega⟩
  | succ d ih =>
    intro p hd hp
    by_cases q : pr (B p) = true
    · rw [rE_1 (by omega) q]
      obtain ⟨i1, i2, i3, i4⟩ := ih (p + 1) (by omega) (by omega)
      refine ⟨by omega, i2, fun i h1 h2 => ?_, i4⟩
      by_cases e : i = p
      · rw [e]; exact q
      · exact i3 i (by omega) h2
    · have q' : pr (B p) = false := by
        cases h : pr (B p) with
        | true => exact absurd h q
        | false => rfl
      rw [rE_0 (Or.inr q')]
      exact ⟨by omega, by omega, fun i h1 h2 => by omega, fun _ => q'⟩
def skp (B : Nat → Int) (L p : Nat) : Nat := rE isBlk B L p
def tnd (B : Nat → Int) (L p : Nat) : Nat := if L ≤ p then p else if isLetP (B p) = true then rE isLetP B L p else if isDigP (B p) = true then rE isDigP B L p else if (B p = 60 ∨ B p = 62) ∧ p + 1 < L ∧ B (p + 1) = 61 then p + 2 else p + 1
def psn (B : Nat → Int) (L : Nat) : Nat → Nat
  | 0 => skp B L 0
  | j + 1 => skp B L (tnd B L (psn B L j))
theorem skp_b {B : Nat → Int} {L p : Nat} (h : p ≤ L) : p ≤ skp B L p ∧ skp B L p ≤ L := ⟨(rE_b (L - p) p rfl h).1, (rE_b (L - p) p rfl h).2.1⟩
theorem tnd_b {B : Nat → Int} {L p : Nat} (h : p ≤ L) : p ≤ tnd B L p ∧ tnd B L p ≤ L ∧ (p < L → p < tnd B L p) := by
  unfold tnd
  by_cases q : L ≤ p
  · rw [if_pos q]; omega
  · rw [if_neg q]
    by_cases q1 : isLetP (B p) = true
    · rw [if_pos q1, rE_1 (by omega) q1]
      have := rE_b (pr := isLetP) (B := B) (L - (p + 1)) (p + 1) rfl (by omega)
      omega
    · rw [if_neg q1]
      by_cases q2 : isDigP (B p) = true
      · rw [if_pos q2, rE_1 (by omega) q2]
        have := rE_b (pr := isDigP) (B := B) (L - (p + 1)) (p + 1) rfl (by omega)
        omega
      · rw [if_neg q2]
        split <;> omega
theorem psn_b (B : Nat → Int) (L : Nat) : ∀ j, psn B L j ≤ L
  | 0 => (skp_b (by omega)).2
  | j + 1 => (skp_b (tnd_b (psn_b B L j)).2.1).2
theorem psn_j (B : Nat → Int) (L : Nat) : ∀ j, psn B L j < L → j ≤ psn B L j
  | 0, _ => by omega
  | j + 1, h => by
    have b := psn_b B L j
    have t := tnd_b (B := B) b
    have s := skp_b (B := B) t.2.1
    have e : psn B L (j + 1) = skp B L (tnd B L (psn B L j)) := rfl
    have hl : psn B L j < L := by omega
    have := psn_j B L j hl
    omega
def wvl (B : Nat → Int) (p : Nat) : Nat → Int
  | 0 => 0
  | n + 1 => wvl B p n * 256 + B (p + n)
def wcs : List Int := [1651074163, 32199693642659429, 512735997299, 108204795389298, 1936026732, 426836652665, 1651864174, 6452601, 7106420, 2002873972, 2003133803, 512970880104, 131277443786868, 439905906546, 483006772069, 7825519, 6840691, 28518, 25209, 6713202, 1952998766, 1701606245, 6647396, 26982, 7237492, 1702258030, 131320545306739, 28530, 6385252]
def wkl : List Int → Nat → Int → Nat
  | [], _, _ => 0
  | c :: r, k, z => if z = c then k else wkl r (k + 1) z
def wkv (z : Int) : Nat := wkl wcs 1 z
def wcd (k : Nat) : Int := wcs.getD (k - 1) 0
def tcd (k : Nat) : Int := if k = 30 then 1 else if k = 31 then 60 else if k = 32 then 4 else if k = 33 then 62 else if k = 34 then 5 else if k = 35 then 61 else if k = 36 then 35 else if k = 37 then 43 else if k = 38 then 45 else if k = 39 then 42 else if k = 40 then 47 else if k = 41 then 40 else if k = 42 then 41 else if k = 43 then 59 else 0
def cN (B : Nat → Int) (p : Nat) : Nat → Int
  | 0 => 0
  | n + 1 => imin 10000 (cN B p n * 10 + B (p + n) - 48)
def rN (B : Nat → Int) (p : Nat) : Nat → Int
  | 0 => 0
  | n + 1 => if rN B p n ≤ 99999 then 10 * rN B p n + B (p + n) - 48 else rN B p n
def rW (B : Nat → Int) (p : Nat) : Nat → Int
  | 0 => 0
  | n + 1 => if rW B p n < 281474976710656 then rW B p n * 256 + B (p + n) else 1152921504606846976
def sgk (c : Int) (two : Bool) : Nat := if c = 35 then 36 else if c = 40 then 41 else if c = 41 then 42 else if c = 42 then 39 else if c = 43 then 37 else if c = 45 then 38 else if c = 47 then 40 else if c = 59 then 43 else if c = 60 then (if two = true then 32 else 31) else if c = 61 then 35 else if c = 62 then (if two = true then 34 else 33) else 0
def kdA (B : Nat → Int) (L p : Nat) : Nat := if isLetP (B p) = true then wkv (wvl B p (tnd B L p - p)) else if isDigP (B p) = true then 30 else sgk (B p) (decide (p + 1 < tnd B L p))
def vlA (B : Nat → Int) (L p : Nat) : Int := if isLetP (B p) = true then 0 else if isDigP (B p) = true then cN B p (tnd B L p - p) else 0
theorem sgk_b (c : Int) (t : Bool) : sgk c t = 0 ∨ (31 ≤ sgk c t ∧ sgk c t ≤ 43) := by
  unfold sgk
  (repeat' split) <;> omega
theorem wkl_b (z : Int) : ∀ (l : List Int) (k : Nat), wkl l k z = 0 ∨ (k ≤ wkl l k z ∧ wkl l k z < k + l.length ∧ l.getD (wkl l k z - k) 0 = z) := by
  intro l
  induction l with
  | nil => intro k; exact Or.inl rfl
  | cons c r ih =>
    intro k
    rw [wkl]
    by_cases h : z = c
    · rw [if_pos h]
      right
      refine ⟨by omega, by rw [List.length_cons]; omega, ?_⟩
      rw [Nat.sub_self]
      exact h.symm
    · rw [if_neg h]
      rcases ih (k + 1) with h0 | ⟨h1, h2, h3⟩
      · exact Or.inl h0
      · right
        refine ⟨by omega, by rw [List.length_cons]; omega, ?_⟩
        rw [show wkl r (k + 1) z - k = (wkl r (k + 1) z - (k + 1)) + 1 by omega]
        exact h3
theorem wkv_b (z : Int) : wkv z ≤ 29 := by
  have h := wkl_b z wcs 1
  have e : wcs.length = 29 := rfl
  unfold wkv
  omega
theorem cN_b (B : Nat → Int) (p : Nat) : ∀ n, (∀ i, i < n → 48 ≤ B (p + i) ∧ B (p + i) ≤ 57) → 0 ≤ cN B p n ∧ cN B p n ≤ 10000
  | 0, _ => by unfold cN; omega
  | n + 1, h => by
    have ih := cN_b B p n (fun i hi => h i (by omega))
    have hb := h n (by omega)
    unfold cN imin
    split <;> omega
theorem rN_c (B : Nat → Int) (p : Nat) : ∀ n, (∀ i, i < n → 48 ≤ B (p + i) ∧ B (p + i) ≤ 57) → (0 ≤ rN B p n ∧ rN B p n ≤ 1000000) ∧ (cN B p n ≤ 9999 → rN B p n = cN B p n) ∧ (9999 < cN B p n → 9999 < rN B p n)
  | 0, _ => by unfold cN rN; omega
  | n + 1, h => by
    have ih := rN_c B p n (fun i hi => h i (by omega))
    have cb := cN_b B p n (fun i hi => h i (by omega))
    have hb := h n (by omega)
    unfold cN rN imin
    (repeat' split) <;> omega
theorem kdA_b (B : Nat → Int) (L p : Nat) : kdA B L p < 44 := by
  unfold kdA
  split
  · have := wkv_b (wvl B p (tnd B L p - p)); omega
  · split
    · omega
    · have := sgk_b (B p) (decide (p + 1 < tnd B L p)); omega
theorem wvl_inj {B D : Nat → Int} {p s : Nat} : ∀ (n l : Nat), (∀ i, i < n → 1 ≤ B (p + i) ∧ B (p + i) ≤ 255) → (∀ i, i < l → 1 ≤ D (s + i) ∧ D (s + i) ≤ 255) → wvl B p n = wvl D s l → n = l ∧ ∀ i, i < n → B (p + i) = D (s + i) := by
  have nn : ∀ (E : Nat → Int) (q n : Nat), (∀ i, i < n → 1 ≤ E (q + i) ∧ E (q + i) ≤ 255) → 0 ≤ wvl E q n := fun E q n => by
    induction n with
    | zero => intro _; unfold wvl; omega
    | succ n ih =>
      intro h
      have := ih (fun i hi => h i (by omega))
      have := h n (by omega)
      unfold wvl
      omega
  intro n
  induction n with
  | zero =>
    intro l hB hD h
    cases l with
    | zero => exact ⟨rfl, fun i hi => by omega⟩
    | succ l =>
      have h1 := nn D s l (fun i hi => hD i (by omega))
      have h2 := hD l (by omega)
      unfold wvl at h
      omega
  | succ n ih =>
    intro l hB hD h
    cases l with
    | zero =>
      have h1 := nn B p n (fun i hi => hB i (by omega))
      have h2 := hB n (by omega)
      unfold wvl at h
      omega
    | succ l =>
      have b1 := hB n (by omega)
      have b2 := hD l (by omega)
      have n1 := nn B p n (fun i hi => hB i (by omega))
      have n2 := nn D s l (fun i hi => hD i (by omega))
      rw [wvl, wvl] at h
      obtain ⟨e1, e2⟩ := ih l (fun i hi => hB i (by omega)) (fun i hi => hD i (by omega)) (by omega)
      subst e1
      refine ⟨rfl, fun i hi => ?_⟩
      by_cases e : i = n
      · subst e; omega
      · exact e2 i (by omega)
theorem wvl_lo (B : Nat → Int) (p : Nat) : ∀ n, (∀ i, i < n → 65 ≤ B (p + i) ∧ B (p + i) ≤ 122) → 0 ≤ wvl B p n ∧ (0 < n → 0 < wvl B p n)
  | 0, _ => by unfold wvl; omega
  | n + 1, h => by
    have ih := wvl_lo B p n (fun i hi => h i (by omega))
    have := h n (by omega)
    unfold wvl
    omega
/-- the reference's word is the value, up to seven letters; beyond it is too large for any -/
theorem rW_v (B : Nat → Int) (p : Nat) : ∀ n, (∀ i, i < n → 65 ≤ B (p + i) ∧ B (p + i) ≤ 122) → (n ≤ 7 → rW B p n = wvl B p n) ∧ (7 < n → rW B p n = 1152921504606846976 ∧ 18296152663326532 ≤ wvl B p n) ∧ (n ≤ 6 → wvl B p n < 281474976710656) ∧ (n = 7 → 281474976710656 ≤ wvl B p n ∧ wvl B p n < 72057594037927936)
  | 0, _ => by unfold rW wvl; omega
  | n + 1, h => by
    have ih := rW_v B p n (fun i hi => h i (by omega))
    have ih2 : n = 6 → 65 * 1099511627776 ≤ wvl B p n := fun e => by
      subst e
      have h0 := h 0 (by omega); have h1 := h 1 (by omega); have h2 := h 2 (by omega); have h3 := h 3 (by omega); have h4 := h 4 (by omega); have h5 := h 5 (by omega)
      simp only [wvl]
      omega
    have lo := wvl_lo B p n (fun i hi => h i (by omega))
    have hb := h n (by omega)
    have up : n ≤ 5 → wvl B p n < 1099511627776 := fun e => by
      have : n = 0 ∨ n = 1 ∨ n = 2 ∨ n = 3 ∨ n = 4 ∨ n = 5 := by omega
      rcases this with rfl | rfl | rfl | rfl | rfl | rfl
      · simp only [wvl]; omega
      · have h0 := h 0 (by omega); simp only [wvl]; omega
      · have h0 := h 0 (by omega); have h1 := h 1 (by omega); simp only [wvl]; omega
      · have h0 := h 0 (by omega); have h1 := h 1 (by omega); have h2 := h 2 (by omega); simp only [wvl]; omega
      · have h0 := h 0 (by omega); have h1 := h 1 (by omega); have h2 := h 2 (by omega); have h3 := h 3 (by omega); simp only [wvl]; omega
      · have h0 := h 0 (by omega); have h1 := h 1 (by omega); have h2 := h 2 (by omega); have h3 := h 3 (by omega); have h4 := h 4 (by omega); simp only [wvl]; omega
    obtain ⟨i1, i2, i3, i4⟩ := ih
    rw [rW, wvl]
    refine ⟨fun hn => ?_, fun hn => ?_, fun hn => ?_, fun hn => ?_⟩
    · have e := i1 (by omega)
      have := i3 (by omega)
      rw [e, if_pos (by omega)]
    · by_cases e7 : n = 7
      · have e := i1 (by omega)
        have := i4 e7
        rw [e, if_neg (by omega)]
        omega
      · have := i2 (by omega)
        rw [this.1, if_neg (by omega)]
        omega
    · have := up (by omega)
      omega
    · have := ih2 (by omega)
      have := i3 (by omega)
      omega
def TkR (t nu wo : Int) (k : Nat) (v : Int) : Prop := (∀ k', 1 ≤ k' → k' ≤ 29 → k' ≠ 2 → ((t = 2 ∧ wo = wcd k') ↔ k = k')) ∧ (∀ k', 30 ≤ k' → k' ≤ 44 → (t = tcd k' ↔ k = k')) ∧ (k = 30 → (v ≤ 9999 → nu = v) ∧ (9999 < v → 9999 < nu))
theorem wkv_c (z : Int) {k : Nat} (h1 : 1 ≤ k) (h2 : k ≤ 29) : wkv z = k ↔ z = wcd k := by
  have h : k = 1 ∨ k = 2 ∨ k = 3 ∨ k = 4 ∨ k = 5 ∨ k = 6 ∨ k = 7 ∨ k = 8 ∨ k = 9 ∨ k = 10 ∨ k = 11 ∨ k = 12 ∨ k = 13 ∨ k = 14 ∨ k = 15 ∨ k = 16 ∨ k = 17 ∨ k = 18 ∨ k = 19 ∨ k = 20 ∨ k = 21 ∨ k = 22 ∨ k = 23 ∨ k = 24 ∨ k = 25 ∨ k = 26 ∨ k = 27 ∨ k = 28 ∨ k = 29 := by omega
  refine ⟨fun e => ?_, fun e => ?_⟩
  · have q := wkl_b z wcs 1
    unfold wkv at e
    rw [e] at q
    rcases q with q | ⟨_, _, q⟩
    · omega
    · exact q.symm
  · rw [e]
    rcases h with rfl | rfl | rfl | rfl | rfl | rfl | rfl | rfl | rfl | rfl | rfl | rfl | rfl | rfl | rfl | rfl | rfl | rfl | rfl | rfl | rfl | rfl | rfl | rfl | rfl | rfl | rfl | rfl | rfl <;> decide
