def RwO (a : Nat → Int) : Prop := ∀ k : Nat, (k : Int) < a 4 → (0 ≤ a (193 + 155 * k) ∧ a (193 + 155 * k) ≤ a 0) ∧ (0 ≤ a (194 + 155 * k) ∧ a (194 + 155 * k) ≤ a 1)
def bidA (a : Nat → Int) (p : Int) : Nat → Int := fun k => if k = 1 then a 1 + 1 else if 71 + 14 * (a 1).toNat ≤ k ∧ k < 71 + 14 * (a 1).toNat + 14 then (if k = 71 + 14 * (a 1).toNat ∨ k = 71 + 14 * (a 1).toNat + 13 then p else 0) else a k
def wanA (n : Nat) (a : Nat → Int) (b l : Nat) (z : Int) : Nat → Int := fun k => if k = 72 + 14 * b + l then z else if 193 ≤ k ∧ k < 193 + 155 * n ∧ (k - 193) % 155 = 31 + 13 * b + l then z else a k
section TA
variable {a : Nat → Int}
theorem RwO_undo (h : RwO a) (h4 : a 4 ≤ 30) : RwO (undoA a) := by
  intro k hk
  rw [undoA_4] at hk
  have := h k (by omega)
  rw [undoA_pl a (by omega), undoA_pl a (k := 194 + 155 * k) (by omega), undoA_pl a (k := 0) (by omega), undoA_pl a (k := 1) (by omega)]
  exact this
theorem undX_lt (h4 : 1 ≤ a 4 ∧ a 4 ≤ 30) : 193 ≤ undX a ∧ undX a + 155 ≤ 4843 := by unfold undX; omega
theorem lotA_v (a : Nat → Int) (fl wo we : Int) (h : 0 ≤ a 0 ∧ a 0 < 12) (k : Nat) : lotA a fl wo we k = if k = 0 then a 0 + 1 else if 11 + 5 * (a 0).toNat ≤ k ∧ k < 11 + 5 * (a 0).toNat + 5 then (if k = 11 + 5 * (a 0).toNat + 1 then 0 else if k = 11 + 5 * (a 0).toNat + 2 then wo else if k = 11 + 5 * (a 0).toNat + 3 then we else fl) else a k := by
  unfold lotA va_up
  (repeat' split) <;> first | rfl | omega
theorem lotA_N (fl wo we : Int) (h : 0 ≤ a 0 ∧ a 0 < 12) {w : Nat} (hw : w < 5) : lotA a fl wo we (11 + 5 * (a 0).toNat + w) = if w = 1 then 0 else if w = 2 then wo else if w = 3 then we else fl := by
  rw [lotA_v a fl wo we h, if_neg (by omega), if_pos (by omega)]
  (repeat' split) <;> first | rfl | omega
theorem lotA_O (fl wo we : Int) (h : 0 ≤ a 0 ∧ a 0 < 12) {l w : Nat} (hl : l ≠ (a 0).toNat) (hw : w < 5) : lotA a fl wo we (11 + 5 * l + w) = a (11 + 5 * l + w) := by
  rw [lotA_v a fl wo we h, if_neg (by omega), if_neg (by omega)]
theorem lotA_H (fl wo we : Int) (h : 0 ≤ a 0 ∧ a 0 < 12) {k : Nat} (k0 : k ≠ 0) (hk : k < 11 ∨ 71 ≤ k) : lotA a fl wo we k = a k := by
  rw [lotA_v a fl wo we h, if_neg k0, if_neg (by omega)]
theorem lotA_0 (fl wo we : Int) (h : 0 ≤ a 0 ∧ a 0 < 12) : lotA a fl wo we 0 = a 0 + 1 := by
  rw [lotA_v a fl wo we h, if_pos rfl]
theorem undo_lot (fl wo we : Int) (h : 0 ≤ a 0 ∧ a 0 < 12) (h4 : 1 ≤ a 4 ∧ a 4 ≤ 30) (hr : a (undX a) ≤ a 0) : undoA (lotA a fl wo we) = lotA (undoA a) fl wo we := by
  have hX := undX_lt h4
  have e0 : undoA a 0 = a 0 := undoA_pl a (by omega)
  have h' : 0 ≤ undoA a 0 ∧ undoA a 0 < 12 := by rw [e0]; exact h
  have hi : ∀ k, 71 ≤ k → lotA a fl wo we k = a k := fun k hk => lotA_H fl wo we h (by omega) (by omega)
  have e4 : lotA a fl wo we 4 = a 4 := lotA_H fl wo we h (by omega) (by omega)
  have e1 : lotA a fl wo we 1 = a 1 := lotA_H fl wo we h (by omega) (by omega)
  have l0 : lotA a fl wo we 0 = a 0 + 1 := lotA_0 fl wo we h
  have eX : undX (lotA a fl wo we) = undX a := by unfold undX; rw [e4]
  funext k
  by_cases k0 : k = 0
  · rw [k0, undoA_pl _ (by omega), l0, lotA_0 fl wo we h', e0]
  · by_cases k71 : 11 ≤ k ∧ k < 71
    · obtain ⟨l, w, hl, hw, rfl⟩ : ∃ l w, l < 12 ∧ w < 5 ∧ k = 11 + 5 * l + w := ⟨(k - 11) / 5, (k - 11) % 5, by omega, by omega, by omega⟩
      rw [undoA_l _ hl hw, l0, eX, hi (undX a) (by omega), hi (undX a + 6 + 2 * l) (by omega), hi (undX a + 7 + 2 * l) (by omega)]
      by_cases hln : l = (a 0).toNat
      · subst hln
        have q := lotA_N (a := undoA a) fl wo we h' hw
        rw [e0] at q
        have nlt : ¬ (((a 0).toNat : Nat) : Int) < a (undX a) := by omega
        rw [q, lotA_N fl wo we h (w := 4) (by omega), lotA_N fl wo we h hw, if_pos (by omega), if_neg nlt, if_neg nlt]
        (repeat' split) <;> first | rfl | omega
      · have q := lotA_O (a := undoA a) fl wo we h' (l := l) (by rw [e0]; exact hln) hw
        rw [q, lotA_O fl wo we h hln (w := 4) (by omega), lotA_O fl wo we h hln hw, undoA_l _ hl hw]
        by_cases hlt : (l : Int) < a 0
        · rw [if_pos (show (l : Int) < a 0 + 1 by omega), if_pos hlt]
        · rw [if_neg (show ¬ (l : Int) < a 0 + 1 by omega), if_neg hlt]
    · rw [lotA_H (a := undoA a) fl wo we h' k0 (by omega)]
      by_cases k4 : k = 4
      · rw [k4, undoA_4, undoA_4, e4]
      · by_cases k7 : 7 ≤ k ∧ k < 11
        · obtain ⟨j, rfl⟩ : ∃ j, k = 7 + j := ⟨k - 7, by omega⟩
          rw [undoA_7 _ (by omega), undoA_7 _ (by omega), eX, hi _ (by omega)]
        · by_cases kb : 71 ≤ k ∧ k < 141
          · obtain ⟨b, w, hb, hw, rfl⟩ : ∃ b w, b < 5 ∧ w < 14 ∧ k = 71 + 14 * b + w := ⟨(k - 71) / 14, (k - 71) % 14, by omega, by omega, by omega⟩
            rw [undoA_b _ hb hw, undoA_b _ hb hw, e1, eX, hi (undX a + 1) (by omega), hi (undX a + 30 + 13 * b + w) (by omega), hi (71 + 14 * b + w) (by omega), hi (71 + 14 * b + 13) (by omega)]
          · by_cases kk : 4843 ≤ k ∧ k < 4903
            · obtain ⟨j, rfl⟩ : ∃ j, k = 4843 + j := ⟨k - 4843, by omega⟩
              rw [undoA_k _ (by omega), undoA_k _ (by omega), eX, hi _ (by omega)]
            · rw [undoA_pl _ (by omega), undoA_pl _ (by omega), lotA_H fl wo we h k0 (by omega)]
theorem bidA_N (p : Int) {w : Nat} (hw : w < 14) : bidA a p (71 + 14 * (a 1).toNat + w) = if w = 0 ∨ w = 13 then p else 0 := by
  unfold bidA
  rw [if_neg (by omega), if_pos (by omega)]
  by_cases q : w = 0 ∨ w = 13
  · rw [if_pos q, if_pos (by omega)]
  · rw [if_neg q, if_neg (by omega)]
theorem bidA_O (p : Int) {b w : Nat} (hb : b ≠ (a 1).toNat) (hw : w < 14) : bidA a p (71 + 14 * b + w) = a (71 + 14 * b + w) := by
  unfold bidA
  rw [if_neg (by omega), if_neg (by omega)]
theorem bidA_H (p : Int) (h : 0 ≤ a 1 ∧ a 1 < 5) {k : Nat} (k1 : k ≠ 1) (hk : k < 71 ∨ 141 ≤ k) : bidA a p k = a k := by
  unfold bidA
  rw [if_neg k1, if_neg (by omega)]
theorem bidA_1 (p : Int) : bidA a p 1 = a 1 + 1 := by
  unfold bidA
  rw [if_pos rfl]
theorem undo_bid (p : Int) (h : 0 ≤ a 1 ∧ a 1 < 5) (h4 : 1 ≤ a 4 ∧ a 4 ≤ 30) (hr : a (undX a + 1) ≤ a 1) : undoA (bidA a p) = bidA (undoA a) p := by
  have hX := undX_lt h4
  have e1' : undoA a 1 = a 1 := undoA_pl a (by omega)
  have h' : 0 ≤ undoA a 1 ∧ undoA a 1 < 5 := by rw [e1']; exact h
  have hi : ∀ k, (k < 71 ∨ 141 ≤ k) → k ≠ 1 → bidA a p k = a k := fun k hk h1 => bidA_H p h h1 hk
  have e4 : bidA a p 4 = a 4 := hi 4 (by omega) (by omega)
  have e0 : bidA a p 0 = a 0 := hi 0 (by omega) (by omega)
  have l1 : bidA a p 1 = a 1 + 1 := bidA_1 p
  have eX : undX (bidA a p) = undX a := by unfold undX; rw [e4]
  funext k
  by_cases k1 : k = 1
  · rw [k1, undoA_pl _ (by omega), l1, bidA_1, e1']
  · by_cases k71 : 71 ≤ k ∧ k < 141
    · obtain ⟨b, w, hb, hw, rfl⟩ : ∃ b w, b < 5 ∧ w < 14 ∧ k = 71 + 14 * b + w := ⟨(k - 71) / 14, (k - 71) % 14, by omega, by omega, by omega⟩
      rw [undoA_b _ hb hw, l1, eX, hi (undX a + 1) (by omega) (by omega), hi (undX a + 30 + 13 * b + w) (by omega) (by omega)]
      by_cases hln : b = (a 1).toNat
      · subst hln
        have q := bidA_N (a := undoA a) p hw
        rw [e1'] at q
        rw [q, bidA_N p (w := 13) (by omega), bidA_N p hw, if_pos (show (((a 1).toNat : Nat) : Int) < a 1 + 1 by omega), if_neg (show ¬ (((a 1).toNat : Nat) : Int) < a (undX a + 1) by omega)]
        (repeat' split) <;> first | rfl | omega
      · have q := bidA_O (a := undoA a) p (b := b) (by rw [e1']; exact hln) hw
        rw [q, bidA_O p hln (w := 13) (by omega), bidA_O p hln hw, undoA_b _ hb hw]
        by_cases hlt : (b : Int) < a 1
        · rw [if_pos (show (b : Int) < a 1 + 1 by omega), if_pos hlt]
        · rw [if_neg (show ¬ (b : Int) < a 1 + 1 by omega), if_neg hlt]
    · rw [bidA_H (a := undoA a) p h' k1 (by omega)]
      by_cases k4 : k = 4
      · rw [k4, undoA_4, undoA_4, e4]
      · by_cases k7 : 7 ≤ k ∧ k < 11
        · obtain ⟨j, rfl⟩ : ∃ j, k = 7 + j := ⟨k - 7, by omega⟩
          rw [undoA_7 _ (by omega), undoA_7 _ (by omega), eX, hi _ (by omega) (by omega)]
        · by_cases kb : 11 ≤ k ∧ k < 71
          · obtain ⟨l, w, hl, hw, rfl⟩ : ∃ l w, l < 12 ∧ w < 5 ∧ k = 11 + 5 * l + w := ⟨(k - 11) / 5, (k - 11) % 5, by omega, by omega, by omega⟩
            rw [undoA_l _ hl hw, undoA_l _ hl hw, e0, eX, hi (undX a) (by omega) (by omega), hi (undX a + 6 + 2 * l) (by omega) (by omega), hi (undX a + 7 + 2 * l) (by omega) (by omega), hi (11 + 5 * l + 4) (by omega) (by omega), hi (11 + 5 * l + w) (by omega) (by omega)]
          · by_cases kk : 4843 ≤ k ∧ k < 4903
            · obtain ⟨j, rfl⟩ : ∃ j, k = 4843 + j := ⟨k - 4843, by omega⟩
              rw [undoA_k _ (by omega), undoA_k _ (by omega), eX, hi _ (by omega) (by omega)]
            · rw [undoA_pl _ (by omega), undoA_pl _ (by omega), hi _ (by omega) k1]
theorem undo_wan {n b l : Nat} (z : Int) (hn : n ≤ 30) (h4 : 1 ≤ a 4 ∧ a 4 ≤ (n : Int)) (hb : (b : Int) < a 1) (hb5 : b < 5) (hl : l < 12) : undoA (wanA n a b l z) = wanA n (undoA a) b l z := by
  have hX := undX_lt (a := a) ⟨h4.1, by omega⟩
  have lo : ∀ k, wanA n a b l z k = if k = 72 + 14 * b + l then z else if 193 ≤ k ∧ k < 193 + 155 * n ∧ (k - 193) % 155 = 31 + 13 * b + l then z else a k := fun k => rfl
  have hi : ∀ k, k < 193 → k ≠ 72 + 14 * b + l → wanA n a b l z k = a k := fun k hk h1 => by rw [lo, if_neg h1, if_neg (by omega)]
  have hi2 : ∀ q, q < 155 → q ≠ 31 + 13 * b + l → wanA n a b l z (undX a + q) = a (undX a + q) := fun q hq h1 => by
    rw [lo, if_neg (by omega), if_neg]
    unfold undX
    omega
  have hi3 : wanA n a b l z (undX a + (31 + 13 * b + l)) = z := by
    rw [lo, if_neg (by omega), if_pos]
    unfold undX
    omega
  have e4 : wanA n a b l z 4 = a 4 := hi 4 (by omega) (by omega)
  have e0 : wanA n a b l z 0 = a 0 := hi 0 (by omega) (by omega)
  have e1 : wanA n a b l z 1 = a 1 := hi 1 (by omega) (by omega)
  have eX : undX (wanA n a b l z) = undX a := by unfold undX; rw [e4]
  funext k
  show _ = if k = 72 + 14 * b + l then z else if 193 ≤ k ∧ k < 193 + 155 * n ∧ (k - 193) % 155 = 31 + 13 * b + l then z else undoA a k
  by_cases k71 : 71 ≤ k ∧ k < 141
  · obtain ⟨q, w, hq, hw, rfl⟩ : ∃ q w, q < 5 ∧ w < 14 ∧ k = 71 + 14 * q + w := ⟨(k - 71) / 14, (k - 71) % 14, by omega, by omega, by omega⟩
    rw [undoA_b _ hq hw, undoA_b _ hq hw, e1, eX, hi2 1 (by omega) (by omega), hi (71 + 14 * q + 13) (by omega) (by omega), if_neg (show ¬ (193 ≤ 71 + 14 * q + w ∧ 71 + 14 * q + w < 193 + 155 * n ∧ (71 + 14 * q + w - 193) % 155 = 31 + 13 * b + l) by omega)]
    by_cases hk : 71 + 14 * q + w = 72 + 14 * b + l
    · have eq : q = b := by omega
      have ew : w = 1 + l := by omega
      subst eq
      subst ew
      rw [if_pos hk, if_pos hb, if_pos (show 1 + l < 13 by omega), if_neg (show ¬ 1 + l = 0 by omega), show undX a + 30 + 13 * q + (1 + l) = undX a + (31 + 13 * q + l) by omega, hi3, lo (71 + 14 * q + (1 + l)), if_pos hk]
      split <;> rfl
    · rw [if_neg hk, hi (71 + 14 * q + w) (by omega) hk]
      by_cases hw13 : w < 13
      · rw [if_pos hw13, if_pos hw13, show undX a + 30 + 13 * q + w = undX a + (30 + 13 * q + w) by omega, hi2 (30 + 13 * q + w) (by omega) (by omega)]
      · rw [if_neg hw13, if_neg hw13]
  · rw [if_neg (by omega)]
    by_cases k4 : k = 4
    · rw [k4, undoA_4, undoA_4, e4, if_neg (by omega)]
    · by_cases k7 : 7 ≤ k ∧ k < 11
      · obtain ⟨j, rfl⟩ : ∃ j, k = 7 + j := ⟨k - 7, by omega⟩
        rw [undoA_7 _ (by omega), undoA_7 _ (by omega), eX, show undX a + 2 + j = undX a + (2 + j) by omega, hi2 _ (by omega) (by omega), if_neg (by omega)]
      · by_cases kb : 11 ≤ k ∧ k < 71
        · obtain ⟨q, w, hq, hw, rfl⟩ : ∃ q w, q < 12 ∧ w < 5 ∧ k = 11 + 5 * q + w := ⟨(k - 11) / 5, (k - 11) % 5, by omega, by omega, by omega⟩
          have hx0 := hi2 0 (by omega) (by omega)
          rw [Nat.add_zero] at hx0
          rw [undoA_l _ hq hw, undoA_l _ hq hw, e0, eX, hx0, show undX a + 6 + 2 * q = undX a + (6 + 2 * q) by omega, show undX a + 7 + 2 * q = undX a + (7 + 2 * q) by omega, hi2 (6 + 2 * q) (by omega) (by omega), hi2 (7 + 2 * q) (by omega) (by omega), hi (11 + 5 * q + 4) (by omega) (by omega), hi (11 + 5 * q + w) (by omega) (by omega), if_neg (show ¬ (193 ≤ 11 + 5 * q + w ∧ 11 + 5 * q + w < 193 + 155 * n ∧ (11 + 5 * q + w - 193) % 155 = 31 + 13 * b + l) by omega)]
        · by_cases kk : 4843 ≤ k ∧ k < 4903
          · obtain ⟨j, rfl⟩ : ∃ j, k = 4843 + j := ⟨k - 4843, by omega⟩
            rw [undoA_k _ (by omega), undoA_k _ (by omega), eX, show undX a + 95 + j = undX a + (95 + j) by omega, hi2 _ (by omega) (by omega), if_neg (by omega)]
          · rw [undoA_pl _ (by omega), undoA_pl _ (by omega), lo, if_neg (by omega)]
theorem und_lot (fl wo we : Int) (j : Nat) : ∀ {a : Nat → Int}, (0 ≤ a 0 ∧ a 0 < 12) → a 4 ≤ 30 → RwO a → (j : Int) ≤ a 4 → und j (lotA a fl wo we) = lotA (und j a) fl wo we := by
  induction j with
  | zero => intro a _ _ _ _; rfl
  | succ j ih =>
    intro a h h4 hr hj
    have hx := hr ((a 4).toNat - 1) (by omega)
    show und j (undoA (lotA a fl wo we)) = lotA (und j (undoA a)) fl wo we
    rw [undo_lot fl wo we h (by omega) (by unfold undX; rw [show (a 4 - 1).toNat = (a 4).toNat - 1 by omega]; exact hx.1.2)]
    exact ih (by rw [undoA_pl a (by omega)]; exact h) (by rw [undoA_4]; omega) (RwO_undo hr h4) (by rw [undoA_4]; omega)
theorem und_bid (p : Int) (j : Nat) : ∀ {a : Nat → Int}, (0 ≤ a 1 ∧ a 1 < 5) → a 4 ≤ 30 → RwO a → (j : Int) ≤ a 4 → und j (bidA a p) = bidA (und j a) p := by
  induction j with
  | zero => intro a _ _ _ _; rfl
  | succ j ih =>
    intro a h h4 hr hj
    have hx := hr ((a 4).toNat - 1) (by omega)
    show und j (undoA (bidA a p)) = bidA (und j (undoA a)) p
    rw [undo_bid p h (by omega) (by unfold undX; rw [show (a 4 - 1).toNat = (a 4).toNat - 1 by omega, show 193 + 155 * ((a 4).toNat - 1) + 1 = 194 + 155 * ((a 4).toNat - 1) by omega]; exact hx.2.2)]
    exact ih (by rw [undoA_pl a (by omega)]; exact h) (by rw [undoA_4]; omega) (RwO_undo hr h4) (by rw [undoA_4]; omega)
theorem und_wan {n b l : Nat} (z : Int) (hn : n ≤ 30) (hb5 : b < 5) (hl : l < 12) (j : Nat) : ∀ {a : Nat → Int}, (b : Int) < a 1 → a 4 ≤ (n : Int) → (j : Int) ≤ a 4 → und j (wanA n a b l z) = wanA n (und j a) b l z := by
  induction j with
  | zero => intro a _ _ _; rfl
  | succ j ih =>
    intro a hb h4 hj
    show und j (undoA (wanA n a b l z)) = wanA n (und j (undoA a)) b l z
    rw [undo_wan z hn (by omega) hb hb5 hl]
    exact ih (by rw [undoA_pl a (by omega)]; exact hb) (by rw [undoA_4]; omega) (by rw [undoA_4]; omega)
end TA
