-- the count of bits below 64
theorem bc64 (S : jSt) : ∀ n : Nat, n < 64 → f_J6_bitCount_0f7a4 (n : Int) S = some (((pcf 31 n : Nat) : Int), S) := by
  have key : ∀ n : Nat, n < 64 → (f_J6_bitCount_0f7a4 (n : Int) ((0, 0, fun _ => (9, 0), fun _ _ => 0) : jSt)).map (fun p => p.1) = some ((pcf 31 n : Nat) : Int) := by decide +kernel
  intro n hn
  have h := key n hn
  have e : ∀ S : jSt, f_J6_bitCount_0f7a4 (n : Int) S = ((f_J6_bitCount_0f7a4 (n : Int) ((0, 0, fun _ => (9, 0), fun _ _ => 0) : jSt)).map (fun p => p.1)).map (fun v => (v, S)) := fun S => rfl
  rw [e S, h]
  rfl
theorem pc64 : ∀ n : Nat, n < 64 → pcf 31 n ≤ 6 := by decide +kernel
theorem iand_le (v : Nat) (hv : v < 64) (z : Int) : 0 ≤ iand32 (v : Int) z ∧ iand32 (v : Int) z < 64 := by
  unfold iand32
  have h1 : Int32.ofInt z = nI (Int32.ofInt z).toBitVec.toNat := by
    generalize Int32.ofInt z = w
    exact Int32.toBitVec_inj.mp (by show w.toBitVec = BitVec.ofNat 32 w.toBitVec.toNat; rw [BitVec.ofNat_toNat, BitVec.setWidth_eq])
  have h2 : v &&& (Int32.ofInt z).toBitVec.toNat ≤ v := Nat.and_le_left
  rw [ofN, h1, nI_and, toN (by omega)]
  omega
