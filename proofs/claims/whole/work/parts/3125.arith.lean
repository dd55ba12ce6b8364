theorem idiv_t {a b : Int} (ha : R32 a) (hb : R32 b) (h : R32 (a.tdiv b)) : idiv32 a b = a.tdiv b := by
  unfold idiv32
  rw [Int32.toInt_div, jto_of ha, jto_of hb]
  unfold R32 at h
  exact Int.bmod_eq_of_le (by omega) (by omega)
theorem idiv_n {a b : Int} (ha : 0 ≤ a) (ha2 : a ≤ 2147483647) (hb : 0 < b) (hb2 : b ≤ 2147483647) : idiv32 a b = a / b := by
  have h1 : a.tdiv b = a / b := Int.tdiv_eq_ediv_of_nonneg ha
  have h2 : 0 ≤ a / b := Int.ediv_nonneg ha (by omega)
  have h3 : a / b ≤ a := Int.ediv_le_self _ ha
  rw [idiv_t ⟨by omega, ha2⟩ ⟨by omega, hb2⟩ (by rw [h1]; exact ⟨by omega, by omega⟩), h1]
theorem irem_t {a b : Int} (ha : R32 a) (hb : R32 b) (h : R32 (a.tdiv b)) (h2 : R32 (a.tmod b)) : irem32 a b = a.tmod b := by
  unfold irem32
  have e : Int32.ofInt a / Int32.ofInt b = Int32.ofInt (a.tdiv b) := by
    rw [← idiv_t ha hb h]
    unfold idiv32
    rw [Int32.ofInt_toInt]
  rw [e, ← Int32.ofInt_mul, ← Int32.ofInt_sub]
  have e2 : a - a.tdiv b * b = a.tmod b := by
    rw [Int.tmod_def, Int.mul_comm]
  rw [e2]
  exact w32_id h2
theorem irem_n {a b : Int} (ha : 0 ≤ a) (ha2 : a ≤ 2147483647) (hb : 0 < b) (hb2 : b ≤ 2147483647) : irem32 a b = a % b := by
  have h1 : a.tdiv b = a / b := Int.tdiv_eq_ediv_of_nonneg ha
  have h2 : 0 ≤ a / b := Int.ediv_nonneg ha (by omega)
  have h3 : a / b ≤ a := Int.ediv_le_self _ ha
  have h4 : a.tmod b = a % b := Int.tmod_eq_emod_of_nonneg ha
  have h5 : 0 ≤ a % b := Int.emod_nonneg _ (by omega)
  have h6 : a % b < b := Int.emod_lt_of_pos _ hb
  rw [irem_t ⟨by omega, ha2⟩ ⟨by omega, hb2⟩ (by rw [h1]; exact ⟨by omega, by omega⟩) (by rw [h4]; exact ⟨by omega, by omega⟩), h4]
theorem w64_of {z : Int} (h1 : -9223372036854775808 ≤ z) (h2 : z ≤ 9223372036854775807) : w64 z = z := jto_of64 ⟨h1, h2⟩
theorem ldiv_t {a b : Int} (ha : R64 a) (hb : R64 b) (h : R64 (a.tdiv b)) : ldiv64 a b = a.tdiv b := by
  unfold ldiv64
  rw [Int64.toInt_div, jto_of64 ha, jto_of64 hb]
  unfold R64 at h
  exact Int.bmod_eq_of_le (by omega) (by omega)
theorem lrem_t {a b : Int} (ha : R64 a) (hb : R64 b) (h : R64 (a.tdiv b)) (h2 : R64 (a.tmod b)) : lrem64 a b = a.tmod b := by
  unfold lrem64
  have e : Int64.ofInt a / Int64.ofInt b = Int64.ofInt (a.tdiv b) := by
    rw [← ldiv_t ha hb h]
    unfold ldiv64
    rw [Int64.ofInt_toInt]
  rw [e, ← Int64.ofInt_mul, ← Int64.ofInt_sub]
  have e2 : a - a.tdiv b * b = a.tmod b := by
    rw [Int.tmod_def, Int.mul_comm]
  rw [e2]
  exact jto_of64 h2
theorem lrem_n {a b : Int} (ha : 0 ≤ a) (ha2 : a ≤ 9223372036854775807) (hb : 0 < b) (hb2 : b ≤ 9223372036854775807) : lrem64 a b = a % b := by
  have h1 : a.tdiv b = a / b := Int.tdiv_eq_ediv_of_nonneg ha
  have h2 : 0 ≤ a / b := Int.ediv_nonneg ha (by omega)
  have h3 : a / b ≤ a := Int.ediv_le_self _ ha
  have h4 : a.tmod b = a % b := Int.tmod_eq_emod_of_nonneg ha
  have h5 : 0 ≤ a % b := Int.emod_nonneg _ (by omega)
  have h6 : a % b < b := Int.emod_lt_of_pos _ hb
  rw [lrem_t ⟨by omega, ha2⟩ ⟨by omega, hb2⟩ (by rw [h1]; exact ⟨by omega, by omega⟩) (by rw [h4]; exact ⟨by omega, by omega⟩), h4]
theorem ldiv_n {a b : Int} (ha : 0 ≤ a) (ha2 : a ≤ 9223372036854775807) (hb : 0 < b) (hb2 : b ≤ 9223372036854775807) : ldiv64 a b = a / b := by
  have h1 : a.tdiv b = a / b := Int.tdiv_eq_ediv_of_nonneg ha
  have h2 : 0 ≤ a / b := Int.ediv_nonneg ha (by omega)
  have h3 : a / b ≤ a := Int.ediv_le_self _ ha
  rw [ldiv_t ⟨by omega, ha2⟩ ⟨by omega, hb2⟩ (by rw [h1]; exact ⟨by omega, by omega⟩), h1]
