-- the class' reader: its state while a law is read
def rdS (C : Nat → Nat → Int) (j q : Nat) (c : Nat → Int) : Nat → Nat → Int := va_up (va_up C 408 (va_up (va_up (C 408) 3 (j : Int)) 6 (q : Int))) 410 c
def plc (C : Nat → Nat → Int) (j : Nat) : Int := if (j : Int) < C 403 1 then C 406 j else C 403 0
def Fail (x : Nat) (S : jSt) (C : Nat → Nat → Int) (f j : Nat) (C' : Nat → Nat → Int) : Prop := CI x S C' ∧ (∀ i, i ≠ 408 → i ≠ 410 → C' i = C i) ∧ C' 408 0 = (f : Int) ∧ C' 408 1 = plc C j ∧ ∀ k, k ≠ 0 → k ≠ 1 → k ≠ 3 → k ≠ 6 → C' 408 k = C 408 k
def TKs (C : Nat → Nat → Int) (T : Nat) (tk : Nat → Nat) (tv : Nat → Int) : Prop := (C 403 1 = (T : Int) ∧ T ≤ 300) ∧ (∀ j, j < T → C 405 j = (tk j : Int) ∧ tk j < 44 ∧ C 407 j = tv j ∧ 0 ≤ tv j ∧ tv j ≤ 10000) ∧ ∀ j, T ≤ j → tk j = 44
section RD1
variable {x : Nat} {S : jSt} {C : Nat → Nat → Int} {T : Nat} {tk : Nat → Nat} {tv : Nat → Int}
theorem CI_v (I : CI x S C) {i : Nat} {v : Nat → Int} (h : ∀ k, crf i k ≠ 0 → v k = C i k) : CI x S (va_up C i v) := by
  refine ⟨I.1, fun i' k hi hc => ?_⟩
  by_cases e : i' = i
  · subst e
    rw [va_up_self, h k hc]
    exact I.2 i' k hi hc
  · rw [va_up_ne _ _ e]
    exact I.2 i' k hi hc
theorem rdS_CI (I : CI x S C) (j q : Nat) (c : Nat → Int) : CI x S (rdS C j q c) := by
  unfold rdS
  refine CI_ar (CI_v I (fun k hk => ?_)) (fun k => rfl)
  rw [va_up_ne _ _ (fun e => by rw [e] at hk; exact hk rfl), va_up_ne _ _ (fun e => by rw [e] at hk; exact hk rfl)]
theorem rd_o {j q : Nat} {c : Nat → Int} {i : Nat} (h1 : i ≠ 408) (h2 : i ≠ 410) : rdS C j q c i = C i := by
  unfold rdS
  rw [va_up_ne _ _ h2, va_up_ne _ _ h1]
theorem rd_c {j q : Nat} {c : Nat → Int} : rdS C j q c 410 = c := by
  unfold rdS
  rw [va_up_self]
theorem rd_8 {j q : Nat} {c : Nat → Int} : rdS C j q c 408 = va_up (va_up (C 408) 3 (j : Int)) 6 (q : Int) := by
  unfold rdS
  rw [va_up_ne _ _ (by decide), va_up_self]
theorem rd_83 {j q : Nat} {c : Nat → Int} : rdS C j q c 408 3 = (j : Int) := by
  rw [rd_8, va_up_ne _ _ (by decide), va_up_self]
theorem rd_86 {j q : Nat} {c : Nat → Int} : rdS C j q c 408 6 = (q : Int) := by
  rw [rd_8, va_up_self]
theorem rd_8o {j q : Nat} {c : Nat → Int} {k : Nat} (h1 : k ≠ 3) (h2 : k ≠ 6) : rdS C j q c 408 k = C 408 k := by
  rw [rd_8, va_up_ne _ _ h2, va_up_ne _ _ h1]
theorem rd_j {j q : Nat} {c : Nat → Int} (j' : Nat) : va_up (rdS C j q c) 408 (va_up (rdS C j q c 408) 3 (j' : Int)) = rdS C j' q c := by
  rw [rd_8]
  unfold rdS
  funext i
  by_cases h1 : i = 410
  · subst h1
    rw [va_up_ne _ _ (by decide), va_up_self, va_up_self]
  · by_cases h2 : i = 408
    · subst h2
      rw [va_up_self, va_up_ne _ _ (by decide), va_up_self]
      funext k
      by_cases k3 : k = 3
      · subst k3
        rw [va_up_self, va_up_ne _ _ (by decide), va_up_self]
      · rw [va_up_ne _ _ k3]
        by_cases k6 : k = 6
        · subst k6
          rw [va_up_self, va_up_self]
        · rw [va_up_ne _ _ k6, va_up_ne _ _ k6, va_up_ne _ _ k3, va_up_ne _ _ k3]
    · rw [va_up_ne _ _ h2, va_up_ne _ _ h1, va_up_ne _ _ h2, va_up_ne _ _ h1, va_up_ne _ _ h2]
theorem rd_q {j q : Nat} {c : Nat → Int} (q' : Nat) : va_up (rdS C j q c) 408 (va_up (rdS C j q c 408) 6 (q' : Int)) = rdS C j q' c := by
  rw [rd_8]
  unfold rdS
  funext i
  by_cases h1 : i = 410
  · subst h1
    rw [va_up_ne _ _ (by decide), va_up_self, va_up_self]
  · by_cases h2 : i = 408
    · subst h2
      rw [va_up_self, va_up_ne _ _ (by decide), va_up_self, va_uu]
    · rw [va_up_ne _ _ h2, va_up_ne _ _ h1, va_up_ne _ _ h2, va_up_ne _ _ h1, va_up_ne _ _ h2]
theorem rd_cc {j q : Nat} {c : Nat → Int} (c' : Nat → Int) : va_up (rdS C j q c) 410 c' = rdS C j q c' := by
  unfold rdS
  rw [va_uu]
/-- the reader's kind at a token -/
theorem k_kind (I : CI x S C) (K : TKs C T tk tv) (j q : Nat) (c : Nat → Int) : f_X4_kind ((x + 408 : Nat) : Int) (cS x S (rdS C j q c)) = some ((tk j : Int), cS x S (rdS C j q c)) := by
  have J := rdS_CI I j q c
  unfold f_X4_kind f_X9_kindAt f_X9_kindAt_b21 f_X9_kindAt_b23
  rw [cr408_2 J, cg_408 J, rd_83, cv_403 J, if_neg (by omega), cg_403 J, rd_o (by decide) (by decide), K.1.1]
  by_cases h : j < T
  · obtain ⟨k1, k2, k3, k4, k5⟩ := K.2.1 j h
    have := K.1.2
    rw [if_neg (by omega), cr403_3 J, al_405 J (by omega) (by omega), toNat_z, rd_o (by decide) (by decide), k1, fcall_some]
  · rw [if_pos (by omega), K.2.2 j (by omega), fcall_some]
    rfl
theorem k_val (I : CI x S C) (K : TKs C T tk tv) {j : Nat} (hj : j < T) (q : Nat) (c : Nat → Int) : f_X9_valueAt ((x + 403 : Nat) : Int) (j : Int) (cS x S (rdS C j q c)) = some (tv j, cS x S (rdS C j q c)) := by
  have J := rdS_CI I j q c
  obtain ⟨k1, k2, k3, k4, k5⟩ := K.2.1 j hj
  have := K.1.2
  unfold f_X9_valueAt f_X9_valueAt_b21 f_X9_valueAt_b22
  rw [if_neg (by omega), cg_403 J, rd_o (by decide) (by decide), K.1.1, if_neg (by omega), cr403_5 J, al_407 J (by omega) (by omega), toNat_z, rd_o (by decide) (by decide), k3]
theorem k_adv (I : CI x S C) {j q : Nat} {c : Nat → Int} (hj : j ≤ 400) {f : jSt → Option (Int × jSt)} : fget (cS x S (rdS C j q c)) ((x + 408 : Nat) : Int) 4 3 (fun v => fput (cS x S (rdS C j q c)) ((x + 408 : Nat) : Int) 4 3 (w32 (v + 1)) f) = f (cS x S (rdS C (j + 1) q c)) := by
  have J := rdS_CI I j q c
  rw [cg_408 J, rd_83, w32_of (by omega) (by omega), cp_408 J, zs, rd_j]
theorem k_emit (I : CI x S C) {j q : Nat} {c : Nat → Int} (hq : q < 300) {k v : Int} (hk : 0 ≤ k ∧ k ≤ 45) (hv : 0 ≤ v ∧ v < 16384) : f_X4_emit ((x + 408 : Nat) : Int) k v (cS x S (rdS C j q c)) = some (1, cS x S (rdS C j (q + 1) (va_up c q (k * 16384 + v)))) := by
  have J := rdS_CI I j q c
  have J2 := rdS_CI I j q (va_up c q (k * 16384 + v))
  unfold f_X4_emit f_X4_emit_b38
  rw [cg_408 J, rd_86, cr408_8 J, ln_410 J, if_neg (by omega), cr408_8 J, cg_408 J, rd_86, w32_of (z := k * 16384) (by omega) (by omega), w32_of (by omega) (by omega), st_410 J (by omega) (by omega), toNat_z, rd_c, rd_cc, cg_408 J2, rd_86, w32_of (by omega) (by omega), cp_408 J2, zs, rd_q]
theorem k_ref (I : CI x S C) (K : TKs C T tk tv) (f j q : Nat) (c : Nat → Int) : ∃ C', f_X4_refuse ((x + 408 : Nat) : Int) (f : Int) (cS x S (rdS C j q c)) = some (0, cS x S C') ∧ Fail x S C f j C' := by
  have J := rdS_CI I j q c
  have hT := K.1.2
  unfold f_X4_refuse f_X9_placeAt f_X9_placeAt_b21 f_X9_placeAt_b25
  rw [cp_408 J]
  have J1 : CI x S (va_up (rdS C j q c) 408 (va_up (rdS C j q c 408) 0 (f : Int))) := CI_up J rfl
  generalize hC1 : va_up (rdS C j q c) 408 (va_up (rdS C j q c 408) 0 (f : Int)) = C1 at *
  have f1 : ∀ i, i ≠ 408 → C1 i = rdS C j q c i := fun i hi => by rw [← hC1, va_up_ne _ _ hi]
  have e8 : C1 408 = va_up (rdS C j q c 408) 0 (f : Int) := by rw [← hC1, va_up_self]
  have fin : ∀ z : Int, z = plc C j → Fail x S C f j (va_up C1 408 (va_up (C1 408) 1 z)) := fun z hz => by
    refine ⟨CI_up J1 rfl, fun i h1 h2 => ?_, ?_, ?_, fun k h0 h1 h3 h6 => ?_⟩
    · rw [va_up_ne _ _ h1, f1 i h1, rd_o h1 h2]
    · rw [va_up_self, va_up_ne _ _ (by decide), e8, va_up_self]
    · rw [va_up_self, va_up_self, hz]
    · rw [va_up_self, va_up_ne _ _ h1, e8, va_up_ne _ _ h0, rd_8o h3 h6]
  rw [cr408_2 J1, cg_408 J1, e8, va_up_ne _ _ (by decide), rd_83, cv_403 J1, if_neg (by omega), cg_403 J1, f1 403 (by decide), rd_o (by decide) (by decide), K.1.1]
  by_cases h : j < T
  · rw [if_neg (by omega), cr403_4 J1, al_406 J1 (by omega) (by omega), toNat_z, f1 406 (by decide), rd_o (by decide) (by decide), fcall_some, cp_408 J1]
    exact ⟨_, rfl, fin _ (by unfold plc; rw [K.1.1, if_pos (by omega)])⟩
  · rw [if_pos (by omega), cg_403 J1, f1 403 (by decide), rd_o (by decide) (by decide), fcall_some, cp_408 J1]
    exact ⟨_, rfl, fin _ (by unfold plc; rw [K.1.1, if_neg (by omega)])⟩
theorem k_rk (I : CI x S C) (K : TKs C T tk tv) (k j q : Nat) (c : Nat → Int) (hj : j ≤ 400) : (tk j = k ∧ f_X4_readKind ((x + 408 : Nat) : Int) (k : Int) (cS x S (rdS C j q c)) = some (1, cS x S (rdS C (j + 1) q c))) ∨ (tk j ≠ k ∧ ∃ C', f_X4_readKind ((x + 408 : Nat) : Int) (k : Int) (cS x S (rdS C j q c)) = some (0, cS x S C') ∧ Fail x S C 1 j C') := by
  have J := rdS_CI I j q c
  unfold f_X4_readKind
  rw [cv_408 J, k_kind I K, fcall_some]
  by_cases h : tk j = k
  · left
    refine ⟨h, ?_⟩
    rw [if_pos (by omega), k_adv I hj]
  · right
    refine ⟨h, ?_⟩
    obtain ⟨C', v, hf⟩ := k_ref I K 1 j q c
    rw [if_neg (by omega), cv_408 J]
    exact ⟨C', by rw [show (1 : Int) = ((1 : Nat) : Int) from rfl, v, fcall_some], hf⟩
theorem k_aim (I : CI x S C) {j q u : Nat} {c : Nat → Int} (hu : u < 300) (hq : q ≤ 300) (hc : 0 ≤ c u ∧ c u ≤ 800000) : f_X4_aim ((x + 408 : Nat) : Int) (u : Int) (cS x S (rdS C j q c)) = some (0, cS x S (rdS C j q (va_up c u (c u + q)))) := by
  have J := rdS_CI I j q c
  unfold f_X4_aim f_X4_aim_b28
  rw [cr408_8 J, ln_410 J, s_within, fcall_some, w32_of (by omega) (by omega), if_b01, if_pos (by omega), cr408_8 J, al_410 J (by omega) (by omega), toNat_z, cg_408 J, rd_86, rd_c, w32_of (by omega) (by omega), st_410 J (by omega) (by omega), toNat_z, rd_c, rd_cc]
end RD1
