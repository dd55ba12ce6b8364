-- played: all rows
section PL2
variable {x : Nat} {S : jSt} {V : LwV} {T : Nat → Int}
theorem GK_rows {x' p n t e : Nat} {Vt : Nat → Option Den} {rws : Nat → Row} (hx : x + 426 ≤ x') (h : ScO x' S p n Vt rws) (hT : TxR T t n Vt rws) (ht : t < 4) : ∀ (r i : Nat), i + r = n → ∀ (C : Nat → Nat → Int) (a : Nat → Int), CI x S C → Rel a C 1 14 20 → LvC x S (C 4) (a 2) V → GK x S V T C a (fun s => jrep (β := Int → Int → Int → jSt → Option (Int × jSt)) (fun _ _ _ _ => none) (fun r => f_X11_played_b18B r) (r + 1 + e) (x : Int) (p : Int) (i : Int) s) (fun s => jrep (β := Int → Int → Int → jSt → Option (Int × jSt)) (fun _ _ _ _ => none) (fun r => f_X12_played_b21B r) (r + 1 + e) ((x + 426 : Nat) : Int) (t : Int) (i : Int) s) := by
  have h' := h
  have hT' := hT
  obtain ⟨q, pr, pc, pf, pt, ⟨b0, _⟩, _, kp, ⟨e0, _⟩, _, ⟨n24, _⟩, _⟩ := h'
  obtain ⟨w, hn, _⟩ := hT'
  have rd : ∀ (S2 : jSt) (F : Nat → Nat → Int), F 3 = T → RI (x + 426) S2 F → ∀ g, fald (rS (x + 426) S2 F) ((x + 426 + 3 : Nat) : Int) (w32 (705 * (t : Int))) 1 g = g (n : Int) := fun S2 F e3 R g => by
    rw [w32_of (by omega) (by omega), g_ald (i := 3) (by omega) R.1.2.2.2.1 (by omega) (by omega), e3, show (705 * (t : Int)).toNat = 705 * t by omega, hn]
  intro r
  induction r with
  | zero =>
    intro i hi C a I Rl L
    refine ⟨-1, C, a, ?_, I, Rl, KF_r C, rfl, fun S2 F e1 e3 wr R2 => ⟨F, ?_, by rw [← e1]; exact RK_r R2.1⟩⟩
    · show jrep (β := Int → Int → Int → jSt → Option (Int × jSt)) (fun _ _ _ _ => none) (fun r => f_X11_played_b18B r) (0 + 1 + e) (x : Int) (p : Int) (i : Int) (cS x S C) = _
      rw [show 0 + 1 + e = e + 1 by omega, jrep_s]
      unfold f_X11_played_b18B
      rw [if_pos (by omega), o_get (by omega) kp, e0, if_pos (by omega)]
    · show jrep (β := Int → Int → Int → jSt → Option (Int × jSt)) (fun _ _ _ _ => none) (fun r => f_X12_played_b21B r) (0 + 1 + e) ((x + 426 : Nat) : Int) (t : Int) (i : Int) (rS (x + 426) S2 F) = _
      rw [show 0 + 1 + e = e + 1 by omega, jrep_s]
      unfold f_X12_played_b21B
      rw [r_tx R2.1, rd S2 F e3 R2.1, if_pos (by omega)]
  | succ r ih =>
    intro i hi C a I Rl L
    obtain ⟨v, C1, a1, c1, I1, R1, K1, a12, s1⟩ := GK_clause hx I Rl L h hT ht (i := i) (by omega)
    have W1 := (Rel_h R1).2.2
    have cst : ∀ (o : Option (Int × jSt)), (if v = 0 then some ((i : Int), cS x S C1) else jrep (β := Int → Int → Int → jSt → Option (Int × jSt)) (fun _ _ _ _ => none) (fun r => f_X11_played_b18B r) (r + 1 + e) (x : Int) (p : Int) ((i + 1 : Nat) : Int) (cS x S C1)) = o → jrep (β := Int → Int → Int → jSt → Option (Int × jSt)) (fun _ _ _ _ => none) (fun r => f_X11_played_b18B r) (r + 1 + 1 + e) (x : Int) (p : Int) (i : Int) (cS x S C) = o := fun o ho => by
      rw [show r + 1 + 1 + e = (r + 1 + e) + 1 by omega, jrep_s]
      unfold f_X11_played_b18B
      rw [if_pos (by omega), o_get (by omega) kp, e0, if_neg (by omega), cv_0 I, c1, fcall_some, flet_eq, w32_of (by omega) (by omega), zs]
      exact ho
    have rst : ∀ (S2 : jSt) (F F1 : Nat → Nat → Int) (o : Option (Int × jSt)), F 3 = T → RI (x + 426) S2 F → f_X12_isPlayed ((x + 426 : Nat) : Int) ((705 * t + 1 + 4 * i : Nat) : Int) (rS (x + 426) S2 F) = some (v, rS (x + 426) S2 F1) → (if v = 0 then some ((i : Int), rS (x + 426) S2 F1) else jrep (β := Int → Int → Int → jSt → Option (Int × jSt)) (fun _ _ _ _ => none) (fun r => f_X12_played_b21B r) (r + 1 + e) ((x + 426 : Nat) : Int) (t : Int) ((i + 1 : Nat) : Int) (rS (x + 426) S2 F1)) = o → jrep (β := Int → Int → Int → jSt → Option (Int × jSt)) (fun _ _ _ _ => none) (fun r => f_X12_played_b21B r) (r + 1 + 1 + e) ((x + 426 : Nat) : Int) (t : Int) (i : Int) (rS (x + 426) S2 F) = o := fun S2 F F1 o e3 R hp ho => by
      rw [show r + 1 + 1 + e = (r + 1 + e) + 1 by omega, jrep_s]
      unfold f_X12_played_b21B
      rw [r_tx R, rd S2 F e3 R, if_neg (by omega), r_cv R, w32_of (z := 705 * (t : Int)) (by omega) (by omega), w32_of (z := 705 * (t : Int) + 1) (by omega) (by omega), w32_of (z := 4 * (i : Int)) (by omega) (by omega), w32_of (by omega) (by omega), show 705 * (t : Int) + 1 + 4 * (i : Int) = ((705 * t + 1 + 4 * i : Nat) : Int) by omega, hp, fcall_some, flet_eq, w32_of (by omega) (by omega), zs]
      exact ho
    by_cases hv : v = 0
    · refine ⟨(i : Int), C1, a1, cst _ (by rw [if_pos hv]), I1, R1, K1, a12, fun S2 F e1 e3 wr R2 => ?_⟩
      obtain ⟨F1, f1, k1⟩ := s1 S2 F e1 e3 wr R2
      exact ⟨F1, rst S2 F F1 _ e3 R2.1 f1 (by rw [if_pos hv]), k1⟩
    · obtain ⟨v2, C2, a2, c2, I2, R3, K2, a22, s2⟩ := ih (i + 1) (by omega) C1 a1 I1 R1 (by rw [K1.1, a12]; exact L)
      refine ⟨v2, C2, a2, cst _ (by rw [if_neg hv]; exact c2), I2, R3, KF_t K1 K2, by rw [a22, a12], fun S2 F e1 e3 wr R2 => ?_⟩
      obtain ⟨F1, f1, k1⟩ := s1 S2 F e1 e3 wr R2
      have f3 : F1 3 = F 3 := k1.2.2.1 3 (by omega) (by omega)
      obtain ⟨F2, f2, k2⟩ := s2 S2 F1 k1.2.1 (by rw [f3]; exact e3) (by rw [k1.2.2.2 23 (by omega)]; exact wr) ⟨k1.1, by rw [k1.2.1]; exact W1, by rw [f3, k1.2.1, a12, ← e1]; exact R2.2.2⟩
      exact ⟨F2, rst S2 F F1 _ e3 R2.1 f1 (by rw [if_neg hv]; exact f2), RK_t k1 k2⟩
theorem g_played (t : Int) : Good x (f_X11_played (x : Int) t) (f_X12_played ((x + 426 : Nat) : Int) t) := Good_k (fun Z C F V R h T => by
  have I := CI_g (y := x + 426) (N := 12) (F := F) h.1.1
  have Rl := h.2.1
  have W := INV_W h
  have w2 := W.1.2.2.1
  unfold f_X11_played f_X12_played
  rw [cr0_0 I, cv_1 I, c_scriptOf I Rl.1 W.1, fcall_some]
  by_cases ht : 0 ≤ t ∧ t < F 1 2
  · obtain ⟨k, rfl⟩ : ∃ k : Nat, t = (k : Int) := ⟨t.toNat, by omega⟩
    obtain ⟨p, y1, y2, y3⟩ := T.1 k ht.2
    rw [if_pos ht, toNat_z, y1, if_neg (by omega)]
    have n24 : (R k).1 ≤ 24 := by obtain ⟨_, _, z, _⟩ := y3; exact z
    obtain ⟨v, C', a', c1, I', R', K, a2, s1⟩ := GK_rows (V := V) (e := 4999 - (R k).1) (Nat.le_refl _) (ScO_g (F := F) y2) y3 (by omega) (R k).1 0 (by omega) C (F 1) I Rl (TXT_C T)
    have ej : (R k).1 + 1 + (4999 - (R k).1) = jN := by unfold jN; omega
    rw [ej] at c1 s1
    refine ⟨v, C', a', c1, I', R', K, a2, fun S2 hS R2 => ?_⟩
    obtain ⟨F', f1, k1⟩ := s1 S2 F rfl rfl h.2.2.2.2.2.2 R2
    refine ⟨F', ?_, k1⟩
    rw [r_a R2.1, r_al R2.1 (by omega) (by omega), show (2 : Int).toNat = 2 from rfl, w32_of (by omega) (by omega), s_isIn, fcall_some, if_b01, if_pos (by omega)]
    exact f1
  · rw [if_neg ht, if_pos (by decide)]
    refine ⟨-2, C, F 1, rfl, I, Rl, KF_r C, rfl, fun S2 hS R2 => ⟨F, ?_, RK_r R2.1⟩⟩
    rw [r_a R2.1, r_al R2.1 (by omega) (by omega), show (2 : Int).toNat = 2 from rfl, w32_of (by omega) (by omega), s_isIn, fcall_some, if_b01, if_neg (by omega)])
end PL2
