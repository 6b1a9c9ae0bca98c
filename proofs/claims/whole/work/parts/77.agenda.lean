/-! ===== the queue and the runs ===== -/
/-- the class's agenda g and the reference's: Q batches were queued, k of them are run; U runs -/
def AG (M : Mem) (g : Nat) (a : Nat → Int32) (k Q U : Nat) : Prop := M g 1 = nI (Q - k) ∧ a 1440 = nI Q ∧ (∀ i, k + i < Q → M (g + 1) i = a (1441 + k + i)) ∧ M g 3 = nI U ∧ a 1457 = nI U ∧ ∀ i, i < min 120 (3 * U) → M (g + 2) i = a (1458 + i)
theorem x_take {M : Mem} {g : Nat} {a : Nat → Int32} {k Q U : Nat} (h : AG M g a k Q U) (hk : k < Q) (hQ : Q ≤ 16) : ∃ M2, f_X0_takeFirst g M = some (a (1441 + k), M2) ∧ AG M2 g a (k + 1) Q U ∧ ∀ c, c ≠ g → c ≠ g + 1 → M2 c = M c := by
  obtain ⟨h1, h2, h3, h4, h5, h6⟩ := h
  unfold f_X0_takeFirst
  have e1 : M g 1 - 1 = nI (Q - (k + 1)) := by rw [h1, n1, ss (by omega)]; congr 1
  have e0 : M (g + 1) 0 = a (1441 + k) := h3 0 (by omega)
  rw [wrt_def, e1, up_eq]
  have hix : ix (nI (Q - (k + 1))) = Q - (k + 1) := ix_nI (by omega)
  have hok : cpOk 16 16 1 0 (nI (Q - (k + 1))) := ⟨by decide, by decide, nI_pos (by omega), by rw [hix]; show 1 + (Q - (k + 1)) ≤ 16; omega, by rw [hix]; show 0 + (Q - (k + 1)) ≤ 16; omega⟩
  rw [if_pos hok, wrt_def, e0]
  have ew : (up M g 1 (nI (Q - (k + 1)))) (g + 1) = M (g + 1) := up_a _ _ _ (by omega)
  refine ⟨_, rfl, ⟨?_, h2, fun i hi => ?_, ?_, h5, fun i hi => ?_⟩, fun c c1 c2 => ?_⟩
  · unfold cpy; rw [upA_ne _ _ (by omega), up_eq]
  · unfold cpy va_cpy
    rw [upA_eq, ew, hix]
    show (if (0 : Nat) ≤ i ∧ i < 0 + (Q - (k + 1)) then M (g + 1) (1 + (i - 0)) else _) = _
    rw [if_pos (by omega), h3 (1 + (i - 0)) (by omega)]
    congr 1; omega
  · unfold cpy; rw [upA_ne _ _ (by omega), up_i _ _ (by decide)]; exact h4
  · unfold cpy; rw [upA_ne _ _ (by omega), up_a _ _ _ (by omega)]; exact h6 i hi
  · unfold cpy; rw [upA_ne _ _ c2, up_a _ _ _ c1]
theorem fm_xor {k : Nat} (h : k < 2147483648) : (0 : Int32) ≤ nI k ^^^ 40 := by
  unfold nI
  rw [Int32.le_iff_toInt_le]
  show (0 : Int) ≤ ((BitVec.ofNat 32 k) ^^^ 40#32).toInt
  have h1 : ((BitVec.ofNat 32 k) ^^^ 40#32).toNat < 2 ^ 31 := by
    rw [BitVec.toNat_xor, BitVec.toNat_ofNat, BitVec.toNat_ofNat]
    apply Nat.xor_lt_two_pow <;> omega
  rw [BitVec.toInt_eq_toNat_of_lt (by omega)]
  omega
/-- floorMod by 40 of a number that is not negative -/
theorem fm_40 {k : Nat} (h : k < 2147483648) (M : Mem) : f_J9_floorMod_7cf53 (nI k) 40 M = some (nI (k % 40), M) := by
  have er : jrem (nI k) 40 = nI (k % 40) := rem_nI (d := 40) h (by decide) (by decide)
  unfold f_J9_floorMod_7cf53 j_J9_floorMod_7cf53_18
  rw [if_pos (by decide), if_pos (fm_xor h), er]
theorem x_noteRun {M : Mem} {g : Nat} {p a : Nat → Int32} {k Q U bt : Nat} {fr : Int32} (h : AG M g a k Q U) (hQ : Q ≤ 16) (hU : U + 1 < 2147483648) : ∃ M2, f_X0_noteRun g (nI bt) fr (spLat (ix (p 0)) (setN p bt) a) M = some (0, M2) ∧ AG M2 g (nrA p bt fr a) k Q (U + 1) ∧ ∀ c, c ≠ g → c ≠ g + 2 → M2 c = M c := by
  obtain ⟨h1, h2, h3, h4, h5, h6⟩ := h
  have m40 : U % 40 < 40 := Nat.mod_lt _ (by decide)
  have er := fm_40 (k := U) (by omega) M
  have hUx : ix (a 1457) = U := by rw [h5]; exact ix_nI (by omega)
  unfold f_X0_noteRun nrA
  rw [hUx]
  generalize spLat (ix (p 0)) (setN p bt) a = to
  have ep : nI (U % 40) * 3 = nI (3 * (U % 40)) := by rw [n3, pk_mul, Nat.mul_comm]
  generalize hP : 3 * (U % 40) = P at ep
  have hP2 : P + 2 < 120 := by omega
  have ep1 : nI P + 1 = nI (P + 1) := nI_1 _
  have ep2 : nI P + 2 = nI (P + 2) := by rw [n2, nI_add]
  have i0 := inb_T (k := P) (n := 120) (by omega) (by decide)
  have i1 := inb_T (k := P + 1) (n := 120) (by omega) (by decide)
  have i2 := inb_T (k := P + 2) (n := 120) (by omega) (by decide)
  have x0 : ix (nI P) = P := ix_nI (by omega)
  have x1 : ix (nI (P + 1)) = P + 1 := ix_nI (by omega)
  have x2 : ix (nI (P + 2)) = P + 2 := ix_nI (by omega)
  simp only [h4, er, bnd_some, ep, ep1, ep2, i0, i1, i2, x0, x1, x2, if_true, wrt_def]
  have eg : (up (up (up M (g + 2) P (nI bt)) (g + 2) (P + 1) fr) (g + 2) (P + 2) to) g = M g := by rw [up_a _ _ _ (by omega), up_a _ _ _ (by omega), up_a _ _ _ (by omega)]
  rw [eg, h4]
  refine ⟨_, rfl, ⟨?_, ?_, fun i hi => ?_, ?_, ?_, fun i hi => ?_⟩, fun c c1 c2 => ?_⟩
  · rw [up_i _ _ (by decide), eg]; exact h1
  · rw [upd_ne _ _ (by omega), upd_ne _ _ (by omega), upd_ne _ _ (by omega), upd_ne _ _ (by omega)]; exact h2
  · rw [up_a _ _ _ (by omega), up_a _ _ _ (by omega), up_a _ _ _ (by omega), up_a _ _ _ (by omega), upd_ne _ _ (by omega), upd_ne _ _ (by omega), upd_ne _ _ (by omega), upd_ne _ _ (by omega)]
    exact h3 i hi
  · rw [up_eq, nI_1]
  · rw [upd_eq, h5, nI_1]
  · rw [up_a _ _ _ (by omega), up_row, up_row, up_row, upd_ne _ _ (show 1458 + i ≠ 1457 by omega)]
    by_cases q2 : i = P + 2
    · subst q2; rw [upd_eq, show 1458 + (P + 2) = 1458 + P + 2 by omega, upd_eq]
    · rw [upd_ne _ _ q2, upd_ne _ _ (show 1458 + i ≠ 1458 + P + 2 by omega)]
      by_cases q1 : i = P + 1
      · subst q1; rw [upd_eq, show 1458 + (P + 1) = 1458 + P + 1 by omega, upd_eq]
      · rw [upd_ne _ _ q1, upd_ne _ _ (show 1458 + i ≠ 1458 + P + 1 by omega)]
        by_cases q0 : i = P
        · subst q0; rw [upd_eq, upd_eq]
        · rw [upd_ne _ _ q0, upd_ne _ _ (show 1458 + i ≠ 1458 + P by omega)]; exact h6 i (by omega)
  · rw [up_a _ _ _ c1, up_a _ _ _ c2, up_a _ _ _ c2, up_a _ _ _ c2]
