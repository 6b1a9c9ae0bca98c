/-! ===== the end of a batch, in the class ===== -/
theorem x_steps (x : Int32) (M : Mem) : ∃ v, f_X9_combiningSteps x M = some (v, M) ∧ ∀ n, n ≤ 8 → x = nI n → v = nI (halv n) := by
  obtain ⟨k, k9, k1, k2⟩ := least_of (P := fun i => 8 ≤ i ∨ x ≤ 1 <<< (nI i &&& 31)) (N := 9) ⟨8, by omega, Or.inl (Nat.le_refl _)⟩
  refine ⟨nI k, ?_, fun n hn e => ?_⟩
  · unfold f_X9_combiningSteps
    refine loop_run k (fun i => (nI i, M)) rfl (by omega) (fun i hi K => ?_) (fun K => ?_)
    · have z := k2 i hi
      simp only [l_X9_combiningSteps_2]
      rw [if_neg (show ¬ (8 : Int32) ≤ nI i from nI_ge (b := 8) (by omega) (by omega)), if_neg (fun y => z (Or.inr y)), nI_1]
    · simp only [l_X9_combiningSteps_2, j_X9_combiningSteps_21]
      rcases k1 with y | y
      · rw [if_pos (show (8 : Int32) ≤ nI k from nI_le (a := 8) y (by omega))]
      · rw [if_pos y]
        split <;> rfl
  · subst e
    have e : ∀ n, n ≤ 8 → halv n < 8 ∧ nI n ≤ 1 <<< (nI (halv n) &&& 31) ∧ ∀ i, i < halv n → ¬ nI n ≤ 1 <<< (nI i &&& 31) := by decide +kernel
    obtain ⟨e1, e2, e3⟩ := e n hn
    have : k = halv n := by
      rcases Nat.lt_trichotomy k (halv n) with y | y | y
      · rcases k1 with z | z
        · omega
        · exact absurd z (e3 k y)
      · exact y
      · exact absurd (Or.inr e2) (k2 _ y)
    rw [this]
theorem x_low (s : Int32) (M : Mem) : f_X9_lowestBank s M = some (nI (lowN s), M) := by
  by_cases h : ∃ b, b < 8 ∧ bit s b = true
  · exact x_lowest M h
  · have z : ∀ b, b < 8 → ¬ bit s b = true := fun b hb y => h ⟨b, hb, y⟩
    have e : lowN s = 7 := by
      unfold lowN
      rw [if_neg (z 0 (by omega)), if_neg (z 1 (by omega)), if_neg (z 2 (by omega)), if_neg (z 3 (by omega)), if_neg (z 4 (by omega)), if_neg (z 5 (by omega)), if_neg (z 6 (by omega))]
    rw [e]
    unfold f_X9_lowestBank
    refine loop_run 7 (fun i => (nI i, M)) rfl (by omega) (fun i hi K => ?_) (fun K => ?_)
    · simp only [l_X9_lowestBank_2]
      simp (disch := first | omega | decide) only [la, lm, ra, rm_, rs, ss, rr, rd, nI_add, pk_mul, zadd, Nat.zero_add, Nat.add_zero, ix_nI, inb_T, inb_F, le_T, le_F, lt_T, lt_F, lle_T, lle_F, rle_T, rle_F, llt_T, llt_F, rlt_T, rlt_F, eq_n, if_true, if_false, not_true_eq_false, not_false_eq_true, wrt_def, bnd_some, up_as, upA_upA, upA_eq, upA_ne, up_upA, upd_eq, upd_ne, in_f (z i (by omega))]
    · simp only [l_X9_lowestBank_2, j_X9_lowestBank_22]
      rfl
theorem bc8 {s : Int32} (h : ∃ k, k < 256 ∧ s = nI k) : p_J6_bitCount_0f7a4 s = nI (bitsN s) := by
  obtain ⟨k, hk, rfl⟩ := h
  have e : ∀ k, k < 256 → p_J6_bitCount_0f7a4 (nI k) = nI (bitsN (nI k)) := by decide +kernel
  exact e k hk
theorem lowN_lt (s : Int32) : lowN s ≤ 7 := by
  unfold lowN
  repeat' split
  all_goals omega
section EB
variable {pr : Nat}
theorem vb_of {M : Mem} {p : Nat → Int32} {c : Nat} (h : PC0 M pr p c) {k : Nat} (hk : k < 8) : M (pr + 5) c = nI (vbN k) ↔ kdN p c = k := by
  rw [h.2.1]
  have e : ∀ k, k < 8 → ∀ j, j < 8 → (nI (vbN j) = nI (vbN k) ↔ j = k) := by decide +kernel
  exact e k hk _ (kd_lt p c)
theorem x_delay {M : Mem} {c nb : Nat} (hc : c < 60) (h4 : M pr 4 = nI nb) (hb : nb < 12) : ∃ v, f_X4_delayOf pr (nI c) M = some (v, M) ∧ ∀ p, PC0 M pr p c → PRs M pr p → WFs p → (∃ k, k < 256 ∧ M (pr + 2) nb = nI k) → v = dlN p (M (pr + 2) nb) c := by
  have i0 : ix (nI c) = c := ix_nI (by omega)
  have i1 : ix (nI nb) = nb := ix_nI (by omega)
  have inn := inb_T (k := c) (n := 60) hc (by decide)
  have in1 := inb_T (k := nb) (n := 12) hb (by decide)
  have iz : inb (if ¬ M (pr + 6) c = 16 then (2 : Int32) else 3) 9 = True := by
    split
    · exact inb_T (k := 2) (n := 9) (by decide) (by decide)
    · exact inb_T (k := 3) (n := 9) (by decide) (by decide)
  obtain ⟨v1, s1, q1⟩ := x_steps (p_J6_bitCount_0f7a4 (M (pr + 2) nb)) M
  obtain ⟨v2, s2, q2⟩ := x_steps (M pr 2) M
  have ez : ∀ p, PC0 M pr p c → PRs M pr p → (kdN p c = 3 ∨ kdN p c = 4 ∨ kdN p c = 5) → M (pr + 1) (ix (if ¬ M (pr + 6) c = 16 then (2 : Int32) else 3)) = spE p c := by
    intro p h hr hk
    have := h.2.2.2.2.2 hk
    have w8 := wy_lt h.1
    unfold spE
    by_cases z : wyN p c = 1
    · rw [if_pos z, this, z, if_neg (show ¬ ¬ nI (15 + 1) = 16 from fun y => y rfl)]
      exact hr.2.2.2.2.2.2.1
    · rw [if_neg z, this, if_pos (show ¬ nI (15 + wyN p c) = 16 from fun y => z (by have := (nI_eq (by omega) (by omega)).mp (show nI (15 + wyN p c) = nI 16 from y); omega))]
      exact hr.2.2.2.2.2.1
  unfold f_X4_delayOf
  simp only [↓reduceIte, inn, i0, iz, h4, in1, i1]
  by_cases z0 : M (pr + 5) c = 8
  · rw [if_pos z0, s1, bnd_some]
    refine ⟨_, rfl, fun p h hr hw h8 => ?_⟩
    have k4 := (vb_of h (k := 4) (by omega)).mp z0
    unfold dlN
    rw [if_pos k4, q1 _ (bitsN_le _) (bc8 h8), hr.2.2.2.2.2.2.2.1]
  rw [if_neg z0]
  by_cases z1 : M (pr + 5) c = 9
  · rw [if_pos z1]
    refine ⟨_, rfl, fun p h hr hw h8 => ?_⟩
    have k4 := (vb_of h (k := 0) (by omega)).mp z1
    unfold dlN spBy
    rw [k4]
    exact hr.2.2.2.2.1
  rw [if_neg z1]
  by_cases z2 : M (pr + 5) c = 10
  · rw [if_pos z2]
    refine ⟨_, rfl, fun p h hr hw h8 => ?_⟩
    have k4 := (vb_of h (k := 1) (by omega)).mp z2
    unfold dlN spBy
    rw [k4]
    exact hr.2.2.2.2.1
  rw [if_neg z2]
  by_cases z3 : M (pr + 5) c = 11
  · rw [if_pos z3]
    refine ⟨_, rfl, fun p h hr hw h8 => ?_⟩
    have k4 := (vb_of h (k := 2) (by omega)).mp z3
    unfold dlN spBy
    rw [k4]
    rfl
  rw [if_neg z3]
  by_cases z4 : M (pr + 5) c = 12
  · rw [if_pos z4, s2, bnd_some]
    refine ⟨_, rfl, fun p h hr hw h8 => ?_⟩
    have k4 := (vb_of h (k := 5) (by omega)).mp z4
    rw [ez p h hr (Or.inr (Or.inr k4)), q2 (ix (p 2)) hw.2.2.2.2.2.2.2.2.1 (by rw [hr.2.2.1]; exact hw.2.2.2.2.2.2.1)]
    unfold dlN spBy
    rw [k4]
    rfl
  rw [if_neg z4]
  by_cases z5 : M (pr + 5) c = 13
  · rw [if_pos z5]
    refine ⟨_, rfl, fun p h hr hw h8 => ?_⟩
    have k4 := (vb_of h (k := 6) (by omega)).mp z5
    unfold dlN
    rw [k4]
    exact hr.2.2.2.2.2.2.2.2.1
  rw [if_neg z5]
  by_cases z6 : M (pr + 5) c = 34
  · rw [if_pos z6]
    refine ⟨_, rfl, fun p h hr hw h8 => ?_⟩
    have k4 := (vb_of h (k := 3) (by omega)).mp z6
    rw [ez p h hr (Or.inl k4)]
    unfold dlN spBy
    rw [k4]
    rfl
  rw [if_neg z6]
  refine ⟨_, rfl, fun p h hr hw h8 => ?_⟩
  have k8 := kd_lt p c
  have k0 : ¬ kdN p c = 0 := fun y => z1 ((vb_of h (k := 0) (by omega)).mpr y)
  have k1 : ¬ kdN p c = 1 := fun y => z2 ((vb_of h (k := 1) (by omega)).mpr y)
  have k2 : ¬ kdN p c = 2 := fun y => z3 ((vb_of h (k := 2) (by omega)).mpr y)
  have k3 : ¬ kdN p c = 3 := fun y => z6 ((vb_of h (k := 3) (by omega)).mpr y)
  have k4 : ¬ kdN p c = 4 := fun y => z0 ((vb_of h (k := 4) (by omega)).mpr y)
  have k5 : ¬ kdN p c = 5 := fun y => z4 ((vb_of h (k := 5) (by omega)).mpr y)
  have k6 : ¬ kdN p c = 6 := fun y => z5 ((vb_of h (k := 6) (by omega)).mpr y)
  unfold dlN
  rw [if_neg k4, if_neg k6, if_pos (by omega)]
theorem rowBit_eq {r : Nat} (h : r < 16) : p_X4_rowBit (nI r) = wR (nI r) := by
  have e : ∀ r, r < 16 → p_X4_rowBit (nI r) = wR (nI r) := by decide +kernel
  exact e r h
theorem x_readBy {M : Mem} {c : Nat} (hc : c < 60) (x : Int32) : ∃ v, (∀ M2 : Mem, (∀ d, 5 ≤ d → d ≤ 9 → M2 (pr + d) = M (pr + d)) → f_X4_readBy pr (nI c) x M2 = some (v, M2)) ∧ ∀ p, PC0 M pr p c → v = cR p c (decide (¬ x = 0)) := by
  have i0 : ix (nI c) = c := ix_nI (by omega)
  have inn := inb_T (k := c) (n := 60) hc (by decide)
  unfold f_X4_readBy j_X4_readBy_117
  simp only [↓reduceIte, inn, i0]
  by_cases z0 : M (pr + 5) c = 8
  · refine ⟨1 <<< (M (pr + 7) c &&& 31), fun M2 e => ?_, fun p h => ?_⟩
    · rw [e 5 (by omega) (by omega), e 7 (by omega) (by omega), if_pos z0]
    · have k4 := (vb_of h (k := 4) (by omega)).mp z0
      have := h.2.2.1 (by omega)
      rw [this, ← h.1.2.2.1]
      unfold cR
      rw [k4]
      rfl
  by_cases z1 : M (pr + 5) c = 9
  · refine ⟨p_X4_rowBit (M (pr + 8) c), fun M2 e => ?_, fun p h => ?_⟩
    · rw [e 5 (by omega) (by omega), e 8 (by omega) (by omega), if_neg z0, if_pos z1]
    · have k4 := (vb_of h (k := 0) (by omega)).mp z1
      have e8 := h.2.2.2.1 (by omega)
      obtain ⟨w1, w2⟩ := h.1.2.2.2.2.2 (by omega)
      rw [e8, w1, rowBit_eq w2]
      unfold cR
      rw [k4, w1]
      rfl
  by_cases z2 : M (pr + 5) c = 10
  · refine ⟨1 <<< (M (pr + 7) c &&& 31), fun M2 e => ?_, fun p h => ?_⟩
    · rw [e 5 (by omega) (by omega), e 7 (by omega) (by omega), if_neg z0, if_neg z1, if_pos z2]
    · have k4 := (vb_of h (k := 1) (by omega)).mp z2
      have := h.2.2.1 (by omega)
      rw [this, ← h.1.2.2.1]
      unfold cR
      rw [k4]
      rfl
  by_cases z3 : M (pr + 5) c = 12
  · refine ⟨1 <<< (M (pr + 7) c &&& 31), fun M2 e => ?_, fun p h => ?_⟩
    · rw [e 5 (by omega) (by omega), e 7 (by omega) (by omega), if_neg z0, if_neg z1, if_neg z2, if_pos z3]
    · have k4 := (vb_of h (k := 5) (by omega)).mp z3
      have := h.2.2.1 (by omega)
      rw [this, ← h.1.2.2.1]
      unfold cR
      rw [k4]
      rfl
  by_cases z4 : M (pr + 5) c = 13
  · refine ⟨if x = 0 then 0 else 1 <<< (M (pr + 7) c &&& 31), fun M2 e => ?_, fun p h => ?_⟩
    · rw [e 5 (by omega) (by omega), e 7 (by omega) (by omega), if_neg z0, if_neg z1, if_neg z2, if_neg z3, if_pos z4]
      by_cases y : x = 0
      · rw [if_pos y, if_pos y]
      · rw [if_neg y, if_neg y]
    · have k4 := (vb_of h (k := 6) (by omega)).mp z4
      have := h.2.2.1 (by omega)
      rw [this, ← h.1.2.2.1]
      unfold cR
      rw [k4]
      by_cases y : x = 0
      · rw [if_pos y, decide_eq_false (fun q => q y)]
        rfl
      · rw [if_neg y, decide_eq_true y]
        rfl
  by_cases z5 : M (pr + 5) c = 34
  · refine ⟨(1 <<< (M (pr + 8) c &&& 31)) ||| (1 <<< (M (pr + 9) c &&& 31)), fun M2 e => ?_, fun p h => ?_⟩
    · rw [e 5 (by omega) (by omega), e 8 (by omega) (by omega), e 9 (by omega) (by omega), if_neg z0, if_neg z1, if_neg z2, if_neg z3, if_neg z4, if_pos z5]
    · have k4 := (vb_of h (k := 3) (by omega)).mp z5
      rw [h.2.2.2.1 (by omega), h.2.2.2.2.1 k4]
      unfold cR
      rw [k4]
      rfl
  refine ⟨0, fun M2 e => ?_, fun p h => ?_⟩
  · rw [e 5 (by omega) (by omega), if_neg z0, if_neg z1, if_neg z2, if_neg z3, if_neg z4, if_neg z5]
  · have k8 := kd_lt p c
    have k0 : ¬ kdN p c = 0 := fun y => z1 ((vb_of h (k := 0) (by omega)).mpr y)
    have k1 : ¬ kdN p c = 1 := fun y => z2 ((vb_of h (k := 1) (by omega)).mpr y)
    have k3 : ¬ kdN p c = 3 := fun y => z5 ((vb_of h (k := 3) (by omega)).mpr y)
    have k4 : ¬ kdN p c = 4 := fun y => z0 ((vb_of h (k := 4) (by omega)).mpr y)
    have k5 : ¬ kdN p c = 5 := fun y => z3 ((vb_of h (k := 5) (by omega)).mpr y)
    have k6 : ¬ kdN p c = 6 := fun y => z4 ((vb_of h (k := 6) (by omega)).mpr y)
    unfold cR
    rw [if_neg k0, if_neg (by omega), if_neg k3, if_neg k6]
theorem x_writtenBy {M : Mem} {c : Nat} (hc : c < 60) (x : Int32) : ∃ v, (∀ M2 : Mem, (∀ d, 5 ≤ d → d ≤ 9 → M2 (pr + d) = M (pr + d)) → f_X4_writtenBy pr (nI c) x M2 = some (v, M2)) ∧ ∀ p, PC0 M pr p c → v = cW p c (decide (¬ x = 0)) := by
  have i0 : ix (nI c) = c := ix_nI (by omega)
  have inn := inb_T (k := c) (n := 60) hc (by decide)
  unfold f_X4_writtenBy j_X4_writtenBy_107 j_X4_writtenBy_124
  simp only [↓reduceIte, inn, i0]
  by_cases z0 : M (pr + 5) c = 8
  · refine ⟨if x = 0 then 0 else 1 <<< (M (pr + 7) c &&& 31), fun M2 e => ?_, fun p h => ?_⟩
    · rw [e 5 (by omega) (by omega), e 7 (by omega) (by omega), if_pos z0]
      by_cases y : x = 0
      · rw [if_pos y, if_pos y]
      · rw [if_neg y, if_neg y]
    · have k4 := (vb_of h (k := 4) (by omega)).mp z0
      have := h.2.2.1 (by omega)
      rw [this, ← h.1.2.2.1]
      unfold cW
      rw [k4]
      by_cases y : x = 0
      · rw [if_pos y, decide_eq_false (fun q => q y)]
        rfl
      · rw [if_neg y, decide_eq_true y]
        rfl
  by_cases z1 : M (pr + 5) c = 9
  · refine ⟨1 <<< (M (pr + 7) c &&& 31), fun M2 e => ?_, fun p h => ?_⟩
    · rw [e 5 (by omega) (by omega), e 7 (by omega) (by omega), if_neg z0, if_pos z1]
    · have k4 := (vb_of h (k := 0) (by omega)).mp z1
      have := h.2.2.1 (by omega)
      rw [this, ← h.1.2.2.1]
      unfold cW
      rw [k4]
      rfl
  by_cases z2 : M (pr + 5) c = 10
  · refine ⟨p_X4_rowBit (M (pr + 8) c), fun M2 e => ?_, fun p h => ?_⟩
    · rw [e 5 (by omega) (by omega), e 8 (by omega) (by omega), if_neg z0, if_neg z1, if_pos z2]
    · have k4 := (vb_of h (k := 1) (by omega)).mp z2
      have e8 := h.2.2.2.1 (by omega)
      obtain ⟨w1, w2⟩ := h.1.2.2.2.2.2 (by omega)
      rw [e8, w1, rowBit_eq w2]
      unfold cW
      rw [k4, w1]
      rfl
  by_cases z3 : M (pr + 5) c = 11
  · refine ⟨1 <<< (M (pr + 7) c &&& 31), fun M2 e => ?_, fun p h => ?_⟩
    · rw [e 5 (by omega) (by omega), e 7 (by omega) (by omega), if_neg z0, if_neg z1, if_neg z2, if_pos z3]
    · have k4 := (vb_of h (k := 2) (by omega)).mp z3
      have := h.2.2.1 (by omega)
      rw [this, ← h.1.2.2.1]
      unfold cW
      rw [k4]
      rfl
  by_cases z4 : M (pr + 5) c = 12
  · refine ⟨1 <<< (M (pr + 7) c &&& 31), fun M2 e => ?_, fun p h => ?_⟩
    · rw [e 5 (by omega) (by omega), e 7 (by omega) (by omega), if_neg z0, if_neg z1, if_neg z2, if_neg z3, if_pos z4]
    · have k4 := (vb_of h (k := 5) (by omega)).mp z4
      have := h.2.2.1 (by omega)
      rw [this, ← h.1.2.2.1]
      unfold cW
      rw [k4]
      rfl
  by_cases z5 : M (pr + 5) c = 13
  · refine ⟨if x = 0 then 1 <<< (M (pr + 7) c &&& 31) else 0, fun M2 e => ?_, fun p h => ?_⟩
    · rw [e 5 (by omega) (by omega), e 7 (by omega) (by omega), if_neg z0, if_neg z1, if_neg z2, if_neg z3, if_neg z4, if_pos z5]
      by_cases y : x = 0
      · rw [if_pos y, if_pos y]
      · rw [if_neg y, if_neg y]
    · have k4 := (vb_of h (k := 6) (by omega)).mp z5
      have := h.2.2.1 (by omega)
      rw [this, ← h.1.2.2.1]
      unfold cW
      rw [k4]
      by_cases y : x = 0
      · rw [if_pos y, decide_eq_false (fun q => q y)]
        rfl
      · rw [if_neg y, decide_eq_true y]
        rfl
  by_cases z6 : M (pr + 5) c = 34
  · refine ⟨1 <<< (M (pr + 7) c &&& 31), fun M2 e => ?_, fun p h => ?_⟩
    · rw [e 5 (by omega) (by omega), e 7 (by omega) (by omega), if_neg z0, if_neg z1, if_neg z2, if_neg z3, if_neg z4, if_neg z5, if_pos z6]
    · have k4 := (vb_of h (k := 3) (by omega)).mp z6
      have := h.2.2.1 (by omega)
      rw [this, ← h.1.2.2.1]
      unfold cW
      rw [k4]
      rfl
  refine ⟨0, fun M2 e => ?_, fun p h => ?_⟩
  · rw [e 5 (by omega) (by omega), if_neg z0, if_neg z1, if_neg z2, if_neg z3, if_neg z4, if_neg z5, if_neg z6]
  · have k8 := kd_lt p c
    have k0 : ¬ kdN p c = 0 := fun y => z1 ((vb_of h (k := 0) (by omega)).mpr y)
    have k1 : ¬ kdN p c = 1 := fun y => z2 ((vb_of h (k := 1) (by omega)).mpr y)
    have k2 : ¬ kdN p c = 2 := fun y => z3 ((vb_of h (k := 2) (by omega)).mpr y)
    have k3 : ¬ kdN p c = 3 := fun y => z6 ((vb_of h (k := 3) (by omega)).mpr y)
    have k4 : ¬ kdN p c = 4 := fun y => z0 ((vb_of h (k := 4) (by omega)).mpr y)
    have k5 : ¬ kdN p c = 5 := fun y => z4 ((vb_of h (k := 5) (by omega)).mpr y)
    have k6 : ¬ kdN p c = 6 := fun y => z5 ((vb_of h (k := 6) (by omega)).mpr y)
    unfold cW
    rw [if_neg (by omega), if_neg k1, if_neg k4, if_neg k6]
/-- one command's uses -/
theorem x_uses {M : Mem} {c nb : Nat} (hc : c < 60) (h4 : M pr 4 = nI nb) (hb : nb < 12) : ∃ M2, f_X4_noteUses pr (nI c) M = some (0, M2) ∧ (∀ d, d ≠ pr + 11 → d ≠ pr + 12 → M2 d = M d) ∧ (∀ j, ¬ (8 * nb ≤ j ∧ j < 8 * nb + 8) → M2 (pr + 11) j = M (pr + 11) j ∧ M2 (pr + 12) j = M (pr + 12) j) ∧ ∀ p, PC0 M pr p c → (∃ b, b < 8 ∧ bit (M (pr + 2) nb) b = true) → ∀ b, b < 8 → M2 (pr + 11) (8 * nb + b) = (if bit (M (pr + 2) nb) b = true then M (pr + 11) (8 * nb + b) ||| cR p c (decide (lowN (M (pr + 2) nb) = b)) else M (pr + 11) (8 * nb + b)) ∧ M2 (pr + 12) (8 * nb + b) = (if bit (M (pr + 2) nb) b = true then M (pr + 12) (8 * nb + b) ||| cW p c (decide (lowN (M (pr + 2) nb) = b)) else M (pr + 12) (8 * nb + b)) := by
  have i1 : ix (nI nb) = nb := ix_nI (by omega)
  have in1 := inb_T (k := nb) (n := 12) hb (by decide)
  have l7 := lowN_lt (M (pr + 2) nb)
  obtain ⟨r0, R0, R0'⟩ := x_readBy (pr := pr) (M := M) hc 0
  obtain ⟨r1, R1, R1'⟩ := x_readBy (pr := pr) (M := M) hc 1
  obtain ⟨w0, W0, W0'⟩ := x_writtenBy (pr := pr) (M := M) hc 0
  obtain ⟨w1, W1, W1'⟩ := x_writtenBy (pr := pr) (M := M) hc 1
  unfold f_X4_noteUses
  simp only [↓reduceIte, h4, in1, i1]
  rw [x_low, bnd_some]
  generalize hs : M (pr + 2) nb = set at *
  generalize hlo : lowN set = lo at *
  have H : ∃ r, (fun r => ∃ M2, some ((0 : Int32), M2) = r ∧ (∀ d, d ≠ pr + 11 → d ≠ pr + 12 → M2 d = M d) ∧ (∀ j, M2 (pr + 11) j = if 8 * nb + lo ≤ j ∧ j < 8 * nb + 8 ∧ bit set (j - 8 * nb) = true then M (pr + 11) j ||| (if j - 8 * nb = lo then r1 else r0) else M (pr + 11) j) ∧ (∀ j, M2 (pr + 12) j = if 8 * nb + lo ≤ j ∧ j < 8 * nb + 8 ∧ bit set (j - 8 * nb) = true then M (pr + 12) j ||| (if j - 8 * nb = lo then w1 else w0) else M (pr + 12) j)) r ∧ loopC (l_X4_noteUses_18 pr (nI c) set (nI lo)) fuelL (nI lo, M) = r := by
    refine loop_inv (body := l_X4_noteUses_18 pr (nI c) set (nI lo)) (8 - lo) (fun i st => st.1 = nI (lo + i) ∧ (∀ d, d ≠ pr + 11 → d ≠ pr + 12 → st.2 d = M d) ∧ (∀ j, st.2 (pr + 11) j = if 8 * nb + lo ≤ j ∧ j < 8 * nb + lo + i ∧ bit set (j - 8 * nb) = true then M (pr + 11) j ||| (if j - 8 * nb = lo then r1 else r0) else M (pr + 11) j) ∧ (∀ j, st.2 (pr + 12) j = if 8 * nb + lo ≤ j ∧ j < 8 * nb + lo + i ∧ bit set (j - 8 * nb) = true then M (pr + 12) j ||| (if j - 8 * nb = lo then w1 else w0) else M (pr + 12) j)) (init := (nI lo, M)) (Q := fun r => ∃ M2, some ((0 : Int32), M2) = r ∧ (∀ d, d ≠ pr + 11 → d ≠ pr + 12 → M2 d = M d) ∧ (∀ j, M2 (pr + 11) j = if 8 * nb + lo ≤ j ∧ j < 8 * nb + 8 ∧ bit set (j - 8 * nb) = true then M (pr + 11) j ||| (if j - 8 * nb = lo then r1 else r0) else M (pr + 11) j) ∧ (∀ j, M2 (pr + 12) j = if 8 * nb + lo ≤ j ∧ j < 8 * nb + 8 ∧ bit set (j - 8 * nb) = true then M (pr + 12) j ||| (if j - 8 * nb = lo then w1 else w0) else M (pr + 12) j)) ⟨rfl, fun _ _ _ => rfl, fun j => by rw [if_neg (by omega)], fun j => by rw [if_neg (by omega)]⟩ (by omega) ?_ ?_
    · rintro i hi ⟨x4, M1⟩ ⟨g1, g2, g3, g4⟩
      have e1 : x4 = nI (lo + i) := g1
      have e2 : ∀ d, d ≠ pr + 11 → d ≠ pr + 12 → M1 d = M d := g2
      have e3 : ∀ j, M1 (pr + 11) j = if 8 * nb + lo ≤ j ∧ j < 8 * nb + lo + i ∧ bit set (j - 8 * nb) = true then M (pr + 11) j ||| (if j - 8 * nb = lo then r1 else r0) else M (pr + 11) j := g3
      have e4 : ∀ j, M1 (pr + 12) j = if 8 * nb + lo ≤ j ∧ j < 8 * nb + lo + i ∧ bit set (j - 8 * nb) = true then M (pr + 12) j ||| (if j - 8 * nb = lo then w1 else w0) else M (pr + 12) j := g4
      subst e1
      have f4 : M1 pr 4 = nI nb := by rw [e2 pr (by omega) (by omega)]; exact h4
      by_cases z : bit set (lo + i) = true
      · have eJ : nI nb * 8 + nI (lo + i) = nI (8 * nb + (lo + i)) := by rw [n8, pk_mul, nI_add, Nat.mul_comm]
        have iJ : ix (nI (8 * nb + (lo + i))) = 8 * nb + (lo + i) := ix_nI (by omega)
        have bJ := inb_T (k := 8 * nb + (lo + i)) (n := 96) (by omega) (by decide)
        have ex : (if ¬ nI (lo + i) = nI lo then (0 : Int32) else 1) = if lo + i = lo then 1 else 0 := by
          by_cases y : lo + i = lo
          · rw [if_pos y, if_neg (fun q => q (by rw [y]))]
          · rw [if_neg y, if_pos (fun q => y ((nI_eq (by omega) (by omega)).mp q))]
        have er : ∀ M2 : Mem, (∀ d, 5 ≤ d → d ≤ 9 → M2 (pr + d) = M (pr + d)) → f_X4_readBy pr (nI c) (if ¬ nI (lo + i) = nI lo then (0 : Int32) else 1) M2 = some ((if lo + i = lo then r1 else r0), M2) := by
          intro M2 hM
          rw [ex]
          by_cases y : lo + i = lo
          · rw [if_pos y, if_pos y]; exact R1 M2 hM
          · rw [if_neg y, if_neg y]; exact R0 M2 hM
        have ew : ∀ M2 : Mem, (∀ d, 5 ≤ d → d ≤ 9 → M2 (pr + d) = M (pr + d)) → f_X4_writtenBy pr (nI c) (if ¬ nI (lo + i) = nI lo then (0 : Int32) else 1) M2 = some ((if lo + i = lo then w1 else w0), M2) := by
          intro M2 hM
          rw [ex]
          by_cases y : lo + i = lo
          · rw [if_pos y, if_pos y]; exact W1 M2 hM
          · rw [if_neg y, if_neg y]; exact W0 M2 hM
        have eR := er M1 (fun d d1 d2 => e2 _ (by omega) (by omega))
        have eW := ew (up M1 (pr + 11) (8 * nb + (lo + i)) (M1 (pr + 11) (8 * nb + (lo + i)) ||| (if lo + i = lo then r1 else r0))) (fun d d1 d2 => by rw [up_a _ _ _ (by omega)]; exact e2 _ (by omega) (by omega))
        refine ⟨(nI (lo + (i + 1)), up (up M1 (pr + 11) (8 * nb + (lo + i)) (M1 (pr + 11) (8 * nb + (lo + i)) ||| (if lo + i = lo then r1 else r0))) (pr + 12) (8 * nb + (lo + i)) (M1 (pr + 12) (8 * nb + (lo + i)) ||| (if lo + i = lo then w1 else w0))), ⟨rfl, fun d d1 d2 => ?_, fun j => ?_, fun j => ?_⟩, fun K => ?_⟩
        · show (up (up M1 _ _ _) _ _ _) d = M d
          rw [up_a _ _ _ d2, up_a _ _ _ d1, e2 d d1 d2]
        · show (up (up M1 _ _ _) _ _ _) (pr + 11) j = _
          rw [up_a _ _ _ (by omega)]
          by_cases y : j = 8 * nb + (lo + i)
          · have ey : 8 * nb + (lo + i) - 8 * nb = lo + i := by omega
            rw [y, up_eq, e3, if_neg (show ¬ (8 * nb + lo ≤ 8 * nb + (lo + i) ∧ 8 * nb + (lo + i) < 8 * nb + lo + i ∧ bit set (8 * nb + (lo + i) - 8 * nb) = true) by omega), ey, if_pos (show 8 * nb + lo ≤ 8 * nb + (lo + i) ∧ 8 * nb + (lo + i) < 8 * nb + lo + (i + 1) ∧ bit set (lo + i) = true from ⟨by omega, by omega, z⟩)]
          · rw [up_i _ _ y, e3]
            by_cases q : 8 * nb + lo ≤ j ∧ j < 8 * nb + lo + i ∧ bit set (j - 8 * nb) = true
            · rw [if_pos q, if_pos (show 8 * nb + lo ≤ j ∧ j < 8 * nb + lo + (i + 1) ∧ bit set (j - 8 * nb) = true from ⟨q.1, by omega, q.2.2⟩)]
            · rw [if_neg q, if_neg (show ¬ (8 * nb + lo ≤ j ∧ j < 8 * nb + lo + (i + 1) ∧ bit set (j - 8 * nb) = true) from fun q2 => q ⟨q2.1, by omega, q2.2.2⟩)]
        · show (up (up M1 _ _ _) _ _ _) (pr + 12) j = _
          by_cases y : j = 8 * nb + (lo + i)
          · have ey : 8 * nb + (lo + i) - 8 * nb = lo + i := by omega
            rw [y, up_eq, e4, if_neg (show ¬ (8 * nb + lo ≤ 8 * nb + (lo + i) ∧ 8 * nb + (lo + i) < 8 * nb + lo + i ∧ bit set (8 * nb + (lo + i) - 8 * nb) = true) by omega), ey, if_pos (show 8 * nb + lo ≤ 8 * nb + (lo + i) ∧ 8 * nb + (lo + i) < 8 * nb + lo + (i + 1) ∧ bit set (lo + i) = true from ⟨by omega, by omega, z⟩)]
          · rw [up_i _ _ y, up_a _ _ _ (by omega), e4]
            by_cases q : 8 * nb + lo ≤ j ∧ j < 8 * nb + lo + i ∧ bit set (j - 8 * nb) = true
            · rw [if_pos q, if_pos (show 8 * nb + lo ≤ j ∧ j < 8 * nb + lo + (i + 1) ∧ bit set (j - 8 * nb) = true from ⟨q.1, by omega, q.2.2⟩)]
            · rw [if_neg q, if_neg (show ¬ (8 * nb + lo ≤ j ∧ j < 8 * nb + lo + (i + 1) ∧ bit set (j - 8 * nb) = true) from fun q2 => q ⟨q2.1, by omega, q2.2.2⟩)]
        · simp only [l_X4_noteUses_18, j_X4_noteUses_98]
          rw [if_neg (show ¬ (8 : Int32) ≤ nI (lo + i) from nI_ge (b := 8) (by omega) (by omega)), if_neg (in_t z), f4, eJ]
          simp only [↓reduceIte, bJ, iJ]
          rw [eR, bnd_some, wrt_def, eW, bnd_some, wrt_def, up_a _ _ _ (show pr + 12 ≠ pr + 11 by omega), nI_1]
          rfl
      · refine ⟨(nI (lo + (i + 1)), M1), ⟨rfl, e2, fun j => ?_, fun j => ?_⟩, fun K => ?_⟩
        · show M1 (pr + 11) j = _
          rw [e3]
          by_cases q : 8 * nb + lo ≤ j ∧ j < 8 * nb + lo + i ∧ bit set (j - 8 * nb) = true
          · rw [if_pos q, if_pos (show 8 * nb + lo ≤ j ∧ j < 8 * nb + lo + (i + 1) ∧ bit set (j - 8 * nb) = true from ⟨q.1, by omega, q.2.2⟩)]
          · rw [if_neg q, if_neg (show ¬ (8 * nb + lo ≤ j ∧ j < 8 * nb + lo + (i + 1) ∧ bit set (j - 8 * nb) = true) from fun q2 => q ⟨q2.1, by
              by_cases y : j = 8 * nb + (lo + i)
              · exact absurd q2.2.2 (by rw [y, show 8 * nb + (lo + i) - 8 * nb = lo + i by omega]; exact z)
              · omega, q2.2.2⟩)]
        · show M1 (pr + 12) j = _
          rw [e4]
          by_cases q : 8 * nb + lo ≤ j ∧ j < 8 * nb + lo + i ∧ bit set (j - 8 * nb) = true
          · rw [if_pos q, if_pos (show 8 * nb + lo ≤ j ∧ j < 8 * nb + lo + (i + 1) ∧ bit set (j - 8 * nb) = true from ⟨q.1, by omega, q.2.2⟩)]
          · rw [if_neg q, if_neg (show ¬ (8 * nb + lo ≤ j ∧ j < 8 * nb + lo + (i + 1) ∧ bit set (j - 8 * nb) = true) from fun q2 => q ⟨q2.1, by
              by_cases y : j = 8 * nb + (lo + i)
              · exact absurd q2.2.2 (by rw [y, show 8 * nb + (lo + i) - 8 * nb = lo + i by omega]; exact z)
              · omega, q2.2.2⟩)]
        · simp only [l_X4_noteUses_18, j_X4_noteUses_98]
          rw [if_neg (show ¬ (8 : Int32) ≤ nI (lo + i) from nI_ge (b := 8) (by omega) (by omega)), if_pos (in_f z), nI_1]
          rfl
    · rintro ⟨x4, M1⟩ ⟨g1, e2, e3, e4⟩
      have e1 : x4 = nI (lo + (8 - lo)) := g1
      subst e1
      have e8 : 8 * nb + lo + (8 - lo) = 8 * nb + 8 := by omega
      rw [e8] at e3 e4
      refine ⟨_, ⟨M1, rfl, e2, e3, e4⟩, fun K => ?_⟩
      simp only [l_X4_noteUses_18]
      rw [if_pos (show (8 : Int32) ≤ nI (lo + (8 - lo)) from nI_le (a := 8) (by omega) (by omega))]
  obtain ⟨r, ⟨M2, e0, q1, q2, q3⟩, hr⟩ := H
  subst e0
  refine ⟨M2, hr, q1, fun j hj => ⟨by rw [q2, if_neg (by omega)], by rw [q3, if_neg (by omega)]⟩, fun p hp he b hb8 => ?_⟩
  have eb : 8 * nb + b - 8 * nb = b := by omega
  rw [q2, q3, eb]
  have lk := low_ok he
  rw [hlo] at lk
  by_cases z : bit set b = true
  · have : lo ≤ b := by
      by_cases y : b < lo
      · exact absurd z (lk.2.2 b y)
      · omega
    have A : 8 * nb + lo ≤ 8 * nb + b ∧ 8 * nb + b < 8 * nb + 8 ∧ bit set b = true := ⟨by omega, by omega, z⟩
    by_cases y : b = lo
    · refine ⟨?_, ?_⟩
      · rw [if_pos A, if_pos z, if_pos y, decide_eq_true y.symm, R1' p hp]; rfl
      · rw [if_pos A, if_pos z, if_pos y, decide_eq_true y.symm, W1' p hp]; rfl
    · refine ⟨?_, ?_⟩
      · rw [if_pos A, if_pos z, if_neg y, decide_eq_false (fun q => y q.symm), R0' p hp]; rfl
      · rw [if_pos A, if_pos z, if_neg y, decide_eq_false (fun q => y q.symm), W0' p hp]; rfl
  · have A : ¬ (8 * nb + lo ≤ 8 * nb + b ∧ 8 * nb + b < 8 * nb + 8 ∧ bit set b = true) := fun q => z q.2.2
    refine ⟨?_, ?_⟩
    · rw [if_neg A, if_neg z]
    · rw [if_neg A, if_neg z]
/-- what the end of a batch needs of it -/
def EC (pr nb nc f : Nat) (M : Mem) (p : Nat → Int32) : Prop := PRs M pr p ∧ WFs p ∧ (∃ k, k < 256 ∧ M (pr + 2) nb = nI k) ∧ (∃ b, b < 8 ∧ bit (M (pr + 2) nb) b = true) ∧ (∀ c, f ≤ c → c < nc → PC0 M pr p c) ∧ (∀ b, b < 8 → M (pr + 11) (8 * nb + b) = 0 ∧ M (pr + 12) (8 * nb + b) = 0)
/-- the end of a batch -/
theorem x_endBatch {M : Mem} {nb nc f : Nat} (hb : nb < 12) (h4 : M pr 4 = nI nb) (h5 : M pr 5 = nI nc) (hnc : nc ≤ 60) (h3 : M (pr + 3) nb = nI f) (hf : f ≤ nc) : ∃ M2, f_X4_endBatch pr M = some (0, M2) ∧ (∀ d, d ≠ pr → d ≠ pr + 4 → d ≠ pr + 10 → d ≠ pr + 11 → d ≠ pr + 12 → M2 d = M d) ∧ M2 pr = upd (M pr) 4 (nI (nb + 1)) ∧ M2 (pr + 4) = upd (M (pr + 4)) nb (nI nc) ∧ (∀ j, ¬ (f ≤ j ∧ j < nc) → M2 (pr + 10) j = M (pr + 10) j) ∧ (∀ j, ¬ (8 * nb ≤ j ∧ j < 8 * nb + 8) → M2 (pr + 11) j = M (pr + 11) j ∧ M2 (pr + 12) j = M (pr + 12) j) ∧ ∀ p, EC pr nb nc f M p → (∀ c, f ≤ c → c < nc → M2 (pr + 10) c = dlN p (M (pr + 2) nb) c) ∧ ∀ b, b < 8 → M2 (pr + 11) (8 * nb + b) = (if bit (M (pr + 2) nb) b = true then rdF p f (nc - f) (decide (lowN (M (pr + 2) nb) = b)) else 0) ∧ M2 (pr + 12) (8 * nb + b) = (if bit (M (pr + 2) nb) b = true then wrF p f (nc - f) (decide (lowN (M (pr + 2) nb) = b)) else 0) := by
  have i1 : ix (nI nb) = nb := ix_nI (by omega)
  have in1 := inb_T (k := nb) (n := 12) hb (by decide)
  unfold f_X4_endBatch
  simp only [↓reduceIte, h4, in1, i1, h5, wrt_def]
  have m4 : (up M (pr + 4) nb (nI nc)) pr 4 = nI nb := by rw [up_a _ _ _ (by omega)]; exact h4
  have m3 : (up M (pr + 4) nb (nI nc)) (pr + 3) nb = nI f := by rw [up_a _ _ _ (by omega)]; exact h3
  simp only [↓reduceIte, m4, in1, i1, m3]
  generalize hs : M (pr + 2) nb = set
  have H : ∃ r, (∃ M1 : Mem, some ((0 : Int32), up M1 pr 4 (nI (nb + 1))) = r ∧ (∀ d, d ≠ pr + 10 → d ≠ pr + 11 → d ≠ pr + 12 → M1 d = (up M (pr + 4) nb (nI nc)) d) ∧ (∀ j, ¬ (f ≤ j ∧ j < nc) → M1 (pr + 10) j = M (pr + 10) j) ∧ (∀ j, ¬ (8 * nb ≤ j ∧ j < 8 * nb + 8) → M1 (pr + 11) j = M (pr + 11) j ∧ M1 (pr + 12) j = M (pr + 12) j) ∧ ∀ p, EC pr nb nc f M p → (∀ c, f ≤ c → c < nc → M1 (pr + 10) c = dlN p set c) ∧ ∀ b, b < 8 → M1 (pr + 11) (8 * nb + b) = (if bit set b = true then rdF p f (nc - f) (decide (lowN set = b)) else 0) ∧ M1 (pr + 12) (8 * nb + b) = (if bit set b = true then wrF p f (nc - f) (decide (lowN set = b)) else 0)) ∧ loopC (l_X4_endBatch_23 pr) fuelL (nI f, up M (pr + 4) nb (nI nc)) = r := by
    refine loop_inv (nc - f) (fun i st => st.1 = nI (f + i) ∧ (∀ d, d ≠ pr + 10 → d ≠ pr + 11 → d ≠ pr + 12 → st.2 d = (up M (pr + 4) nb (nI nc)) d) ∧ (∀ j, ¬ (f ≤ j ∧ j < nc) → st.2 (pr + 10) j = M (pr + 10) j) ∧ (∀ j, ¬ (8 * nb ≤ j ∧ j < 8 * nb + 8) → st.2 (pr + 11) j = M (pr + 11) j ∧ st.2 (pr + 12) j = M (pr + 12) j) ∧ ∀ p, EC pr nb nc f M p → (∀ c, f ≤ c → c < f + i → st.2 (pr + 10) c = dlN p set c) ∧ ∀ b, b < 8 → st.2 (pr + 11) (8 * nb + b) = (if bit set b = true then rdF p f i (decide (lowN set = b)) else 0) ∧ st.2 (pr + 12) (8 * nb + b) = (if bit set b = true then wrF p f i (decide (lowN set = b)) else 0)) ?_ (by omega) ?_ ?_
    · refine ⟨rfl, fun _ _ _ _ => rfl, fun j _ => ?_, fun j _ => ⟨?_, ?_⟩, fun p hE => ⟨fun c c1 c2 => absurd c2 (by omega), fun b hb8 => ⟨?_, ?_⟩⟩⟩
      · exact congrFun (up_a _ _ _ (by omega)) j
      · exact congrFun (up_a _ _ _ (by omega)) j
      · exact congrFun (up_a _ _ _ (by omega)) j
      · refine (congrFun (up_a _ _ _ (by omega)) _).trans (((hE.2.2.2.2.2 b hb8).1).trans ?_)
        split <;> rfl
      · refine (congrFun (up_a _ _ _ (by omega)) _).trans (((hE.2.2.2.2.2 b hb8).2).trans ?_)
        split <;> rfl
    · rintro i hi ⟨x1, M1⟩ ⟨g1, g2, g3, g4, g5⟩
      have e1 : x1 = nI (f + i) := g1
      have e2 : ∀ d, d ≠ pr + 10 → d ≠ pr + 11 → d ≠ pr + 12 → M1 d = (up M (pr + 4) nb (nI nc)) d := g2
      have e3 : ∀ j, ¬ (f ≤ j ∧ j < nc) → M1 (pr + 10) j = M (pr + 10) j := g3
      have e4 : ∀ j, ¬ (8 * nb ≤ j ∧ j < 8 * nb + 8) → M1 (pr + 11) j = M (pr + 11) j ∧ M1 (pr + 12) j = M (pr + 12) j := g4
      have e5 : ∀ p, EC pr nb nc f M p → (∀ c, f ≤ c → c < f + i → M1 (pr + 10) c = dlN p set c) ∧ ∀ b, b < 8 → M1 (pr + 11) (8 * nb + b) = (if bit set b = true then rdF p f i (decide (lowN set = b)) else 0) ∧ M1 (pr + 12) (8 * nb + b) = (if bit set b = true then wrF p f i (decide (lowN set = b)) else 0) := g5
      subst e1
      have r0 : ∀ d, d ≠ 4 → d ≤ 9 → M1 (pr + d) = M (pr + d) := fun d d1 d2 => by rw [e2 _ (by omega) (by omega) (by omega), up_a _ _ _ (by omega)]
      have rz : M1 pr = M pr := r0 0 (by omega) (by omega)
      have r2 : M1 (pr + 2) nb = set := by rw [r0 2 (by omega) (by omega)]; exact hs
      obtain ⟨v, d1, d2⟩ := x_delay (pr := pr) (M := M1) (c := f + i) (nb := nb) (by omega) (by rw [rz]; exact h4) hb
      have n2 : (up M1 (pr + 10) (f + i) v) (pr + 2) nb = set := by rw [up_a _ _ _ (by omega)]; exact r2
      obtain ⟨M3, u1, u2, u3, u4⟩ := x_uses (pr := pr) (M := up M1 (pr + 10) (f + i) v) (c := f + i) (nb := nb) (by omega) (by rw [up_a _ _ _ (by omega), rz]; exact h4) hb
      rw [n2] at u4
      rw [r2] at d2
      refine ⟨(nI (f + (i + 1)), M3), ⟨rfl, fun d q1 q2 q3 => ?_, fun j hj => ?_, fun j hj => ?_, fun p hE => ?_⟩, fun K => ?_⟩
      · show M3 d = _
        rw [u2 d q2 q3, up_a _ _ _ q1, e2 d q1 q2 q3]
      · show M3 (pr + 10) j = _
        rw [u2 _ (by omega) (by omega), up_i _ _ (by omega), e3 j hj]
      · show M3 (pr + 11) j = _ ∧ M3 (pr + 12) j = _
        rw [(u3 j hj).1, (u3 j hj).2, up_a _ _ _ (by omega), up_a _ _ _ (by omega)]
        exact e4 j hj
      · obtain ⟨k1, k2⟩ := e5 p hE
        obtain ⟨E1, E2, E3, E4, E5, E6⟩ := hE
        rw [hs] at E3 E4
        have pc : PC0 M1 pr p (f + i) := (E5 (f + i) (by omega) (by omega)).of (fun d q1 q2 => by rw [r0 d (by omega) q2]) (fun _ _ => rfl)
        have pc2 : PC0 (up M1 (pr + 10) (f + i) v) pr p (f + i) := pc.of (fun d q1 q2 => by rw [up_a _ _ _ (by omega)]) (fun _ _ => rfl)
        have ps : PRs M1 pr p := by
          unfold PRs
          rw [rz, r0 1 (by omega) (by omega)]
          exact E1
        have ev := d2 p pc ps E2 E3
        refine ⟨fun c c1 c2 => ?_, fun b hb8 => ?_⟩
        · show M3 (pr + 10) c = _
          rw [u2 _ (by omega) (by omega)]
          by_cases y : c = f + i
          · rw [y, up_eq, ev]
          · rw [up_i _ _ y]
            exact k1 c c1 (by omega)
        · show M3 (pr + 11) (8 * nb + b) = _ ∧ M3 (pr + 12) (8 * nb + b) = _
          obtain ⟨w1, w2⟩ := u4 p pc2 E4 b hb8
          obtain ⟨y1, y2⟩ := k2 b hb8
          rw [w1, w2, up_a _ _ _ (show pr + 11 ≠ pr + 10 by omega), up_a _ _ _ (show pr + 12 ≠ pr + 10 by omega), y1, y2]
          by_cases z : bit set b = true
          · refine ⟨?_, ?_⟩
            · rw [if_pos z, if_pos z, if_pos z]; rfl
            · rw [if_pos z, if_pos z, if_pos z]; rfl
          · refine ⟨?_, ?_⟩
            · rw [if_neg z, if_neg z, if_neg z]
            · rw [if_neg z, if_neg z, if_neg z]
      · have in2 := inb_T (k := f + i) (n := 60) (by omega) (by decide)
        have i2 : ix (nI (f + i)) = f + i := ix_nI (by omega)
        simp only [l_X4_endBatch_23]
        rw [rz, h5, if_neg (nI_ge (by omega) (by omega)), d1, bnd_some]
        simp only [↓reduceIte, in2, i2, wrt_def]
        rw [u1, bnd_some, nI_1]
        rfl
    · rintro ⟨x1, M1⟩ ⟨g1, g2, g3, g4, g5⟩
      have e1 : x1 = nI (f + (nc - f)) := g1
      have e2 : ∀ d, d ≠ pr + 10 → d ≠ pr + 11 → d ≠ pr + 12 → M1 d = (up M (pr + 4) nb (nI nc)) d := g2
      have en : f + (nc - f) = nc := by omega
      rw [en] at e1
      subst e1
      refine ⟨_, ⟨M1, rfl, e2, g3, g4, fun p hE => ⟨fun c c1 c2 => (g5 p hE).1 c c1 (by omega), (g5 p hE).2⟩⟩, fun K => ?_⟩
      have rz : M1 pr = M pr := by rw [e2 _ (by omega) (by omega) (by omega), up_a _ _ _ (by omega)]
      simp only [l_X4_endBatch_23]
      rw [rz, h5, if_pos (nI_le (Nat.le_refl _) (by omega)), h4, nI_1, wrt_def]
  obtain ⟨r, ⟨M1, e0, q1, q2, q3, q4⟩, hr⟩ := H
  subst e0
  refine ⟨_, hr, fun d d1 d2 d3 d4 d5 => ?_, ?_, ?_, fun j hj => ?_, fun j hj => ?_, fun p hE => ?_⟩
  · rw [up_a _ _ _ d1, q1 d d3 d4 d5, up_a _ _ _ d2]
  · rw [up_row, q1 pr (by omega) (by omega) (by omega), up_a _ _ _ (by omega)]
  · rw [up_a _ _ _ (by omega), q1 _ (by omega) (by omega) (by omega), up_row]
  · rw [up_a _ _ _ (by omega)]; exact q2 j hj
  · rw [up_a _ _ _ (by omega), up_a _ _ _ (by omega)]; exact q3 j hj
  · obtain ⟨w1, w2⟩ := q4 p hE
    exact ⟨fun c c1 c2 => by rw [up_a _ _ _ (by omega)]; exact w1 c c1 c2, fun b hb8 => by rw [up_a _ _ _ (by omega), up_a _ _ _ (by omega)]; exact w2 b hb8⟩
end EB
