/-! commands of several banks -/
def lowN (s : Int32) : Nat := if bit s 0 = true then 0 else if bit s 1 = true then 1 else if bit s 2 = true then 2 else if bit s 3 = true then 3 else if bit s 4 = true then 4 else if bit s 5 = true then 5 else if bit s 6 = true then 6 else 7
theorem low_ok {s : Int32} (h : ∃ b, b < 8 ∧ bit s b = true) : bit s (lowN s) = true ∧ lowN s < 8 ∧ ∀ i, i < lowN s → ¬ bit s i = true := by
  obtain ⟨b, hb, h⟩ := h
  unfold lowN
  by_cases h0 : bit s 0 = true
  · rw [if_pos h0]; exact ⟨h0, by omega, fun i hi => by omega⟩
  · rw [if_neg h0]
    by_cases h1 : bit s 1 = true
    · rw [if_pos h1]; refine ⟨h1, by omega, fun i hi => ?_⟩
      rcases (show i = 0 by omega) with rfl
      exact h0
    · rw [if_neg h1]
      by_cases h2 : bit s 2 = true
      · rw [if_pos h2]; refine ⟨h2, by omega, fun i hi => ?_⟩
        rcases (show i = 0 ∨ i = 1 by omega) with rfl | rfl <;> assumption
      · rw [if_neg h2]
        by_cases h3 : bit s 3 = true
        · rw [if_pos h3]; refine ⟨h3, by omega, fun i hi => ?_⟩
          rcases (show i = 0 ∨ i = 1 ∨ i = 2 by omega) with rfl | rfl | rfl <;> assumption
        · rw [if_neg h3]
          by_cases h4 : bit s 4 = true
          · rw [if_pos h4]; refine ⟨h4, by omega, fun i hi => ?_⟩
            rcases (show i = 0 ∨ i = 1 ∨ i = 2 ∨ i = 3 by omega) with rfl | rfl | rfl | rfl <;> assumption
          · rw [if_neg h4]
            by_cases h5 : bit s 5 = true
            · rw [if_pos h5]; refine ⟨h5, by omega, fun i hi => ?_⟩
              rcases (show i = 0 ∨ i = 1 ∨ i = 2 ∨ i = 3 ∨ i = 4 by omega) with rfl | rfl | rfl | rfl | rfl <;> assumption
            · rw [if_neg h5]
              by_cases h6 : bit s 6 = true
              · rw [if_pos h6]; refine ⟨h6, by omega, fun i hi => ?_⟩
                rcases (show i = 0 ∨ i = 1 ∨ i = 2 ∨ i = 3 ∨ i = 4 ∨ i = 5 by omega) with rfl | rfl | rfl | rfl | rfl | rfl <;> assumption
              · rw [if_neg h6]
                have h7 : bit s 7 = true := by
                  rcases (show b = 0 ∨ b = 1 ∨ b = 2 ∨ b = 3 ∨ b = 4 ∨ b = 5 ∨ b = 6 ∨ b = 7 by omega) with rfl | rfl | rfl | rfl | rfl | rfl | rfl | rfl <;> first | exact h | (exact absurd h (by assumption))
                refine ⟨h7, by omega, fun i hi => ?_⟩
                rcases (show i = 0 ∨ i = 1 ∨ i = 2 ∨ i = 3 ∨ i = 4 ∨ i = 5 ∨ i = 6 by omega) with rfl | rfl | rfl | rfl | rfl | rfl | rfl <;> assumption
theorem mm_lowest (M : Mem) {s : Int32} (h : ∃ b, b < 8 ∧ bit s b = true) : f_X10_lowest s M = some (nI (lowN s), M) := by
  obtain ⟨h1, h2, h3⟩ := low_ok h
  exact m_lowest M h2 h1 h3
/-- ready times of a bank that a command waits for -/
def spJR (kd rg : Nat) (a : Nat → Int32) (b : Nat) (n : Nat) (v : Int32) : Int32 := foldN (fun r v => if kd = 7 ∨ r = rg then mx v (a (8 + 4 * b + r)) else v) n v
/-- where all meet -/
def spJT (nb kd rg : Nat) (s : Int32) (a : Nat → Int32) : Int32 := foldN (fun b v => if bit s b = true then spJR kd rg a b 4 (mx v (a b)) else v) nb 0
def spJto (p : Nat → Int32) (kd : Nat) (s t : Int32) : Int32 := if kd = 7 then t else if kd = 4 then t + nI (halv (bitsN s)) * p 7 else t + p 8
/-- one of the banks goes on -/
def spJ1 (kd rg : Nat) (s t to : Int32) (b : Nat) (a : Nat → Int32) : Nat → Int32 :=
  if kd = 6 ∨ kd = 4 ∧ b = lowN s then upd (upd (upd a (120 + 4 * b + 3) (a (120 + 4 * b + 3) + (t - a b))) b to) (8 + 4 * b + rg) to else upd (upd a (120 + 4 * b + 3) (a (120 + 4 * b + 3) + (t - a b))) b to
def spJ2 (kd rg : Nat) (s t to : Int32) (n : Nat) (a : Nat → Int32) : Nat → Int32 := foldN (fun b a => if bit s b = true then spJ1 kd rg s t to b a else a) n a
/-- a command of several banks -/
def spJoint (p : Nat → Int32) (nb kd rg : Nat) (s : Int32) (a : Nat → Int32) : Nat → Int32 := spJ2 kd rg s (spJT nb kd rg s a) (spJto p kd s (spJT nb kd rg s a)) nb a
theorem m_j155 {M : Mem} {nb kd rg : Nat} (hp : M 5 0 = nI nb) (hb : nb ≤ 8) (hkd : kd = 4 ∨ kd = 6 ∨ kd = 7) (hrg : rg < 4) {s : Int32} (hs : ∃ b, b < 8 ∧ bit s b = true) (t to : Int32) : j_X10_allAtOnce_155 s (nI kd) (nI rg) t to M = some (0, upA M 1 (spJ2 kd rg s t to nb (M 1))) := by
  have hl := low_ok hs
  unfold j_X10_allAtOnce_155
  refine loop_run nb (fun i => (nI i, upA M 1 (spJ2 kd rg s t to i (M 1)))) (by rw [spJ2, foldN_0, upA_self]; rfl) (by omega) (fun i hi K => ?_) (fun K => ?_)
  · simp only [l_X10_allAtOnce_160]
    simp (disch := first | omega | decide) only [la, lm, ra, rm_, rs, ss, rr, rd, nI_add, pk_mul, zadd, Nat.zero_add, Nat.add_zero, ix_nI, inb_T, inb_F, le_T, le_F, lt_T, lt_F, lle_T, lle_F, rle_T, rle_F, llt_T, llt_F, rlt_T, rlt_F, eq_n, if_true, if_false, not_true_eq_false, not_false_eq_true, wrt_def, bnd_some, up_as, upA_upA, upA_eq, upA_ne, up_upA, upd_eq, upd_ne, hp]
    by_cases h : bit s i = true
    · rw [if_pos (has_t h)]
      have h3 : ∀ (M : Mem) (x : Int32), f_X10_stalls (nI i) 3 x M = some (0, upA M 1 (upd (M 1) (120 + 4 * i + 3) (M 1 (120 + 4 * i + 3) + x))) := fun M x => m_stalls M (k := 3) x (by omega) (by decide)
      have e : spJ2 kd rg s t to (i + 1) (M 1) = spJ1 kd rg s t to i (spJ2 kd rg s t to i (M 1)) := by
        unfold spJ2; rw [foldN_s, if_pos h]
      rw [e]
      generalize spJ2 kd rg s t to i (M 1) = a
      simp (disch := first | omega | decide) only [la, lm, ra, rm_, rs, ss, rr, rd, nI_add, pk_mul, zadd, Nat.zero_add, Nat.add_zero, ix_nI, inb_T, inb_F, le_T, le_F, lt_T, lt_F, lle_T, lle_F, rle_T, rle_F, llt_T, llt_F, rlt_T, rlt_F, eq_n, if_true, if_false, not_true_eq_false, not_false_eq_true, wrt_def, bnd_some, up_as, upA_upA, upA_eq, upA_ne, up_upA, upd_eq, upd_ne, h3]
      unfold spJ1
      rcases hkd with rfl | rfl | rfl
      · simp only [mm_lowest _ hs]
        by_cases q : i = lowN s
        · simp (disch := first | omega | decide) only [la, lm, ra, rm_, rs, ss, rr, rd, nI_add, pk_mul, zadd, Nat.zero_add, Nat.add_zero, ix_nI, inb_T, inb_F, le_T, le_F, lt_T, lt_F, lle_T, lle_F, rle_T, rle_F, llt_T, llt_F, rlt_T, rlt_F, eq_n, if_true, if_false, not_true_eq_false, not_false_eq_true, wrt_def, bnd_some, up_as, upA_upA, upA_eq, upA_ne, up_upA, upd_eq, upd_ne, j_X10_allAtOnce_233, j_X10_allAtOnce_250]
          simp [q]
        · have q2 : ¬ nI i = nI (lowN s) := by rw [nI_eq (by omega) (by omega)]; exact q
          simp (disch := first | omega | decide) only [la, lm, ra, rm_, rs, ss, rr, rd, nI_add, pk_mul, zadd, Nat.zero_add, Nat.add_zero, ix_nI, inb_T, inb_F, le_T, le_F, lt_T, lt_F, lle_T, lle_F, rle_T, rle_F, llt_T, llt_F, rlt_T, rlt_F, eq_n, if_true, if_false, not_true_eq_false, not_false_eq_true, wrt_def, bnd_some, up_as, upA_upA, upA_eq, upA_ne, up_upA, upd_eq, upd_ne, j_X10_allAtOnce_233, j_X10_allAtOnce_250]
          simp [q, q2]
      · simp (disch := first | omega | decide) only [la, lm, ra, rm_, rs, ss, rr, rd, nI_add, pk_mul, zadd, Nat.zero_add, Nat.add_zero, ix_nI, inb_T, inb_F, le_T, le_F, lt_T, lt_F, lle_T, lle_F, rle_T, rle_F, llt_T, llt_F, rlt_T, rlt_F, eq_n, if_true, if_false, not_true_eq_false, not_false_eq_true, wrt_def, bnd_some, up_as, upA_upA, upA_eq, upA_ne, up_upA, upd_eq, upd_ne, j_X10_allAtOnce_233, j_X10_allAtOnce_250]
        simp
      · simp (disch := first | omega | decide) only [la, lm, ra, rm_, rs, ss, rr, rd, nI_add, pk_mul, zadd, Nat.zero_add, Nat.add_zero, ix_nI, inb_T, inb_F, le_T, le_F, lt_T, lt_F, lle_T, lle_F, rle_T, rle_F, llt_T, llt_F, rlt_T, rlt_F, eq_n, if_true, if_false, not_true_eq_false, not_false_eq_true, wrt_def, bnd_some, up_as, upA_upA, upA_eq, upA_ne, up_upA, upd_eq, upd_ne, j_X10_allAtOnce_233, j_X10_allAtOnce_250]
        simp
    · rw [if_neg (has_f h)]
      have e : spJ2 kd rg s t to (i + 1) (M 1) = spJ2 kd rg s t to i (M 1) := by
        unfold spJ2; rw [foldN_s, if_neg h]
      rw [e]
      simp only [j_X10_allAtOnce_250]
      simp (disch := first | omega | decide) only [la, lm, ra, rm_, rs, ss, rr, rd, nI_add, pk_mul, zadd, Nat.zero_add, Nat.add_zero, ix_nI, inb_T, inb_F, le_T, le_F, lt_T, lt_F, lle_T, lle_F, rle_T, rle_F, llt_T, llt_F, rlt_T, rlt_F, eq_n, if_true, if_false, not_true_eq_false, not_false_eq_true, wrt_def, bnd_some, up_as, upA_upA, upA_eq, upA_ne, up_upA, upd_eq, upd_ne]
  · simp only [l_X10_allAtOnce_160]
    simp (disch := first | omega | decide) only [la, lm, ra, rm_, rs, ss, rr, rd, nI_add, pk_mul, zadd, Nat.zero_add, Nat.add_zero, ix_nI, inb_T, inb_F, le_T, le_F, lt_T, lt_F, lle_T, lle_F, rle_T, rle_F, llt_T, llt_F, rlt_T, rlt_F, eq_n, if_true, if_false, not_true_eq_false, not_false_eq_true, wrt_def, bnd_some, up_as, upA_upA, upA_eq, upA_ne, up_upA, upd_eq, upd_ne, hp]
theorem m_allAtOnce {M : Mem} {nb c : Nat} (hp : M 5 0 = nI nb) (hb : nb ≤ 8) (hc : c < 60) (h : WFc (M 5) c) (hk : kdN (M 5) c = 4 ∨ kdN (M 5) c = 6 ∨ kdN (M 5) c = 7) {s : Int32} (hs : ∃ b, b < 8 ∧ bit s b = true) : f_X10_allAtOnce s (nI c) M = some (0, upA M 1 (spJoint (M 5) nb (kdN (M 5) c) (rgN (M 5) c) s (M 1))) := by
  have hr := h.2.2.2.1
  unfold f_X10_allAtOnce
  simp (disch := first | omega | decide) only [la, lm, ra, rm_, rs, ss, rr, rd, nI_add, pk_mul, zadd, Nat.zero_add, Nat.add_zero, ix_nI, inb_T, inb_F, le_T, le_F, lt_T, lt_F, lle_T, lle_F, rle_T, rle_F, llt_T, llt_F, rlt_T, rlt_F, eq_n, if_true, if_false, not_true_eq_false, not_false_eq_true, wrt_def, bnd_some, up_as, upA_upA, upA_eq, upA_ne, up_upA, upd_eq, upd_ne, mm_kindOf hc h, m_told1 _ hc]
  rw [h.2.2.1]
  generalize hkk : kdN (M 5) c = kd at hk
  generalize rgN (M 5) c = rg at hr
  refine loop_run nb (fun i => (foldN (fun b v => if bit s b = true then spJR kd rg (M 1) b 4 (mx v (M 1 b)) else v) i 0, nI i, M)) rfl (by omega) (fun i hi K => ?_) (fun K => ?_)
  · simp only [l_X10_allAtOnce_20]
    simp (disch := first | omega | decide) only [la, lm, ra, rm_, rs, ss, rr, rd, nI_add, pk_mul, zadd, Nat.zero_add, Nat.add_zero, ix_nI, inb_T, inb_F, le_T, le_F, lt_T, lt_F, lle_T, lle_F, rle_T, rle_F, llt_T, llt_F, rlt_T, rlt_F, eq_n, if_true, if_false, not_true_eq_false, not_false_eq_true, wrt_def, bnd_some, up_as, upA_upA, upA_eq, upA_ne, up_upA, upd_eq, upd_ne, hp]
    by_cases q : bit s i = true
    · rw [if_pos (has_t q), great_mx, foldN_s, if_pos q]
      generalize foldN (fun b v => if bit s b = true then spJR kd rg (M 1) b 4 (mx v (M 1 b)) else v) i 0 = v0
      refine loop_run 4 (fun r => (spJR kd rg (M 1) i r (mx v0 (M 1 i)), nI r, M)) rfl (by omega) (fun r hr2 K2 => ?_) (fun K2 => ?_)
      · simp only [l_X10_allAtOnce_62]
        have e : spJR kd rg (M 1) i (r + 1) (mx v0 (M 1 i)) = if kd = 7 ∨ r = rg then mx (spJR kd rg (M 1) i r (mx v0 (M 1 i))) (M 1 (8 + 4 * i + r)) else spJR kd rg (M 1) i r (mx v0 (M 1 i)) := rfl
        rw [e]
        simp (disch := first | omega | decide) only [la, lm, ra, rm_, rs, ss, rr, rd, nI_add, pk_mul, zadd, Nat.zero_add, Nat.add_zero, ix_nI, inb_T, inb_F, le_T, le_F, lt_T, lt_F, lle_T, lle_F, rle_T, rle_F, llt_T, llt_F, rlt_T, rlt_F, eq_n, if_true, if_false, not_true_eq_false, not_false_eq_true, wrt_def, bnd_some, up_as, upA_upA, upA_eq, upA_ne, up_upA, upd_eq, upd_ne, j_X10_allAtOnce_96, j_X10_allAtOnce_81, m_readyOf _ (show i < 8 by omega) hr2, great_mx]
        by_cases q7 : kd = 7
        · simp [q7]
        · by_cases qr : r = rg
          · simp [q7, qr]
          · have q2 : ¬ nI r = nI rg := by rw [nI_eq (by omega) (by omega)]; exact qr
            simp [q7, qr, q2]
      · simp only [l_X10_allAtOnce_62, j_X10_allAtOnce_102]
        simp (disch := first | omega | decide) only [la, lm, ra, rm_, rs, ss, rr, rd, nI_add, pk_mul, zadd, Nat.zero_add, Nat.add_zero, ix_nI, inb_T, inb_F, le_T, le_F, lt_T, lt_F, lle_T, lle_F, rle_T, rle_F, llt_T, llt_F, rlt_T, rlt_F, eq_n, if_true, if_false, not_true_eq_false, not_false_eq_true, wrt_def, bnd_some, up_as, upA_upA, upA_eq, upA_ne, up_upA, upd_eq, upd_ne]
    · rw [if_neg (has_f q), foldN_s, if_neg q]
      simp only [j_X10_allAtOnce_102]
      simp (disch := first | omega | decide) only [la, lm, ra, rm_, rs, ss, rr, rd, nI_add, pk_mul, zadd, Nat.zero_add, Nat.add_zero, ix_nI, inb_T, inb_F, le_T, le_F, lt_T, lt_F, lle_T, lle_F, rle_T, rle_F, llt_T, llt_F, rlt_T, rlt_F, eq_n, if_true, if_false, not_true_eq_false, not_false_eq_true, wrt_def, bnd_some, up_as, upA_upA, upA_eq, upA_ne, up_upA, upd_eq, upd_ne]
  · simp only [l_X10_allAtOnce_20]
    simp (disch := first | omega | decide) only [la, lm, ra, rm_, rs, ss, rr, rd, nI_add, pk_mul, zadd, Nat.zero_add, Nat.add_zero, ix_nI, inb_T, inb_F, le_T, le_F, lt_T, lt_F, lle_T, lle_F, rle_T, rle_F, llt_T, llt_F, rlt_T, rlt_F, eq_n, if_true, if_false, not_true_eq_false, not_false_eq_true, wrt_def, bnd_some, up_as, upA_upA, upA_eq, upA_ne, up_upA, upd_eq, upd_ne, hp]
    unfold spJoint
    change _ = some (0, upA M 1 (spJ2 kd rg s (spJT nb kd rg s (M 1)) (spJto (M 5) kd s (spJT nb kd rg s (M 1))) nb (M 1)))
    change (if ¬ kd = 7 then if ¬ kd = 4 then j_X10_allAtOnce_155 s (nI kd) (nI rg) (spJT nb kd rg s (M 1)) (spJT nb kd rg s (M 1) + M 5 8) M else _ else j_X10_allAtOnce_155 s (nI kd) (nI rg) (spJT nb kd rg s (M 1)) (spJT nb kd rg s (M 1)) M) = _
    unfold spJto
    rcases hk with rfl | rfl | rfl
    · simp (disch := first | omega | decide) only [la, lm, ra, rm_, rs, ss, rr, rd, nI_add, pk_mul, zadd, Nat.zero_add, Nat.add_zero, ix_nI, inb_T, inb_F, le_T, le_F, lt_T, lt_F, lle_T, lle_F, rle_T, rle_F, llt_T, llt_F, rlt_T, rlt_F, eq_n, if_true, if_false, not_true_eq_false, not_false_eq_true, wrt_def, bnd_some, up_as, upA_upA, upA_eq, upA_ne, up_upA, upd_eq, upd_ne, m_bits, m_halvings _ (bitsN_le s), m_j155 hp hb (Or.inl rfl) hr hs]
      rfl
    · simp (disch := first | omega | decide) only [la, lm, ra, rm_, rs, ss, rr, rd, nI_add, pk_mul, zadd, Nat.zero_add, Nat.add_zero, ix_nI, inb_T, inb_F, le_T, le_F, lt_T, lt_F, lle_T, lle_F, rle_T, rle_F, llt_T, llt_F, rlt_T, rlt_F, eq_n, if_true, if_false, not_true_eq_false, not_false_eq_true, wrt_def, bnd_some, up_as, upA_upA, upA_eq, upA_ne, up_upA, upd_eq, upd_ne, m_j155 hp hb (Or.inr (Or.inl rfl)) hr hs]
      rfl
    · simp (disch := first | omega | decide) only [la, lm, ra, rm_, rs, ss, rr, rd, nI_add, pk_mul, zadd, Nat.zero_add, Nat.add_zero, ix_nI, inb_T, inb_F, le_T, le_F, lt_T, lt_F, lle_T, lle_F, rle_T, rle_F, llt_T, llt_F, rlt_T, rlt_F, eq_n, if_true, if_false, not_true_eq_false, not_false_eq_true, wrt_def, bnd_some, up_as, upA_upA, upA_eq, upA_ne, up_upA, upd_eq, upd_ne, m_j155 hp hb (Or.inr (Or.inr rfl)) hr hs]
