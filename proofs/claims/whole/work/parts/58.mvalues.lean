/-! ===== the values that a batch makes, as the reference computes them ===== -/
theorem bnd_cg {α : Type} {X Y : Option (Int32 × Mem)} {k : Int32 → Mem → Option α} (h : X = Y) : bnd X k = bnd Y k := by rw [h]
def lnP (b r k : Nat) : Nat := 1184 + 8 * (4 * b + r) + k
def wdP (b r k : Nat) : Nat := 160 + 8 * (16 * b + r) + k
def jn (w : Nat) (x y : Int32) : Int32 := p_X10_joined (nI w) x y
theorem m_lane {b r k : Nat} : p_X10_lane (nI b) (nI r) (nI k) = nI (lnP b r k) := by
  unfold p_X10_lane lnP
  simp (disch := first | omega | decide) only [↓reduceIte, la, lm, ra, rm_, rs, ss, rr, rd, nI_add, pk_mul, zadd, Nat.zero_add, Nat.add_zero, ix_nI, inb_T, inb_F, le_T, le_F, lt_T, lt_F, lle_T, lle_F, rle_T, rle_F, llt_T, llt_F, rlt_T, rlt_F, eq_n, if_true, if_false, not_true_eq_false, not_false_eq_true, wrt_def, bnd_some, up_as, upA_upA, upA_eq, upA_ne, up_upA, upd_eq, upd_ne]
theorem m_word {b r k : Nat} : p_X10_word (nI b) (nI r) (nI k) = nI (wdP b r k) := by
  unfold p_X10_word wdP
  simp (disch := first | omega | decide) only [↓reduceIte, la, lm, ra, rm_, rs, ss, rr, rd, nI_add, pk_mul, zadd, Nat.zero_add, Nat.add_zero, ix_nI, inb_T, inb_F, le_T, le_F, lt_T, lt_F, lle_T, lle_F, rle_T, rle_F, llt_T, llt_F, rlt_T, rlt_F, eq_n, if_true, if_false, not_true_eq_false, not_false_eq_true, wrt_def, bnd_some, up_as, upA_upA, upA_eq, upA_ne, up_upA, upd_eq, upd_ne]
theorem m_lane0 {b r : Nat} : p_X10_lane (nI b) (nI r) 0 = nI (lnP b r 0) := m_lane
theorem lnP_lt {b r k : Nat} (hb : b < 8) (hr : r < 4) (hk : k < 8) : lnP b r k < 1440 := by unfold lnP; omega
theorem wdP_lt {b r k : Nat} (hb : b < 8) (hr : r < 16) (hk : k < 8) : wdP b r k < 1184 := by unfold wdP; omega
/-- column k of what one bank does -/
def svK (p : Nat → Int32) (b c k : Nat) (a : Nat → Int32) : Nat → Int32 :=
  if kdN p c = 0 then upd a (lnP b (rgN p c) k) (a (wdP b (x2N p c) k))
  else if kdN p c = 1 then upd a (wdP b (x2N p c) k) (a (lnP b (rgN p c) k))
  else if kdN p c = 2 then upd a (lnP b (rgN p c) k) (p (50 + 4 * c + 2))
  else if kdN p c = 3 then upd a (lnP b (rgN p c) k) (jn (wyN p c) (a (lnP b (x2N p c) k)) (a (lnP b (x3N p c) k)))
  else if kdN p c = 5 then upd a (lnP b (rgN p c) 0) (if k = 0 then a (lnP b (rgN p c) 0) else jn (wyN p c) (a (lnP b (rgN p c) 0)) (a (lnP b (rgN p c) k)))
  else a
theorem m_values {M : Mem} {b c : Nat} (hb : b < 8) (hc : c < 60) (h : WFc (M 5) c) (hs : WFs (M 5)) : f_X10_values (nI b) (nI c) M = some (0, upA M 1 (foldN (svK (M 5) b c) (ix (M 5 2)) (M 1))) := by
  obtain ⟨-, -, -, -, -, -, h2, -, h28, -⟩ := id hs
  have hr := h.2.2.2.1
  have hkl := kd_lt (M 5) c
  unfold f_X10_values
  rw [m_told1 M hc, bnd_some, h.2.2.1]
  generalize hnc : ix (M 5 2) = nc at h2 h28
  refine loop_run nc (fun i => (nI i, upA M 1 (foldN (svK (M 5) b c) i (M 1)))) (by rw [foldN_0, upA_self]; rfl) (by omega) (fun i hi K => ?_) (fun K => ?_)
  · simp only [l_X10_values_10]
    rw [foldN_s]
    generalize foldN (svK (M 5) b c) i (M 1) = a
    have e5 : (upA M 1 a) 5 = M 5 := upA_ne _ _ (by decide)
    have hK := mm_kindOf (M := upA M 1 a) (c := c) hc (by rw [e5]; exact h)
    have hW := mm_wayOf (M := upA M 1 a) (c := c) hc (by rw [e5]; exact h)
    have h2' := m_told2 (upA M 1 a) hc
    have h3' := m_told3 (upA M 1 a) hc
    rw [e5] at hK hW h2' h3'
    have hL := lnP_lt (k := i) hb hr (by omega)
    have hL0 := lnP_lt (k := 0) hb hr (by omega)
    unfold svK
    rcases (show kdN (M 5) c = 0 ∨ kdN (M 5) c = 1 ∨ kdN (M 5) c = 2 ∨ kdN (M 5) c = 3 ∨ kdN (M 5) c = 4 ∨ kdN (M 5) c = 5 ∨ kdN (M 5) c = 6 ∨ kdN (M 5) c = 7 by omega) with q | q | q | q | q | q | q | q
    · obtain ⟨q2, q2l⟩ := h.2.2.2.2.2 (by omega)
      have hWl := wdP_lt (k := i) hb q2l (by omega)
      rw [q2] at h2'
      rw [q] at hK ⊢
      simp (disch := first | omega | decide) only [↓reduceIte, la, lm, ra, rm_, rs, ss, rr, rd, nI_add, pk_mul, zadd, Nat.zero_add, Nat.add_zero, ix_nI, inb_T, inb_F, le_T, le_F, lt_T, lt_F, lle_T, lle_F, rle_T, rle_F, llt_T, llt_F, rlt_T, rlt_F, eq_n, if_true, if_false, not_true_eq_false, not_false_eq_true, wrt_def, bnd_some, up_as, upA_upA, upA_eq, upA_ne, up_upA, upd_eq, upd_ne, h2, hK, h2', m_lane, m_word, j_X10_values_253]
      try simp
    · obtain ⟨q2, q2l⟩ := h.2.2.2.2.2 (by omega)
      have hWl := wdP_lt (k := i) hb q2l (by omega)
      rw [q2] at h2'
      rw [q] at hK ⊢
      simp (disch := first | omega | decide) only [↓reduceIte, la, lm, ra, rm_, rs, ss, rr, rd, nI_add, pk_mul, zadd, Nat.zero_add, Nat.add_zero, ix_nI, inb_T, inb_F, le_T, le_F, lt_T, lt_F, lle_T, lle_F, rle_T, rle_F, llt_T, llt_F, rlt_T, rlt_F, eq_n, if_true, if_false, not_true_eq_false, not_false_eq_true, wrt_def, bnd_some, up_as, upA_upA, upA_eq, upA_ne, up_upA, upd_eq, upd_ne, h2, hK, h2', m_lane, m_word, j_X10_values_253]
      simp
    · rw [q] at hK ⊢
      simp (disch := first | omega | decide) only [↓reduceIte, la, lm, ra, rm_, rs, ss, rr, rd, nI_add, pk_mul, zadd, Nat.zero_add, Nat.add_zero, ix_nI, inb_T, inb_F, le_T, le_F, lt_T, lt_F, lle_T, lle_F, rle_T, rle_F, llt_T, llt_F, rlt_T, rlt_F, eq_n, if_true, if_false, not_true_eq_false, not_false_eq_true, wrt_def, bnd_some, up_as, upA_upA, upA_eq, upA_ne, up_upA, upd_eq, upd_ne, h2, hK, h2', m_lane, m_word, j_X10_values_253]
      simp
    · obtain ⟨q2, q2l, q3, q3l⟩ := h.2.2.2.2.1 q
      have hWl := lnP_lt (k := i) hb q2l (by omega)
      have hWr := lnP_lt (k := i) hb q3l (by omega)
      rw [q2] at h2'
      rw [q3] at h3'
      rw [q] at hK ⊢
      simp (disch := first | omega | decide) only [↓reduceIte, la, lm, ra, rm_, rs, ss, rr, rd, nI_add, pk_mul, zadd, Nat.zero_add, Nat.add_zero, ix_nI, inb_T, inb_F, le_T, le_F, lt_T, lt_F, lle_T, lle_F, rle_T, rle_F, llt_T, llt_F, rlt_T, rlt_F, eq_n, if_true, if_false, not_true_eq_false, not_false_eq_true, wrt_def, bnd_some, up_as, upA_upA, upA_eq, upA_ne, up_upA, upd_eq, upd_ne, h2, hK, h2', h3', hW, m_lane, m_word, j_X10_values_253]
      simp [jn]
    · rw [q] at hK ⊢
      simp (disch := first | omega | decide) only [↓reduceIte, la, lm, ra, rm_, rs, ss, rr, rd, nI_add, pk_mul, zadd, Nat.zero_add, Nat.add_zero, ix_nI, inb_T, inb_F, le_T, le_F, lt_T, lt_F, lle_T, lle_F, rle_T, rle_F, llt_T, llt_F, rlt_T, rlt_F, eq_n, if_true, if_false, not_true_eq_false, not_false_eq_true, wrt_def, bnd_some, up_as, upA_upA, upA_eq, upA_ne, up_upA, upd_eq, upd_ne, h2, hK, h2', m_lane, m_word, j_X10_values_253]
      simp
    · rw [q] at hK ⊢
      by_cases qi : i = 0
      · subst qi
        simp (disch := first | omega | decide) only [↓reduceIte, la, lm, ra, rm_, rs, ss, rr, rd, nI_add, pk_mul, zadd, Nat.zero_add, Nat.add_zero, ix_nI, inb_T, inb_F, le_T, le_F, lt_T, lt_F, lle_T, lle_F, rle_T, rle_F, llt_T, llt_F, rlt_T, rlt_F, eq_n, if_true, if_false, not_true_eq_false, not_false_eq_true, wrt_def, bnd_some, up_as, upA_upA, upA_eq, upA_ne, up_upA, upd_eq, upd_ne, h2, hK, hW, m_lane, m_lane0, j_X10_values_253, j_X10_values_249]
        simp
      · simp (disch := first | omega | decide) only [↓reduceIte, la, lm, ra, rm_, rs, ss, rr, rd, nI_add, pk_mul, zadd, Nat.zero_add, Nat.add_zero, ix_nI, inb_T, inb_F, le_T, le_F, lt_T, lt_F, lle_T, lle_F, rle_T, rle_F, llt_T, llt_F, rlt_T, rlt_F, eq_n, if_true, if_false, not_true_eq_false, not_false_eq_true, wrt_def, bnd_some, up_as, upA_upA, upA_eq, upA_ne, up_upA, upd_eq, upd_ne, h2, hK, hW, m_lane, m_lane0, j_X10_values_253, j_X10_values_249]
        simp [qi, jn]
    · rw [q] at hK ⊢
      rw [hK, bnd_some]
      simp (disch := first | omega | decide) only [↓reduceIte, la, lm, ra, rm_, rs, ss, rr, rd, nI_add, pk_mul, zadd, Nat.zero_add, Nat.add_zero, ix_nI, inb_T, inb_F, le_T, le_F, lt_T, lt_F, lle_T, lle_F, rle_T, rle_F, llt_T, llt_F, rlt_T, rlt_F, eq_n, if_true, if_false, not_true_eq_false, not_false_eq_true, wrt_def, bnd_some, up_as, upA_upA, upA_eq, upA_ne, up_upA, upd_eq, upd_ne, h2, hK, h2', m_lane, m_word, j_X10_values_253]
      simp
    · rw [q] at hK ⊢
      rw [hK, bnd_some]
      simp (disch := first | omega | decide) only [↓reduceIte, la, lm, ra, rm_, rs, ss, rr, rd, nI_add, pk_mul, zadd, Nat.zero_add, Nat.add_zero, ix_nI, inb_T, inb_F, le_T, le_F, lt_T, lt_F, lle_T, lle_F, rle_T, rle_F, llt_T, llt_F, rlt_T, rlt_F, eq_n, if_true, if_false, not_true_eq_false, not_false_eq_true, wrt_def, bnd_some, up_as, upA_upA, upA_eq, upA_ne, up_upA, upd_eq, upd_ne, h2, hK, h2', m_lane, m_word, j_X10_values_253]
      simp
  · simp only [l_X10_values_10]
    simp (disch := first | omega | decide) only [↓reduceIte, la, lm, ra, rm_, rs, ss, rr, rd, nI_add, pk_mul, zadd, Nat.zero_add, Nat.add_zero, ix_nI, inb_T, inb_F, le_T, le_F, lt_T, lt_F, lle_T, lle_F, rle_T, rle_F, llt_T, llt_F, rlt_T, rlt_F, eq_n, if_true, if_false, not_true_eq_false, not_false_eq_true, wrt_def, bnd_some, up_as, upA_upA, upA_eq, upA_ne, up_upA, upd_eq, upd_ne, h2]
/-- column k of what a bank b gives or gets together with the lowest -/
def svJ (p : Nat → Int32) (lo b c k : Nat) (a : Nat → Int32) : Nat → Int32 :=
  if kdN p c = 4 then upd a (lnP lo (rgN p c) k) (jn (wyN p c) (a (lnP lo (rgN p c) k)) (a (lnP b (rgN p c) k))) else upd a (lnP b (rgN p c) k) (a (lnP lo (rgN p c) k))
def svT (p : Nat → Int32) (s : Int32) (c n : Nat) (a : Nat → Int32) : Nat → Int32 := foldN (fun b a => if bit s b = true then (if b = lowN s then a else foldN (svJ p (lowN s) b c) (ix (p 2)) a) else a) n a
theorem m_together {M : Mem} {c : Nat} {s : Int32} (hc : c < 60) (h : WFc (M 5) c) (hs : WFs (M 5)) (hset : ∃ b, b < 8 ∧ bit s b = true) (hb : NoB s (ix (M 5 0))) : f_X10_together s (nI c) M = some (0, upA M 1 (svT (M 5) s c (ix (M 5 0)) (M 1))) := by
  obtain ⟨h0, h01, h08, -, -, -, h2, -, h28, -⟩ := id hs
  have hr := h.2.2.2.1
  have hkl := kd_lt (M 5) c
  obtain ⟨l1, l2, l3⟩ := low_ok hset
  unfold f_X10_together
  rw [mm_lowest M hset, bnd_some, m_told1 M hc, bnd_some, h.2.2.1]
  generalize hnb : ix (M 5 0) = nb at h0 h01 h08 hb
  have lnb : lowN s < nb := by
    apply Classical.byContradiction
    intro z
    exact hb.2 (lowN s) (by omega) l2 l1
  have el : svT (M 5) s c (lowN s + 1) (M 1) = M 1 := by
    unfold svT
    refine foldN_tail (n := 0) (Nat.zero_le _) (fun _ => True) (M 1) trivial (fun i _ h2 t _ => ?_)
    by_cases q : i = lowN s
    · rw [if_pos q]; split <;> rfl
    · rw [if_neg (l3 i (by omega))]
  refine loop_run (nb - (lowN s + 1)) (fun i => (nI (lowN s + 1 + i), upA M 1 (svT (M 5) s c (lowN s + 1 + i) (M 1)))) (by rw [Nat.add_zero, el, upA_self, n1, nI_add]) (by omega) (fun i hi K => ?_) (fun K => ?_)
  · simp only [l_X10_together_18]
    generalize hB : lowN s + 1 + i = B
    have hB8 : B < nb := by omega
    have hBn : B ≠ lowN s := by omega
    have hB1 : lowN s + 1 + (i + 1) = B + 1 := by omega
    rw [hB1]
    by_cases q : bit s B = true
    · have e : svT (M 5) s c (B + 1) (M 1) = foldN (svJ (M 5) (lowN s) B c) (ix (M 5 2)) (svT (M 5) s c B (M 1)) := by
        unfold svT; rw [foldN_s, if_pos q, if_neg hBn]
      rw [e]
      generalize svT (M 5) s c B (M 1) = a
      have e5 : ∀ a, (upA M 1 a) 5 = M 5 := fun a => upA_ne _ _ (by decide)
      simp (disch := first | omega | decide) only [↓reduceIte, la, lm, ra, rm_, rs, ss, rr, rd, nI_add, pk_mul, zadd, Nat.zero_add, Nat.add_zero, ix_nI, inb_T, inb_F, le_T, le_F, lt_T, lt_F, lle_T, lle_F, rle_T, rle_F, llt_T, llt_F, rlt_T, rlt_F, eq_n, if_true, if_false, not_true_eq_false, not_false_eq_true, wrt_def, bnd_some, up_as, upA_upA, upA_eq, upA_ne, up_upA, upd_eq, upd_ne, h0]
      rw [if_pos (has_t q)]
      generalize hnc : ix (M 5 2) = nc at h2 h28
      refine loop_run nc (fun k => (nI k, upA M 1 (foldN (svJ (M 5) (lowN s) B c) k a))) rfl (by omega) (fun k hk K2 => ?_) (fun K2 => ?_)
      · simp only [l_X10_together_44]
        rw [foldN_s]
        generalize foldN (svJ (M 5) (lowN s) B c) k a = a2
        have hK := mm_kindOf (M := upA M 1 a2) (c := c) hc (by rw [e5]; exact h)
        have hW := mm_wayOf (M := upA M 1 a2) (c := c) hc (by rw [e5]; exact h)
        rw [e5] at hK hW
        have hL := lnP_lt (b := B) (k := k) (by omega) hr (by omega)
        have hL0 := lnP_lt (b := lowN s) (k := k) (by omega) hr (by omega)
        unfold svJ
        by_cases q4 : kdN (M 5) c = 4
        · rw [if_pos q4]
          rw [q4] at hK
          simp (disch := first | omega | decide) only [↓reduceIte, la, lm, ra, rm_, rs, ss, rr, rd, nI_add, pk_mul, zadd, Nat.zero_add, Nat.add_zero, ix_nI, inb_T, inb_F, le_T, le_F, lt_T, lt_F, lle_T, lle_F, rle_T, rle_F, llt_T, llt_F, rlt_T, rlt_F, eq_n, if_true, if_false, not_true_eq_false, not_false_eq_true, wrt_def, bnd_some, up_as, upA_upA, upA_eq, upA_ne, up_upA, upd_eq, upd_ne, h2, hK, hW, m_lane, j_X10_together_142]
          simp [jn]
        · rw [if_neg q4]
          simp (disch := first | omega | decide) only [↓reduceIte, la, lm, ra, rm_, rs, ss, rr, rd, nI_add, pk_mul, zadd, Nat.zero_add, Nat.add_zero, ix_nI, inb_T, inb_F, le_T, le_F, lt_T, lt_F, lle_T, lle_F, rle_T, rle_F, llt_T, llt_F, rlt_T, rlt_F, eq_n, if_true, if_false, not_true_eq_false, not_false_eq_true, wrt_def, bnd_some, up_as, upA_upA, upA_eq, upA_ne, up_upA, upd_eq, upd_ne, h2, hK, hW, m_lane, j_X10_together_142]
          simp [q4]
      · simp only [l_X10_together_44, j_X10_together_148]
        simp (disch := first | omega | decide) only [↓reduceIte, la, lm, ra, rm_, rs, ss, rr, rd, nI_add, pk_mul, zadd, Nat.zero_add, Nat.add_zero, ix_nI, inb_T, inb_F, le_T, le_F, lt_T, lt_F, lle_T, lle_F, rle_T, rle_F, llt_T, llt_F, rlt_T, rlt_F, eq_n, if_true, if_false, not_true_eq_false, not_false_eq_true, wrt_def, bnd_some, up_as, upA_upA, upA_eq, upA_ne, up_upA, upd_eq, upd_ne, h2]
    · have e : svT (M 5) s c (B + 1) (M 1) = svT (M 5) s c B (M 1) := by
        unfold svT; rw [foldN_s, if_neg q]
      rw [e]
      simp (disch := first | omega | decide) only [↓reduceIte, la, lm, ra, rm_, rs, ss, rr, rd, nI_add, pk_mul, zadd, Nat.zero_add, Nat.add_zero, ix_nI, inb_T, inb_F, le_T, le_F, lt_T, lt_F, lle_T, lle_F, rle_T, rle_F, llt_T, llt_F, rlt_T, rlt_F, eq_n, if_true, if_false, not_true_eq_false, not_false_eq_true, wrt_def, bnd_some, up_as, upA_upA, upA_eq, upA_ne, up_upA, upd_eq, upd_ne, h0, j_X10_together_148]
      rw [if_neg (has_f q)]
  · simp only [l_X10_together_18]
    have e : lowN s + 1 + (nb - (lowN s + 1)) = nb := by omega
    rw [e]
    simp (disch := first | omega | decide) only [↓reduceIte, la, lm, ra, rm_, rs, ss, rr, rd, nI_add, pk_mul, zadd, Nat.zero_add, Nat.add_zero, ix_nI, inb_T, inb_F, le_T, le_F, lt_T, lt_F, lle_T, lle_F, rle_T, rle_F, llt_T, llt_F, rlt_T, rlt_F, eq_n, if_true, if_false, not_true_eq_false, not_false_eq_true, wrt_def, bnd_some, up_as, upA_upA, upA_eq, upA_ne, up_upA, upd_eq, upd_ne, h0]
/-- a command's values -/
def svV (p : Nat → Int32) (s : Int32) (c n : Nat) (a : Nat → Int32) : Nat → Int32 := foldN (fun b a => if bit s b = true then foldN (svK p b c) (ix (p 2)) a else a) n a
def svCmd (p : Nat → Int32) (nb : Nat) (s : Int32) (c : Nat) (a : Nat → Int32) : Nat → Int32 := svV p s c nb (if kdN p c = 4 ∨ kdN p c = 6 then svT p s c nb a else a)
def svRun (p : Nat → Int32) (nb : Nat) (s : Int32) (f n : Nat) (a : Nat → Int32) : Nat → Int32 := foldN (fun i a => svCmd p nb s (f + i) a) n a
def svBatch (p : Nat → Int32) (bt : Nat) (a : Nat → Int32) : Nat → Int32 := svRun p (ix (p 0)) (setN p bt) (fstN p bt) (lenN p bt) a
theorem m_computes {M : Mem} {bt : Nat} (hs : WFs (M 5)) (hw : WFb (M 5) bt) : f_X10_computes (nI bt) M = some (0, upA M 1 (svBatch (M 5) bt (M 1))) := by
  obtain ⟨h12, hset, hno, hf, hl, hr60, hr⟩ := hw
  obtain ⟨h0, h01, h08, -⟩ := id hs
  have hb : NoB (setN (M 5) bt) (ix (M 5 0)) := ⟨h08, hno⟩
  unfold f_X10_computes
  rw [m_banksOf M h12, bnd_some, m_firstOf M h12, bnd_some]
  unfold svBatch
  change loopC (l_X10_computes_12 (nI bt) (setN (M 5) bt)) fuelL (M 5 (14 + 3 * bt + 1), M) = _
  generalize setN (M 5) bt = s at hset hno hb
  generalize fstN (M 5) bt = f at hf hr60 hr
  generalize lenN (M 5) bt = n at hl hr60 hr
  have e5 : ∀ a, (upA M 1 a) 5 = M 5 := fun a => upA_ne _ _ (by decide)
  have hE : ∀ a, f_X10_endOf (nI bt) (upA M 1 a) = some (nI (f + n), upA M 1 a) := by
    intro a
    rw [m_endOf _ h12, e5, hf, hl, nI_add]
  refine loop_run n (fun i => (nI (f + i), upA M 1 (svRun (M 5) (ix (M 5 0)) s f i (M 1)))) (by rw [hf, svRun, foldN_0, upA_self]; rfl) (by omega) (fun i hi K => ?_) (fun K => ?_)
  · simp only [l_X10_computes_12]
    have e : svRun (M 5) (ix (M 5 0)) s f (i + 1) (M 1) = svCmd (M 5) (ix (M 5 0)) s (f + i) (svRun (M 5) (ix (M 5 0)) s f i (M 1)) := rfl
    rw [e]
    generalize svRun (M 5) (ix (M 5 0)) s f i (M 1) = a
    have hc := hr (f + i) (by omega) (by omega)
    have hkl := kd_lt (M 5) (f + i)
    have hK := mm_kindOf (M := upA M 1 a) (c := f + i) (by omega) (by rw [e5]; exact hc)
    rw [e5] at hK
    have hL : ∀ a1, j_X10_computes_46 (nI bt) s (nI (f + i)) K (upA M 1 a1) = K (nI (f + (i + 1)), upA M 1 (svV (M 5) s (f + i) (ix (M 5 0)) a1)) := by
      intro a1
      unfold j_X10_computes_46
      generalize hnb : ix (M 5 0) = nb at h0 h01 h08
      refine loop_run nb (fun j => (nI j, upA M 1 (svV (M 5) s (f + i) j a1))) rfl (by omega) (fun j hj K2 => ?_) (fun K2 => ?_)
      · simp only [l_X10_computes_49]
        by_cases q : bit s j = true
        · have e2 : svV (M 5) s (f + i) (j + 1) a1 = foldN (svK (M 5) j (f + i)) (ix (M 5 2)) (svV (M 5) s (f + i) j a1) := by unfold svV; rw [foldN_s, if_pos q]
          rw [e2]
          generalize svV (M 5) s (f + i) j a1 = a2
          have hV := m_values (M := upA M 1 a2) (b := j) (c := f + i) (by omega) (by omega) (by rw [e5]; exact hc) (by rw [e5]; exact hs)
          rw [e5, upA_upA, upA_eq] at hV
          simp (disch := first | omega | decide) only [↓reduceIte, la, lm, ra, rm_, rs, ss, rr, rd, nI_add, pk_mul, zadd, Nat.zero_add, Nat.add_zero, ix_nI, inb_T, inb_F, le_T, le_F, lt_T, lt_F, lle_T, lle_F, rle_T, rle_F, llt_T, llt_F, rlt_T, rlt_F, eq_n, if_true, if_false, not_true_eq_false, not_false_eq_true, wrt_def, bnd_some, up_as, upA_upA, upA_eq, upA_ne, up_upA, upd_eq, upd_ne, h0, hV, j_X10_computes_76]
          rw [if_neg (has_t q)]
        · have e2 : svV (M 5) s (f + i) (j + 1) a1 = svV (M 5) s (f + i) j a1 := by unfold svV; rw [foldN_s, if_neg q]
          rw [e2]
          simp (disch := first | omega | decide) only [↓reduceIte, la, lm, ra, rm_, rs, ss, rr, rd, nI_add, pk_mul, zadd, Nat.zero_add, Nat.add_zero, ix_nI, inb_T, inb_F, le_T, le_F, lt_T, lt_F, lle_T, lle_F, rle_T, rle_F, llt_T, llt_F, rlt_T, rlt_F, eq_n, if_true, if_false, not_true_eq_false, not_false_eq_true, wrt_def, bnd_some, up_as, upA_upA, upA_eq, upA_ne, up_upA, upd_eq, upd_ne, h0, j_X10_computes_76]
          rw [if_pos (Classical.not_not.mp (has_f q))]
      · simp only [l_X10_computes_49]
        simp (disch := first | omega | decide) only [↓reduceIte, la, lm, ra, rm_, rs, ss, rr, rd, nI_add, pk_mul, zadd, Nat.zero_add, Nat.add_zero, ix_nI, inb_T, inb_F, le_T, le_F, lt_T, lt_F, lle_T, lle_F, rle_T, rle_F, llt_T, llt_F, rlt_T, rlt_F, eq_n, if_true, if_false, not_true_eq_false, not_false_eq_true, wrt_def, bnd_some, up_as, upA_upA, upA_eq, upA_ne, up_upA, upd_eq, upd_ne, h0]
        rw [Nat.add_assoc]
    have hT : kdN (M 5) (f + i) = 4 ∨ kdN (M 5) (f + i) = 6 → j_X10_computes_40 (nI bt) s (nI (f + i)) K (upA M 1 a) = K (nI (f + (i + 1)), upA M 1 (svCmd (M 5) (ix (M 5 0)) s (f + i) a)) := by
      intro q
      unfold j_X10_computes_40
      have hT := m_together (M := upA M 1 a) (c := f + i) (s := s) (by omega) (by rw [e5]; exact hc) (by rw [e5]; exact hs) hset (by rw [e5]; exact hb)
      rw [e5, upA_upA, upA_eq] at hT
      rw [hT, bnd_some, hL]
      unfold svCmd
      rw [if_pos q]
    simp (disch := first | omega | decide) only [↓reduceIte, la, lm, ra, rm_, rs, ss, rr, rd, nI_add, pk_mul, zadd, Nat.zero_add, Nat.add_zero, ix_nI, inb_T, inb_F, le_T, le_F, lt_T, lt_F, lle_T, lle_F, rle_T, rle_F, llt_T, llt_F, rlt_T, rlt_F, eq_n, if_true, if_false, not_true_eq_false, not_false_eq_true, wrt_def, bnd_some, up_as, upA_upA, upA_eq, upA_ne, up_upA, upd_eq, upd_ne, hE, hK]
    by_cases q4 : kdN (M 5) (f + i) = 4
    · rw [if_pos q4, hT (Or.inl q4)]
    · rw [if_neg q4]
      by_cases q6 : kdN (M 5) (f + i) = 6
      · rw [if_neg (fun z => z q6), hT (Or.inr q6)]
      · rw [if_pos q6, hL]
        unfold svCmd
        rw [if_neg (by omega)]
  · simp only [l_X10_computes_12]
    simp (disch := first | omega | decide) only [↓reduceIte, la, lm, ra, rm_, rs, ss, rr, rd, nI_add, pk_mul, zadd, Nat.zero_add, Nat.add_zero, ix_nI, inb_T, inb_F, le_T, le_F, lt_T, lt_F, lle_T, lle_F, rle_T, rle_F, llt_T, llt_F, rlt_T, rlt_F, eq_n, if_true, if_false, not_true_eq_false, not_false_eq_true, wrt_def, bnd_some, up_as, upA_upA, upA_eq, upA_ne, up_upA, upd_eq, upd_ne, hE]
