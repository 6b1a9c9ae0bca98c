/-! commands of the reference's program -/
def kdN (p : Nat → Int32) (c : Nat) : Nat := ix (p (50 + 4 * c)) % 8
def wyN (p : Nat → Int32) (c : Nat) : Nat := ix (p (50 + 4 * c)) / 8
def rgN (p : Nat → Int32) (c : Nat) : Nat := ix (p (50 + 4 * c + 1))
def x2N (p : Nat → Int32) (c : Nat) : Nat := ix (p (50 + 4 * c + 2))
def x3N (p : Nat → Int32) (c : Nat) : Nat := ix (p (50 + 4 * c + 3))
/-- a command as the parser makes it -/
def WFc (p : Nat → Int32) (c : Nat) : Prop := p (50 + 4 * c) = nI (ix (p (50 + 4 * c))) ∧ ix (p (50 + 4 * c)) < 64 ∧ p (50 + 4 * c + 1) = nI (rgN p c) ∧ rgN p c < 4 ∧ (kdN p c = 3 → p (50 + 4 * c + 2) = nI (x2N p c) ∧ x2N p c < 4 ∧ p (50 + 4 * c + 3) = nI (x3N p c) ∧ x3N p c < 4) ∧ (kdN p c ≤ 1 → p (50 + 4 * c + 2) = nI (x2N p c) ∧ x2N p c < 16)
theorem kd_8 {p : Nat → Int32} {c : Nat} (h : WFc p c) : jrem (p (50 + 4 * c)) 8 = nI (kdN p c) := by
  conv => lhs; rw [h.1]
  exact rem_nI (d := 8) (by have := h.2.1; omega) (by decide) (by decide)
theorem wy_8 {p : Nat → Int32} {c : Nat} (h : WFc p c) : p (50 + 4 * c) / 8 = nI (wyN p c) := by
  conv => lhs; rw [h.1]
  exact div_nI (d := 8) (by have := h.2.1; omega) (by decide) (by decide)
theorem kd_lt (p : Nat → Int32) (c : Nat) : kdN p c < 8 := Nat.mod_lt _ (by decide)
theorem wy_lt {p : Nat → Int32} {c : Nat} (h : WFc p c) : wyN p c < 8 := by have := h.2.1; unfold wyN; omega
theorem mm_kindOf {M : Mem} {c : Nat} (hc : c < 60) (h : WFc (M 5) c) : f_X10_kindOf (nI c) M = some (nI (kdN (M 5) c), M) := by
  rw [m_kindOf M hc, kd_8 h]
theorem mm_wayOf {M : Mem} {c : Nat} (hc : c < 60) (h : WFc (M 5) c) : f_X10_wayOf (nI c) M = some (nI (wyN (M 5) c), M) := by
  rw [m_wayOf M hc, wy_8 h]
theorem m_told1 (M : Mem) {c : Nat} (hc : c < 60) : f_X10_told (nI c) 1 M = some (M 5 (50 + 4 * c + 1), M) := m_told M (k := 1) hc (by decide)
theorem m_told2 (M : Mem) {c : Nat} (hc : c < 60) : f_X10_told (nI c) 2 M = some (M 5 (50 + 4 * c + 2), M) := m_told M (k := 2) hc (by decide)
theorem m_told3 (M : Mem) {c : Nat} (hc : c < 60) : f_X10_told (nI c) 3 M = some (M 5 (50 + 4 * c + 3), M) := m_told M (k := 3) hc (by decide)
theorem m_stalls0 (M : Mem) {b : Nat} (x : Int32) (hb : b < 8) : f_X10_stalls (nI b) 0 x M = some (0, upA M 1 (upd (M 1) (120 + 4 * b) (M 1 (120 + 4 * b) + x))) := m_stalls M (k := 0) x hb (by decide)
/-- when a command of one bank begins -/
def spT (p a : Nat → Int32) (b c : Nat) : Int32 := if kdN p c = 3 then mx (mx (a b) (a (8 + 4 * b + rgN p c))) (mx (a (8 + 4 * b + x2N p c)) (a (8 + 4 * b + x3N p c))) else mx (a b) (a (8 + 4 * b + rgN p c))
/-- the hazards are counted -/
def spH (p a : Nat → Int32) (b c : Nat) : Nat → Int32 := upd a (120 + 4 * b) (a (120 + 4 * b) + (spT p a b c - a b))
/-- does it open its row? -/
def spO (p a : Nat → Int32) (b c : Nat) : Bool := decide (kdN p c ≤ 1) && decide (¬ a (40 + b) = p (50 + 4 * c + 2) + 1)
/-- when it goes on -/
def spG (p a : Nat → Int32) (b c : Nat) : Int32 := if spO p a b c = true then spU p (spH p a b c) b (spT p a b c) + p 3 else spT p a b c
def spA2 (p a : Nat → Int32) (b c : Nat) : Nat → Int32 := if spO p a b c = true then spAct p (spH p a b c) b (p (50 + 4 * c + 2)) (spT p a b c) else spH p a b c
/-- how long one combination takes -/
def spE (p : Nat → Int32) (c : Nat) : Int32 := if wyN p c = 1 then p 6 else p 5
/-- until the result is there -/
def spBy (p : Nat → Int32) (c : Nat) : Int32 := if kdN p c = 2 then 1 else if kdN p c = 3 then spE p c else if kdN p c = 5 then nI (halv (ix (p 2))) * spE p c else p 4
def spEnd (p a2 : Nat → Int32) (b c : Nat) (t : Int32) : Nat → Int32 := if kdN p c = 1 then upd a2 b (t + p 4) else upd (upd a2 b (t + 1)) (8 + 4 * b + rgN p c) (t + spBy p c)
/-- a command of one bank -/
def spAlone (p a : Nat → Int32) (b c : Nat) : Nat → Int32 := spEnd p (spA2 p a b c) b c (spG p a b c)
theorem m_al239 {M : Mem} {b r : Nat} (hb : b < 8) (hr : r < 4) (t w : Int32) : j_X10_alone_239 (nI b) (nI r) t w M = some (0, upA M 1 (upd (M 1) (8 + 4 * b + r) (t + w))) := by
  unfold j_X10_alone_239
  simp (disch := first | omega | decide) only [la, lm, ra, rm_, rs, ss, rr, rd, nI_add, pk_mul, zadd, Nat.zero_add, Nat.add_zero, ix_nI, inb_T, inb_F, le_T, le_F, lt_T, lt_F, lle_T, lle_F, rle_T, rle_F, llt_T, llt_F, rlt_T, rlt_F, eq_n, if_true, if_false, not_true_eq_false, not_false_eq_true, wrt_def, bnd_some, up_as, upA_upA, upA_eq, upA_ne, up_upA, upd_eq, upd_ne]
theorem m_al132 {M : Mem} {b c : Nat} (hb : b < 8) (hc : c < 60) (h : WFc (M 5) c) (h2 : M 5 2 = nI (ix (M 5 2))) (h28 : ix (M 5 2) ≤ 8) (t : Int32) (hk : kdN (M 5) c ≠ 4 ∧ kdN (M 5) c ≠ 6 ∧ kdN (M 5) c ≠ 7) : j_X10_alone_132 (nI b) (nI c) (nI (kdN (M 5) c)) (nI (rgN (M 5) c)) t M = some (0, upA M 1 (spEnd (M 5) (M 1) b c t)) := by
  have hr := h.2.2.2.1
  have hkl := kd_lt (M 5) c
  have hwl := wy_lt h
  unfold j_X10_alone_132
  rw [mm_wayOf hc h]
  have hE : (if ¬ nI (wyN (M 5) c) = 1 then M 5 5 else M 5 6) = spE (M 5) c := by
    unfold spE
    by_cases q : wyN (M 5) c = 1
    · rw [if_pos q, q]; rfl
    · rw [if_neg q, if_pos (by rw [n1, nI_eq (by omega) (by omega)]; exact q)]
  unfold spEnd spBy
  have hv := fun (M2 : Mem) => m_halvings M2 h28
  rcases (show kdN (M 5) c = 0 ∨ kdN (M 5) c = 1 ∨ kdN (M 5) c = 2 ∨ kdN (M 5) c = 3 ∨ kdN (M 5) c = 5 by omega) with q | q | q | q | q
  · simp only [q]
    simp (disch := first | omega | decide) only [la, lm, ra, rm_, rs, ss, rr, rd, nI_add, pk_mul, zadd, Nat.zero_add, Nat.add_zero, ix_nI, inb_T, inb_F, le_T, le_F, lt_T, lt_F, lle_T, lle_F, rle_T, rle_F, llt_T, llt_F, rlt_T, rlt_F, eq_n, if_true, if_false, not_true_eq_false, not_false_eq_true, wrt_def, bnd_some, up_as, upA_upA, upA_eq, upA_ne, up_upA, upd_eq, upd_ne, hE, m_al239 hb hr]
    try simp
  · simp only [q]
    simp (disch := first | omega | decide) only [la, lm, ra, rm_, rs, ss, rr, rd, nI_add, pk_mul, zadd, Nat.zero_add, Nat.add_zero, ix_nI, inb_T, inb_F, le_T, le_F, lt_T, lt_F, lle_T, lle_F, rle_T, rle_F, llt_T, llt_F, rlt_T, rlt_F, eq_n, if_true, if_false, not_true_eq_false, not_false_eq_true, wrt_def, bnd_some, up_as, upA_upA, upA_eq, upA_ne, up_upA, upd_eq, upd_ne, hE, m_al239 hb hr]
    try simp
  · simp only [q]
    simp (disch := first | omega | decide) only [la, lm, ra, rm_, rs, ss, rr, rd, nI_add, pk_mul, zadd, Nat.zero_add, Nat.add_zero, ix_nI, inb_T, inb_F, le_T, le_F, lt_T, lt_F, lle_T, lle_F, rle_T, rle_F, llt_T, llt_F, rlt_T, rlt_F, eq_n, if_true, if_false, not_true_eq_false, not_false_eq_true, wrt_def, bnd_some, up_as, upA_upA, upA_eq, upA_ne, up_upA, upd_eq, upd_ne, hE, m_al239 hb hr]
    try simp
  · simp only [q]
    simp (disch := first | omega | decide) only [la, lm, ra, rm_, rs, ss, rr, rd, nI_add, pk_mul, zadd, Nat.zero_add, Nat.add_zero, ix_nI, inb_T, inb_F, le_T, le_F, lt_T, lt_F, lle_T, lle_F, rle_T, rle_F, llt_T, llt_F, rlt_T, rlt_F, eq_n, if_true, if_false, not_true_eq_false, not_false_eq_true, wrt_def, bnd_some, up_as, upA_upA, upA_eq, upA_ne, up_upA, upd_eq, upd_ne, hE, m_al239 hb hr]
    simp [spE]
  · simp only [q]
    simp (disch := first | omega | decide) only [la, lm, ra, rm_, rs, ss, rr, rd, nI_add, pk_mul, zadd, Nat.zero_add, Nat.add_zero, ix_nI, inb_T, inb_F, le_T, le_F, lt_T, lt_F, lle_T, lle_F, rle_T, rle_F, llt_T, llt_F, rlt_T, rlt_F, eq_n, if_true, if_false, not_true_eq_false, not_false_eq_true, wrt_def, bnd_some, up_as, upA_upA, upA_eq, upA_ne, up_upA, upd_eq, upd_ne, hE, m_al239 hb hr]
    rw [h2]
    simp only [hv]
    simp (disch := first | omega | decide) only [la, lm, ra, rm_, rs, ss, rr, rd, nI_add, pk_mul, zadd, Nat.zero_add, Nat.add_zero, ix_nI, inb_T, inb_F, le_T, le_F, lt_T, lt_F, lle_T, lle_F, rle_T, rle_F, llt_T, llt_F, rlt_T, rlt_F, eq_n, if_true, if_false, not_true_eq_false, not_false_eq_true, wrt_def, bnd_some, up_as, upA_upA, upA_eq, upA_ne, up_upA, upd_eq, upd_ne, hE, m_al239 hb hr]
    simp [spE]
/-- what a command of one bank wants of the times: counts of activations that aren't negative -/
def WFa (a : Nat → Int32) : Prop := ∀ b, b < 8 → ¬ a (48 + b) < 0
/-- the sizes and settings that the reference's program has -/
def WFs (p : Nat → Int32) : Prop := p 0 = nI (ix (p 0)) ∧ 1 ≤ ix (p 0) ∧ ix (p 0) ≤ 8 ∧ p 1 = nI (ix (p 1)) ∧ 1 ≤ ix (p 1) ∧ ix (p 1) ≤ 16 ∧ p 2 = nI (ix (p 2)) ∧ 1 ≤ ix (p 2) ∧ ix (p 2) ≤ 8 ∧ p 9 = nI (ix (p 9)) ∧ 1 ≤ ix (p 9) ∧ ix (p 9) ≤ 8 ∧ p 11 = nI (ix (p 11)) ∧ ix (p 11) ≤ 8
theorem nn_of {x : Int32} (h : x = nI (ix x)) : ¬ x < 0 := by rw [h]; exact nI_pos (ix_lt x)
theorem m_al97 {M : Mem} {b c : Nat} (hb : b < 8) (hc : c < 60) (h : WFc (M 5) c) (hs : WFs (M 5)) (ha : ¬ M 1 (48 + b) < 0) (t : Int32) (hk : kdN (M 5) c ≤ 1) : j_X10_alone_97 (nI b) (nI c) (nI (kdN (M 5) c)) (nI (rgN (M 5) c)) t M = some (0, upA M 1 (if ¬ M 1 (40 + b) = M 5 (50 + 4 * c + 2) + 1 then spEnd (M 5) (spAct (M 5) (M 1) b (M 5 (50 + 4 * c + 2)) t) b c (spU (M 5) (M 1) b t + M 5 3) else spEnd (M 5) (M 1) b c t)) := by
  obtain ⟨-, -, -, -, -, -, h2, -, h28, h9, -⟩ := id hs
  unfold j_X10_alone_97
  simp (disch := first | omega | decide) only [la, lm, ra, rm_, rs, ss, rr, rd, nI_add, pk_mul, zadd, Nat.zero_add, Nat.add_zero, ix_nI, inb_T, inb_F, le_T, le_F, lt_T, lt_F, lle_T, lle_F, rle_T, rle_F, llt_T, llt_F, rlt_T, rlt_F, eq_n, if_true, if_false, not_true_eq_false, not_false_eq_true, wrt_def, bnd_some, up_as, upA_upA, upA_eq, upA_ne, up_upA, upd_eq, upd_ne, m_told2 _ hc]
  by_cases q : M 1 (40 + b) = M 5 (50 + 4 * c + 2) + 1
  · rw [if_pos q, if_neg (fun z => z q)]
    exact m_al132 hb hc h h2 h28 t (by omega)
  · rw [if_neg q, if_pos q, m_activates hb ha (nn_of h9), bnd_some]
    have e5 : (upA M 1 (spAct (M 5) (M 1) b (M 5 (50 + 4 * c + 2)) t)) 5 = M 5 := upA_ne _ _ (by decide)
    have e1 : (upA M 1 (spAct (M 5) (M 1) b (M 5 (50 + 4 * c + 2)) t)) 1 = spAct (M 5) (M 1) b (M 5 (50 + 4 * c + 2)) t := upA_eq _ _ _
    have := m_al132 (M := upA M 1 (spAct (M 5) (M 1) b (M 5 (50 + 4 * c + 2)) t)) (b := b) (c := c) hb hc (by rw [e5]; exact h) (by rw [e5]; exact h2) (by rw [e5]; exact h28) (spU (M 5) (M 1) b t + M 5 3) (by rw [e5]; omega)
    rw [e5, e1, upA_upA] at this
    exact this
theorem m_al71 {M : Mem} {b c : Nat} (hb : b < 8) (hc : c < 60) (h : WFc (M 5) c) (hs : WFs (M 5)) (ha : ¬ M 1 (48 + b) < 0) (hk : kdN (M 5) c ≠ 4 ∧ kdN (M 5) c ≠ 6 ∧ kdN (M 5) c ≠ 7) : j_X10_alone_71 (nI b) (nI c) (nI (kdN (M 5) c)) (nI (rgN (M 5) c)) (spT (M 5) (M 1) b c) M = some (0, upA M 1 (spAlone (M 5) (M 1) b c)) := by
  obtain ⟨-, -, -, -, -, -, h2, -, h28, h9, -⟩ := id hs
  have hkl := kd_lt (M 5) c
  unfold j_X10_alone_71
  simp (disch := first | omega | decide) only [la, lm, ra, rm_, rs, ss, rr, rd, nI_add, pk_mul, zadd, Nat.zero_add, Nat.add_zero, ix_nI, inb_T, inb_F, le_T, le_F, lt_T, lt_F, lle_T, lle_F, rle_T, rle_F, llt_T, llt_F, rlt_T, rlt_F, eq_n, if_true, if_false, not_true_eq_false, not_false_eq_true, wrt_def, bnd_some, up_as, upA_upA, upA_eq, upA_ne, up_upA, upd_eq, upd_ne, m_stalls0 _ _ hb]
  have e5 : (upA M 1 (spH (M 5) (M 1) b c)) 5 = M 5 := upA_ne _ _ (by decide)
  have e1 : (upA M 1 (spH (M 5) (M 1) b c)) 1 = spH (M 5) (M 1) b c := upA_eq _ _ _
  have e48 : spH (M 5) (M 1) b c (48 + b) = M 1 (48 + b) := upd_ne _ _ (by omega)
  have e40 : spH (M 5) (M 1) b c (40 + b) = M 1 (40 + b) := upd_ne _ _ (by omega)
  have h97 := m_al97 (M := upA M 1 (spH (M 5) (M 1) b c)) (b := b) (c := c) hb hc (by rw [e5]; exact h) (by rw [e5]; exact hs) (by rw [e1, e48]; exact ha) (spT (M 5) (M 1) b c)
  rw [e5, e1, upA_upA, e40] at h97
  have h132 := m_al132 (M := upA M 1 (spH (M 5) (M 1) b c)) (b := b) (c := c) hb hc (by rw [e5]; exact h) (by rw [e5]; exact h2) (by rw [e5]; exact h28) (spT (M 5) (M 1) b c) (by rw [e5]; exact hk)
  rw [e5, e1, upA_upA] at h132
  unfold spAlone spA2 spG spO
  change (if kdN (M 5) c = 0 then j_X10_alone_97 (nI b) (nI c) (nI (kdN (M 5) c)) (nI (rgN (M 5) c)) (spT (M 5) (M 1) b c) (upA M 1 (spH (M 5) (M 1) b c)) else if ¬ kdN (M 5) c = 1 then j_X10_alone_132 (nI b) (nI c) (nI (kdN (M 5) c)) (nI (rgN (M 5) c)) (spT (M 5) (M 1) b c) (upA M 1 (spH (M 5) (M 1) b c)) else j_X10_alone_97 (nI b) (nI c) (nI (kdN (M 5) c)) (nI (rgN (M 5) c)) (spT (M 5) (M 1) b c) (upA M 1 (spH (M 5) (M 1) b c))) = _
  by_cases q : kdN (M 5) c ≤ 1
  · rw [h97 q]
    rcases (show kdN (M 5) c = 0 ∨ kdN (M 5) c = 1 by omega) with z | z <;> (simp [z]; by_cases y : M 1 (40 + b) = M 5 (50 + 4 * c + 2) + 1 <;> simp [y])
  · rw [h132]
    rw [if_neg (by omega), if_pos (by omega)]
    simp [q]
/-- ONE BANK'S COMMAND -/
theorem m_alone {M : Mem} {b c : Nat} (hb : b < 8) (hc : c < 60) (h : WFc (M 5) c) (hs : WFs (M 5)) (ha : ¬ M 1 (48 + b) < 0) (hk : kdN (M 5) c ≠ 4 ∧ kdN (M 5) c ≠ 6 ∧ kdN (M 5) c ≠ 7) : f_X10_alone (nI b) (nI c) M = some (0, upA M 1 (spAlone (M 5) (M 1) b c)) := by
  have hr := h.2.2.2.1
  have hkl := kd_lt (M 5) c
  have h71 := m_al71 hb hc h hs ha hk
  unfold spT at h71
  unfold f_X10_alone
  simp (disch := first | omega | decide) only [la, lm, ra, rm_, rs, ss, rr, rd, nI_add, pk_mul, zadd, Nat.zero_add, Nat.add_zero, ix_nI, inb_T, inb_F, le_T, le_F, lt_T, lt_F, lle_T, lle_F, rle_T, rle_F, llt_T, llt_F, rlt_T, rlt_F, eq_n, if_true, if_false, not_true_eq_false, not_false_eq_true, wrt_def, bnd_some, up_as, upA_upA, upA_eq, upA_ne, up_upA, upd_eq, upd_ne, mm_kindOf hc h, m_told1 _ hc, m_told2 _ hc, m_told3 _ hc, great_mx]
  rw [h.2.2.1]
  simp (disch := first | omega | decide) only [la, lm, ra, rm_, rs, ss, rr, rd, nI_add, pk_mul, zadd, Nat.zero_add, Nat.add_zero, ix_nI, inb_T, inb_F, le_T, le_F, lt_T, lt_F, lle_T, lle_F, rle_T, rle_F, llt_T, llt_F, rlt_T, rlt_F, eq_n, if_true, if_false, not_true_eq_false, not_false_eq_true, wrt_def, bnd_some, up_as, upA_upA, upA_eq, upA_ne, up_upA, upd_eq, upd_ne, m_readyOf _ hb hr]
  by_cases q : kdN (M 5) c = 3
  · obtain ⟨q2, q2l, q3, q3l⟩ := h.2.2.2.2.1 q
    rw [if_pos q] at h71
    rw [q] at h71 ⊢
    rw [if_neg (by decide), q2]
    simp (disch := first | omega | decide) only [la, lm, ra, rm_, rs, ss, rr, rd, nI_add, pk_mul, zadd, Nat.zero_add, Nat.add_zero, ix_nI, inb_T, inb_F, le_T, le_F, lt_T, lt_F, lle_T, lle_F, rle_T, rle_F, llt_T, llt_F, rlt_T, rlt_F, eq_n, if_true, if_false, not_true_eq_false, not_false_eq_true, wrt_def, bnd_some, up_as, upA_upA, upA_eq, upA_ne, up_upA, upd_eq, upd_ne, m_readyOf _ hb q2l]
    rw [q3]
    simp (disch := first | omega | decide) only [la, lm, ra, rm_, rs, ss, rr, rd, nI_add, pk_mul, zadd, Nat.zero_add, Nat.add_zero, ix_nI, inb_T, inb_F, le_T, le_F, lt_T, lt_F, lle_T, lle_F, rle_T, rle_F, llt_T, llt_F, rlt_T, rlt_F, eq_n, if_true, if_false, not_true_eq_false, not_false_eq_true, wrt_def, bnd_some, up_as, upA_upA, upA_eq, upA_ne, up_upA, upd_eq, upd_ne, m_readyOf _ hb q3l]
    exact h71
  · rw [if_neg q] at h71
    rw [if_pos q]
    exact h71
