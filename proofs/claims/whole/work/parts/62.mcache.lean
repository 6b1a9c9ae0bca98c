/-! ===== the reference's cache lines ===== -/
/-- the number k of the line i -/
def cl (i k : Nat) : Nat := 1579 + 11 * i + k
theorem m_cell (i k : Nat) : p_X10_cell (nI i) (nI k) = nI (cl i k) := by
  unfold p_X10_cell cl
  simp (disch := first | omega | decide) only [↓reduceIte, la, lm, ra, rm_, rs, ss, rr, rd, nI_add, pk_mul, zadd, Nat.zero_add, Nat.add_zero, ix_nI, inb_T, inb_F, le_T, le_F, lt_T, lt_F, lle_T, lle_F, rle_T, rle_F, llt_T, llt_F, rlt_T, rlt_F, eq_n, if_true, if_false, not_true_eq_false, not_false_eq_true, wrt_def, bnd_some, up_as, upA_upA, upA_eq, upA_ne, up_upA, upd_eq, upd_ne]
theorem m_cell0 (i : Nat) : p_X10_cell (nI i) 0 = nI (cl i 0) := m_cell i 0
theorem m_cell1 (i : Nat) : p_X10_cell (nI i) 1 = nI (cl i 1) := m_cell i 1
theorem m_cell2 (i : Nat) : p_X10_cell (nI i) 2 = nI (cl i 2) := m_cell i 2
theorem m_cell3 (i k : Nat) : p_X10_cell (nI i) (3 + nI k) = nI (cl i (3 + k)) := by rw [n3, nI_add]; exact m_cell i _
theorem cl_lt {i k : Nat} (hi : i < 8) (hk : k < 11) : cl i k < 1667 ∧ 1579 ≤ cl i k := by unfold cl; omega
/-- line i is that of row r of bank b -/
def isL (a : Nat → Int32) (b r i : Nat) : Prop := a (cl i 0) = nI b ∧ a (cl i 1) = nI r
theorem m_lrow {M : Mem} {n b r i : Nat} (hn : M 1 1578 = nI n) (h8 : n ≤ 8) (hi : i < n) (K : Int32 × Mem → Option (Int32 × Mem)) : (isL (M 1) b r i → l_X10_lineOf_2 (nI b) (nI r) K (nI i, M) = some (nI i, M)) ∧ (¬ isL (M 1) b r i → l_X10_lineOf_2 (nI b) (nI r) K (nI i, M) = K (nI (i + 1), M)) := by
  have h0 := cl_lt (i := i) (k := 0) (by omega) (by omega)
  have h1 := cl_lt (i := i) (k := 1) (by omega) (by omega)
  have ea : nI i + 1 = nI (i + 1) := by rw [n1, nI_add]
  have key : l_X10_lineOf_2 (nI b) (nI r) K (nI i, M) = if ¬ M 1 (cl i 0) = nI b then K (nI (i + 1), M) else if ¬ M 1 (cl i 1) = nI r then K (nI (i + 1), M) else some (nI i, M) := by
    simp only [l_X10_lineOf_2]
    rw [m_cell0, m_cell1]
    simp (disch := first | omega | decide) only [↓reduceIte, la, lm, ra, rm_, rs, ss, rr, rd, nI_add, pk_mul, zadd, Nat.zero_add, Nat.add_zero, ix_nI, inb_T, inb_F, le_T, le_F, lt_T, lt_F, lle_T, lle_F, rle_T, rle_F, llt_T, llt_F, rlt_T, rlt_F, eq_n, if_true, if_false, not_true_eq_false, not_false_eq_true, wrt_def, bnd_some, up_as, upA_upA, upA_eq, upA_ne, up_upA, upd_eq, upd_ne, hn, j_X10_lineOf_44]
  rw [key]
  constructor
  · intro h
    rw [if_neg (fun z => z h.1), if_neg (fun z => z h.2)]
  · intro h
    by_cases q : M 1 (cl i 0) = nI b
    · rw [if_neg (fun z => z q), if_pos (fun z => h ⟨q, z⟩)]
    · rw [if_pos q]
theorem m_lineOf {M : Mem} {n b r i : Nat} (hn : M 1 1578 = nI n) (h8 : n ≤ 8) (hi : i < n) (h : isL (M 1) b r i) (hu : ∀ j, j < i → ¬ isL (M 1) b r j) : f_X10_lineOf (nI b) (nI r) M = some (nI i, M) := by
  unfold f_X10_lineOf
  exact loop_run i (fun j => (nI j, M)) rfl (by omega) (fun j hj K => (m_lrow hn h8 (by omega) K).2 (hu j hj)) (fun K => (m_lrow hn h8 hi K).1 h)
theorem m_lineNo {M : Mem} {n b r : Nat} (hn : M 1 1578 = nI n) (h8 : n ≤ 8) (hu : ∀ j, j < n → ¬ isL (M 1) b r j) : f_X10_lineOf (nI b) (nI r) M = some (-1, M) := by
  unfold f_X10_lineOf
  refine loop_run n (fun j => (nI j, M)) rfl (by omega) (fun j hj K => (m_lrow hn h8 hj K).2 (hu j hj)) (fun K => ?_)
  simp only [l_X10_lineOf_2]
  rw [hn, if_pos (nI_le (Nat.le_refl _) (by omega))]
/-- lines behind i move down -/
def shA (a : Nat → Int32) (i n : Nat) : Nat → Int32 := fun j => if cl i 0 ≤ j ∧ j < cl i 0 + 11 * (n - i) then a (j + 11) else a j
def goA (a : Nat → Int32) (i n : Nat) : Nat → Int32 := shA (upd a 1578 (nI (n - 1))) i (n - 1)
theorem sh_fold (a : Nat → Int32) (i n : Nat) : foldN (fun k a2 => upd a2 (cl i 0 + k) (a2 (cl i 0 + k + 11))) (11 * (n - i)) a = shA a i n := by
  rw [foldBlk (d := cl i 0) (G := fun k => a (cl i 0 + k + 11)) (fun k hk a2 h => by rw [h _ (by omega)])]
  unfold shA
  funext j
  by_cases q : cl i 0 ≤ j ∧ j < cl i 0 + 11 * (n - i)
  · rw [if_pos q, if_pos q]; congr 1; omega
  · rw [if_neg q, if_neg q]
theorem m_goes {M : Mem} {n i : Nat} (hn : M 1 1578 = nI n) (h8 : n ≤ 8) (hi : i < n) : f_X10_goes (nI i) M = some (0, upA M 1 (goA (M 1) i n)) := by
  unfold f_X10_goes
  rw [wrt_def, up_as, hn, n1, ss (by omega), m_cell0]
  unfold goA
  rw [← sh_fold]
  generalize hb0 : upd (M 1) 1578 (nI (n - 1)) = b0
  have e78 : ∀ k, k ≤ 11 * (n - 1 - i) → foldN (fun k a2 => upd a2 (cl i 0 + k) (a2 (cl i 0 + k + 11))) k b0 1578 = nI (n - 1) := by
    intro k hk
    refine foldN_inv (fun a2 => a2 1578 = nI (n - 1)) b0 (by rw [← hb0, upd_eq]) (fun j hj a2 h => ?_)
    rw [upd_ne _ _ (by unfold cl; omega)]; exact h
  refine loop_run (11 * (n - 1 - i)) (fun k => (nI (cl i 0 + k), upA M 1 (foldN (fun k a2 => upd a2 (cl i 0 + k) (a2 (cl i 0 + k + 11))) k b0))) rfl (by omega) (fun k hk K => ?_) (fun K => ?_)
  · simp only [l_X10_goes_18]
    have h78 := e78 k (by omega)
    rw [foldN_s]
    generalize foldN (fun k a2 => upd a2 (cl i 0 + k) (a2 (cl i 0 + k + 11))) k b0 = a2 at h78
    rw [upA_eq, h78, m_cell0]
    have hc : cl i 0 = 1579 + 11 * i := rfl
    have hc2 : cl (n - 1) 0 = 1579 + 11 * (n - 1) := rfl
    simp (disch := first | omega | decide) only [↓reduceIte, la, lm, ra, rm_, rs, ss, rr, rd, nI_add, pk_mul, zadd, Nat.zero_add, Nat.add_zero, ix_nI, inb_T, inb_F, le_T, le_F, lt_T, lt_F, lle_T, lle_F, rle_T, rle_F, llt_T, llt_F, rlt_T, rlt_F, eq_n, if_true, if_false, not_true_eq_false, not_false_eq_true, wrt_def, bnd_some, up_as, upA_upA, upA_eq, upA_ne, up_upA, upd_eq, upd_ne]
    rw [Nat.add_assoc (cl i 0) k 1]
  · simp only [l_X10_goes_18]
    have h78 := e78 (11 * (n - 1 - i)) (Nat.le_refl _)
    have hc : cl i 0 = 1579 + 11 * i := rfl
    have hc2 : cl (n - 1) 0 = 1579 + 11 * (n - 1) := rfl
    rw [upA_eq, h78, m_cell0, if_pos (nI_le (by omega) (by omega))]
/-- a dirty line is written back -/
def clA (a : Nat → Int32) (i b r nc : Nat) : Nat → Int32 := upd (upd (fun j => if wdP b r 0 ≤ j ∧ j < wdP b r 0 + nc then a (cl i (3 + (j - wdP b r 0))) else a j) (cl i 2) 0) 1669 (a 1669 + 1)
theorem m_clean0 {M : Mem} {i : Nat} (hi : i < 8) (h : M 1 (cl i 2) = 0) : f_X10_cleans (nI i) M = some (0, M) := by
  have h0 := cl_lt (i := i) (k := 2) (by omega) (by omega)
  unfold f_X10_cleans
  rw [m_cell2, if_pos (of_eq_true (inb_T (by omega) (by omega))), ix_nI (by omega), if_neg (fun z => z h)]
theorem m_cleans {M : Mem} {i b r nc : Nat} (hi : i < 8) (hb : b < 8) (hr : r < 16) (hL : isL (M 1) b r i) (h2 : M 5 2 = nI nc) (hnc : nc ≤ 8) (h : ¬ M 1 (cl i 2) = 0) : f_X10_cleans (nI i) M = some (1, upA M 1 (clA (M 1) i b r nc)) := by
  have l2 := cl_lt (i := i) (k := 2) (by omega) (by omega)
  have l0 := cl_lt (i := i) (k := 0) (by omega) (by omega)
  have l1 := cl_lt (i := i) (k := 1) (by omega) (by omega)
  unfold f_X10_cleans
  rw [m_cell2, if_pos (of_eq_true (inb_T (by omega) (by omega))), ix_nI (by omega), if_pos h]
  have hw : wdP b r 0 = 160 + 8 * (16 * b + r) := rfl
  unfold clA
  rw [← foldBlk (d := wdP b r 0) (n := nc) (F := fun k a2 => upd a2 (wdP b r 0 + k) (a2 (cl i (3 + k)))) (G := fun k => M 1 (cl i (3 + k))) (a := M 1) (fun k hk a2 h3 => by rw [h3 _ (by unfold cl; omega)])]
  have kp : ∀ k j, k ≤ nc → 1440 ≤ j → foldN (fun k a2 => upd a2 (wdP b r 0 + k) (a2 (cl i (3 + k)))) k (M 1) j = M 1 j := by
    intro k j hk hj
    refine foldN_inv (fun a2 => a2 j = M 1 j) (M 1) rfl (fun q hq a2 h3 => ?_)
    rw [upd_ne _ _ (by omega)]; exact h3
  refine loop_run nc (fun k => (nI k, upA M 1 (foldN (fun k a2 => upd a2 (wdP b r 0 + k) (a2 (cl i (3 + k)))) k (M 1)))) (by rw [foldN_0, upA_self]; rfl) (by omega) (fun k hk K => ?_) (fun K => ?_)
  · simp only [l_X10_cleans_17]
    have k0 := kp k (cl i 0) (by omega) (by omega)
    have k1 := kp k (cl i 1) (by omega) (by omega)
    rw [hL.1] at k0
    rw [hL.2] at k1
    rw [foldN_s]
    generalize foldN (fun k a2 => upd a2 (wdP b r 0 + k) (a2 (cl i (3 + k)))) k (M 1) = a2 at k0 k1
    have l3 := cl_lt (i := i) (k := 3 + k) (by omega) (by omega)
    have hw2 : wdP b r k = wdP b r 0 + k := rfl
    rw [m_cell0, m_cell1, m_cell3]
    simp (disch := first | omega | decide) only [↓reduceIte, la, lm, ra, rm_, rs, ss, rr, rd, nI_add, pk_mul, zadd, Nat.zero_add, Nat.add_zero, ix_nI, inb_T, inb_F, le_T, le_F, lt_T, lt_F, lle_T, lle_F, rle_T, rle_F, llt_T, llt_F, rlt_T, rlt_F, eq_n, if_true, if_false, not_true_eq_false, not_false_eq_true, wrt_def, bnd_some, up_as, upA_upA, upA_eq, upA_ne, up_upA, upd_eq, upd_ne, h2, k0, k1, m_word, hw2]
  · simp only [l_X10_cleans_17]
    have k9 := kp nc 1669 (Nat.le_refl _) (by omega)
    generalize foldN (fun k a2 => upd a2 (wdP b r 0 + k) (a2 (cl i (3 + k)))) nc (M 1) = a2 at k9
    rw [m_cell2]
    simp (disch := first | omega | decide) only [↓reduceIte, la, lm, ra, rm_, rs, ss, rr, rd, nI_add, pk_mul, zadd, Nat.zero_add, Nat.add_zero, ix_nI, inb_T, inb_F, le_T, le_F, lt_T, lt_F, lle_T, lle_F, rle_T, rle_F, llt_T, llt_F, rlt_T, rlt_F, eq_n, if_true, if_false, not_true_eq_false, not_false_eq_true, wrt_def, bnd_some, up_as, upA_upA, upA_eq, upA_ne, up_upA, upd_eq, upd_ne, h2, k9]
