/-! ===== a line is used ===== -/
theorem ne_m1 {i : Nat} (h : i < 2147483648) : ¬ nI i = -1 := fun z => nI_pos h (by rw [z]; decide)
def coA (a : Nat → Int32) (n b r nc : Nat) : Nat → Int32 := upd (fun j => if cl n 3 ≤ j ∧ j < cl n 3 + nc then a (wdP b r (j - cl n 3)) else upd (upd (upd a (cl n 0) (nI b)) (cl n 1) (nI r)) (cl n 2) 0 j) 1578 (nI (n + 1))
theorem m_comes {M : Mem} {n b r nc : Nat} (hn : M 1 1578 = nI n) (h8 : n < 8) (hb : b < 8) (hr : r < 16) (h2 : M 5 2 = nI nc) (hnc : nc ≤ 8) : f_X10_comes (nI b) (nI r) M = some (0, upA M 1 (coA (M 1) n b r nc)) := by
  have l2 := cl_lt (i := n) (k := 2) (by omega) (by omega)
  have l0 := cl_lt (i := n) (k := 0) (by omega) (by omega)
  have l1 := cl_lt (i := n) (k := 1) (by omega) (by omega)
  unfold f_X10_comes
  rw [hn, m_cell0, m_cell1, m_cell2]
  simp (disch := first | omega | decide) only [↓reduceIte, la, lm, ra, rm_, rs, ss, rr, rd, nI_add, pk_mul, zadd, Nat.zero_add, Nat.add_zero, ix_nI, inb_T, inb_F, le_T, le_F, lt_T, lt_F, lle_T, lle_F, rle_T, rle_F, llt_T, llt_F, rlt_T, rlt_F, eq_n, if_true, if_false, not_true_eq_false, not_false_eq_true, wrt_def, bnd_some, up_as, upA_upA, upA_eq, upA_ne, up_upA, upd_eq, upd_ne]
  have hw : wdP b r 0 = 160 + 8 * (16 * b + r) := rfl
  have hc : cl n 3 = 1579 + 11 * n + 3 := rfl
  have hc0 : cl n 0 = 1579 + 11 * n := rfl
  have hc1 : cl n 1 = 1579 + 11 * n + 1 := rfl
  have hc2 : cl n 2 = 1579 + 11 * n + 2 := rfl
  have hwk : ∀ k, wdP b r k = wdP b r 0 + k := fun k => rfl
  have hck : ∀ k, cl n (3 + k) = cl n 3 + k := fun k => by unfold cl; omega
  unfold coA
  generalize hA : upd (upd (upd (M 1) (cl n 0) (nI b)) (cl n 1) (nI r)) (cl n 2) 0 = A
  have eA : ∀ j, j < 1440 → A j = M 1 j := by
    intro j hj
    rw [← hA, upd_ne _ _ (by omega), upd_ne _ _ (by omega), upd_ne _ _ (by omega)]
  have e78 : A 1578 = nI n := by
    rw [← hA, upd_ne _ _ (by omega), upd_ne _ _ (by omega), upd_ne _ _ (by omega), hn]
  have eb := foldBlk (d := cl n 3) (n := nc) (F := fun k a2 => upd a2 (cl n 3 + k) (a2 (wdP b r k))) (G := fun k => M 1 (wdP b r k)) (a := A) (fun k hk a2 h3 => by
    rw [h3 _ (by rw [hwk]; omega), eA _ (by rw [hwk]; omega)])
  rw [← eb]
  have kp : ∀ k, k ≤ nc → foldN (fun k a2 => upd a2 (cl n 3 + k) (a2 (wdP b r k))) k A 1578 = nI n := by
    intro k hk
    refine foldN_inv (fun a2 => a2 1578 = nI n) A e78 (fun q hq a2 h3 => ?_)
    rw [upd_ne _ _ (by omega)]; exact h3
  refine loop_run nc (fun k => (nI k, upA M 1 (foldN (fun k a2 => upd a2 (cl n 3 + k) (a2 (wdP b r k))) k A))) rfl (by omega) (fun k hk K => ?_) (fun K => ?_)
  · simp only [l_X10_comes_45]
    rw [foldN_s]
    generalize foldN (fun k a2 => upd a2 (cl n 3 + k) (a2 (wdP b r k))) k A = a2
    have l3 := cl_lt (i := n) (k := 3 + k) (by omega) (by omega)
    have lw := wdP_lt (b := b) (r := r) (k := k) hb hr (by omega)
    rw [m_cell3, m_word]
    simp (disch := first | omega | decide) only [↓reduceIte, la, lm, ra, rm_, rs, ss, rr, rd, nI_add, pk_mul, zadd, Nat.zero_add, Nat.add_zero, ix_nI, inb_T, inb_F, le_T, le_F, lt_T, lt_F, lle_T, lle_F, rle_T, rle_F, llt_T, llt_F, rlt_T, rlt_F, eq_n, if_true, if_false, not_true_eq_false, not_false_eq_true, wrt_def, bnd_some, up_as, upA_upA, upA_eq, upA_ne, up_upA, upd_eq, upd_ne, h2, hck]
  · simp only [l_X10_comes_45]
    have k9 := kp nc (Nat.le_refl _)
    generalize foldN (fun k a2 => upd a2 (cl n 3 + k) (a2 (wdP b r k))) nc A = a2 at k9
    simp (disch := first | omega | decide) only [↓reduceIte, la, lm, ra, rm_, rs, ss, rr, rd, nI_add, pk_mul, zadd, Nat.zero_add, Nat.add_zero, ix_nI, inb_T, inb_F, le_T, le_F, lt_T, lt_F, lle_T, lle_F, rle_T, rle_F, llt_T, llt_F, rlt_T, rlt_F, eq_n, if_true, if_false, not_true_eq_false, not_false_eq_true, wrt_def, bnd_some, up_as, upA_upA, upA_eq, upA_ne, up_upA, upd_eq, upd_ne, h2, k9]
/-- the line i becomes the last one -/
def roA (a : Nat → Int32) (i n : Nat) : Nat → Int32 := fun j => if cl (n - 1) 0 ≤ j ∧ j < cl (n - 1) 0 + 11 then a (cl i (j - cl (n - 1) 0)) else shA a i (n - 1) j
theorem m_usesHit {M : Mem} {n b r i : Nat} (hn : M 1 1578 = nI n) (h8 : n ≤ 8) (hi : i < n) (h : isL (M 1) b r i) (hu : ∀ j, j < i → ¬ isL (M 1) b r j) : f_X10_uses (nI b) (nI r) M = some (nI (n - 1), upA (upA M 8 (fun k => if k < 11 then M 1 (cl i k) else M 8 k)) 1 (roA (upd (M 1) 1667 (M 1 1667 + 1)) i n)) := by
  unfold f_X10_uses
  rw [m_lineOf hn h8 hi h hu, bnd_some]
  have hne := ne_m1 (i := i) (by omega)
  have e0 : (if ¬ nI i = -1 then (0 : Int32) else 1) = 0 := if_pos hne
  rw [e0]
  have e7 : (1667 : Int32) + 0 = nI 1667 := rfl
  simp only [e7]
  rw [if_pos (of_eq_true (inb_T (by omega) (by omega))), if_pos (of_eq_true (inb_T (by omega) (by omega))), wrt_def, ix_nI (by omega), up_as, if_pos hne]
  have hc0 : cl i 0 = 1579 + 11 * i := rfl
  have hcn : cl (n - 1) 0 = 1579 + 11 * (n - 1) := rfl
  have hck : ∀ k, cl i k = cl i 0 + k := fun k => rfl
  have hcnk : ∀ k, cl (n - 1) k = cl (n - 1) 0 + k := fun k => rfl
  generalize hA : upd (M 1) 1667 (M 1 1667 + 1) = A
  have e78 : A 1578 = nI n := by rw [← hA, upd_ne _ _ (by omega), hn]
  have eAi : ∀ k, k < 11 → A (cl i k) = M 1 (cl i k) := by
    intro k hk
    rw [← hA, upd_ne _ _ (by unfold cl; omega)]
  rw [upA_eq, e78, n1, ss (by omega)]
  -- the line is kept beside
  have fb := foldBlk (d := 0) (n := 11) (F := fun k f => upd f (0 + k) (A (cl i k))) (G := fun k => A (cl i k)) (a := M 8) (fun k hk a2 h3 => rfl)
  refine loop_run 11 (fun k => (nI k, upA (upA M 1 A) 8 (foldN (fun k f => upd f (0 + k) (A (cl i k))) k (M 8)))) (by rw [foldN_0]; have : upA (upA M 1 A) 8 (M 8) = upA M 1 A := by { have := upA_self (upA M 1 A) 8; rw [upA_ne _ _ (show (8 : Nat) ≠ 1 by decide)] at this; exact this }; rw [this]; rfl) (by omega) (fun k hk K => ?_) (fun K => ?_)
  · simp only [l_X10_uses_97]
    rw [foldN_s, m_cell]
    have lk := cl_lt (i := i) (k := k) (by omega) hk
    generalize foldN (fun k f => upd f (0 + k) (A (cl i k))) k (M 8) = f
    simp (disch := first | omega | decide) only [↓reduceIte, la, lm, ra, rm_, rs, ss, rr, rd, nI_add, pk_mul, zadd, Nat.zero_add, Nat.add_zero, ix_nI, inb_T, inb_F, le_T, le_F, lt_T, lt_F, lle_T, lle_F, rle_T, rle_F, llt_T, llt_F, rlt_T, rlt_F, eq_n, if_true, if_false, not_true_eq_false, not_false_eq_true, wrt_def, bnd_some, up_as, upA_upA, upA_eq, upA_ne, up_upA, upd_eq, upd_ne]
  · simp only [l_X10_uses_97]
    rw [if_pos (show (11 : Int32) ≤ nI 11 from nI_le (a := 11) (Nat.le_refl _) (by decide)), fb, m_cell0]
    have hU : (fun j => if 0 ≤ j ∧ j < 0 + 11 then A (cl i (j - 0)) else M 8 j) = fun k => if k < 11 then M 1 (cl i k) else M 8 k := by
      funext j
      by_cases q : j < 11
      · rw [if_pos (by omega), if_pos q]; exact eAi j q
      · rw [if_neg (by omega), if_neg q]
    rw [hU]
    generalize hu8 : (fun k => if k < 11 then M 1 (cl i k) else M 8 k) = U
    have eU : ∀ k, k < 11 → U k = A (cl i k) := by
      intro k hk
      rw [← hu8, eAi k hk]
      exact if_pos hk
    have e18 : ∀ g, upA (upA (upA M 1 A) 8 U) 1 g = upA (upA M 8 U) 1 g := by
      intro g
      rw [upA_comm _ _ _ (show (8 : Nat) ≠ 1 by decide), upA_upA, upA_comm _ _ _ (show (1 : Nat) ≠ 8 by decide)]
    have sf := sh_fold A i (n - 1)
    have e0 : upA (upA M 1 A) 8 U = upA (upA M 8 U) 1 A := upA_comm _ _ _ (by decide)
    rw [e0]
    -- the lines behind it move down
    refine loop_run (11 * (n - 1 - i)) (fun k => (nI (cl i 0 + k), upA (upA M 8 U) 1 (foldN (fun k a2 => upd a2 (cl i 0 + k) (a2 (cl i 0 + k + 11))) k A))) rfl (by omega) (fun k hk K => ?_) (fun K => ?_)
    · simp only [l_X10_uses_135]
      rw [foldN_s, m_cell0]
      generalize foldN (fun k a2 => upd a2 (cl i 0 + k) (a2 (cl i 0 + k + 11))) k A = a2
      simp (disch := first | omega | decide) only [↓reduceIte, la, lm, ra, rm_, rs, ss, rr, rd, nI_add, pk_mul, zadd, Nat.zero_add, Nat.add_zero, ix_nI, inb_T, inb_F, le_T, le_F, lt_T, lt_F, lle_T, lle_F, rle_T, rle_F, llt_T, llt_F, rlt_T, rlt_F, eq_n, if_true, if_false, not_true_eq_false, not_false_eq_true, wrt_def, bnd_some, up_as, upA_upA, upA_eq, upA_ne, up_upA, upd_eq, upd_ne]
      rw [Nat.add_assoc (cl i 0) k 1]
    · simp only [l_X10_uses_135]
      rw [m_cell0, if_pos (nI_le (by omega) (by omega)), sf]
      -- and it comes last
      have rb := foldBlk (d := cl (n - 1) 0) (n := 11) (F := fun k a2 => upd a2 (cl (n - 1) 0 + k) (U k)) (G := fun k => U k) (a := shA A i (n - 1)) (fun k hk a2 h3 => rfl)
      have er : roA A i n = foldN (fun k a2 => upd a2 (cl (n - 1) 0 + k) (U k)) 11 (shA A i (n - 1)) := by
        rw [rb]
        unfold roA
        funext j
        by_cases q : cl (n - 1) 0 ≤ j ∧ j < cl (n - 1) 0 + 11
        · rw [if_pos q, if_pos q, eU _ (by omega)]
        · rw [if_neg q, if_neg q]
      rw [er]
      refine loop_run 11 (fun k => (nI k, upA (upA M 8 U) 1 (foldN (fun k a2 => upd a2 (cl (n - 1) 0 + k) (U k)) k (shA A i (n - 1))))) rfl (by omega) (fun k hk K => ?_) (fun K => ?_)
      · simp only [l_X10_uses_172]
        rw [foldN_s, m_cell, ← hcnk]
        have lk := cl_lt (i := n - 1) (k := k) (by omega) hk
        generalize foldN (fun k a2 => upd a2 (cl (n - 1) 0 + k) (U k)) k (shA A i (n - 1)) = a2
        simp (disch := first | omega | decide) only [↓reduceIte, la, lm, ra, rm_, rs, ss, rr, rd, nI_add, pk_mul, zadd, Nat.zero_add, Nat.add_zero, ix_nI, inb_T, inb_F, le_T, le_F, lt_T, lt_F, lle_T, lle_F, rle_T, rle_F, llt_T, llt_F, rlt_T, rlt_F, eq_n, if_true, if_false, not_true_eq_false, not_false_eq_true, wrt_def, bnd_some, up_as, upA_upA, upA_eq, upA_ne, up_upA, upd_eq, upd_ne]
      · simp only [l_X10_uses_172]
        rw [if_pos (show (11 : Int32) ≤ nI 11 from nI_le (a := 11) (Nat.le_refl _) (by decide))]
theorem m_usesMiss {M : Mem} {n b r nc nC : Nat} (hn : M 1 1578 = nI n) (h8 : n ≤ nC) (hC : M 5 11 = nI nC) (hC8 : nC ≤ 8) (hC1 : 1 ≤ nC) (hb : b < 8) (hr : r < 16) (h2 : M 5 2 = nI nc) (hnc : nc ≤ 8) (hu : ∀ j, j < n → ¬ isL (M 1) b r j) : (n < nC → f_X10_uses (nI b) (nI r) M = some (nI n, upA M 1 (coA (upd (M 1) 1668 (M 1 1668 + 1)) n b r nc))) ∧ (n = nC → ∀ b0 r0, b0 < 8 → r0 < 16 → isL (M 1) b0 r0 0 → f_X10_uses (nI b) (nI r) M = some (nI (n - 1), upA M 1 (coA (goA (if M 1 (cl 0 2) = 0 then upd (M 1) 1668 (M 1 1668 + 1) else clA (upd (M 1) 1668 (M 1 1668 + 1)) 0 b0 r0 nc) 0 n) (n - 1) b r nc))) := by
  have key : f_X10_uses (nI b) (nI r) M = if ¬ n = nC then j_X10_uses_65 (nI b) (nI r) (upA M 1 (upd (M 1) 1668 (M 1 1668 + 1))) else bnd (f_X10_cleans 0 (upA M 1 (upd (M 1) 1668 (M 1 1668 + 1)))) (fun v23 M24 => bnd (f_X10_goes 0 M24) (fun _ M26 => j_X10_uses_65 (nI b) (nI r) M26)) := by
    unfold f_X10_uses
    rw [m_lineNo hn (by omega) hu, bnd_some]
    have e0 : (if ¬ (-1 : Int32) = -1 then (0 : Int32) else 1) = 1 := rfl
    rw [e0]
    have e7 : (1667 : Int32) + 1 = nI 1668 := rfl
    simp only [e7]
    rw [if_pos (of_eq_true (inb_T (by omega) (by omega))), if_pos (of_eq_true (inb_T (by omega) (by omega))), wrt_def, ix_nI (by omega), up_as, if_neg (show ¬ ¬ True from fun z => z trivial), upA_eq, upd_ne _ _ (show (1578 : Nat) ≠ 1668 by decide), hn, upA_ne _ _ (show (5 : Nat) ≠ 1 by decide), hC]
    by_cases q : n = nC
    · rw [if_neg (fun z => z (by rw [q])), if_neg (fun z => z q)]
    · rw [if_pos (fun z => q ((nI_eq (by omega) (by omega)).mp z)), if_pos q]
  rw [key]
  generalize hA : upd (M 1) 1668 (M 1 1668 + 1) = A
  have eA : ∀ j, j ≠ 1668 → A j = M 1 j := fun j hj => by rw [← hA, upd_ne _ _ hj]
  have e5 : ∀ a, (upA M 1 a) 5 = M 5 := fun a => upA_ne _ _ (by decide)
  constructor
  · intro q
    rw [if_pos (by omega)]
    unfold j_X10_uses_65
    have hm := m_comes (M := upA M 1 A) (n := n) (b := b) (r := r) (nc := nc) (by rw [upA_eq, eA _ (by decide), hn]) (by omega) hb hr (by rw [e5, h2]) hnc
    rw [upA_upA, upA_eq] at hm
    rw [hm, bnd_some, upA_eq]
    have e9 : coA A n b r nc 1578 = nI (n + 1) := upd_eq _ _ _
    rw [e9, n1, ss (by omega), Nat.add_sub_cancel]
  · intro q b0 r0 hb0 hr0 hL0
    rw [if_neg (by omega)]
    have hcl : f_X10_cleans 0 (upA M 1 A) = some (if M 1 (cl 0 2) = 0 then 0 else 1, upA M 1 (if M 1 (cl 0 2) = 0 then A else clA A 0 b0 r0 nc)) := by
      by_cases z : M 1 (cl 0 2) = 0
      · rw [if_pos z, if_pos z]
        exact m_clean0 (M := upA M 1 A) (i := 0) (by omega) (by rw [upA_eq, eA _ (by decide)]; exact z)
      · rw [if_neg z, if_neg z]
        have hm := m_cleans (M := upA M 1 A) (i := 0) (b := b0) (r := r0) (nc := nc) (by omega) hb0 hr0 ⟨by rw [upA_eq, eA _ (by decide)]; exact hL0.1, by rw [upA_eq, eA _ (by decide)]; exact hL0.2⟩ (by rw [e5, h2]) hnc (by rw [upA_eq, eA _ (by decide)]; exact z)
        rw [upA_upA, upA_eq] at hm
        exact hm
    rw [hcl, bnd_some]
    have hw : wdP b0 r0 0 = 160 + 8 * (16 * b0 + r0) := rfl
    have e78 : (if M 1 (cl 0 2) = 0 then A else clA A 0 b0 r0 nc) 1578 = nI n := by
      split
      · rw [eA _ (by decide), hn]
      · unfold clA
        rw [upd_ne _ _ (by decide), upd_ne _ _ (by decide)]
        show (if _ then _ else _) = _
        rw [if_neg (by omega), eA _ (by decide), hn]
    generalize (if M 1 (cl 0 2) = 0 then A else clA A 0 b0 r0 nc) = B at e78
    have hg := m_goes (M := upA M 1 B) (n := n) (i := 0) (by rw [upA_eq]; exact e78) (by omega) (by omega)
    rw [upA_upA, upA_eq] at hg
    have hg' : f_X10_goes 0 (upA M 1 B) = some (0, upA M 1 (goA B 0 n)) := hg
    rw [hg', bnd_some]
    have hgn : goA B 0 n 1578 = nI (n - 1) := by
      unfold goA shA
      rw [if_neg (by unfold cl; omega), upd_eq]
    unfold j_X10_uses_65
    have hm := m_comes (M := upA M 1 (goA B 0 n)) (n := n - 1) (b := b) (r := r) (nc := nc) (by rw [upA_eq]; exact hgn) (by omega) hb hr (by rw [e5, h2]) hnc
    rw [upA_upA, upA_eq] at hm
    rw [hm, bnd_some, upA_eq]
    have e9 : coA (goA B 0 n) (n - 1) b r nc 1578 = nI (n - 1 + 1) := upd_eq _ _ _
    rw [e9, n1, ss (by omega), Nat.add_sub_cancel]
