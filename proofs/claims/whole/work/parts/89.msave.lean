/-! ===== the reference saves and restores ===== -/
theorem m_saveL {M : Mem} {s : Nat} (hs : s < 2) : loopC (l_X10_save_29 (nI s)) fuelL (0, M) = some (0, upA M 2 (fun j => if 1671 * s ≤ j ∧ j < 1671 * s + 1671 then M 1 (j - 1671 * s) else M 2 j)) := by
  have fb := foldBlk (d := 1671 * s) (n := 1671) (F := fun k f => upd f (1671 * s + k) (M 1 k)) (G := fun k => M 1 k) (a := M 2) (fun k hk a2 h3 => rfl)
  rw [← fb]
  refine loop_run 1671 (fun k => (nI k, upA M 2 (foldN (fun k f => upd f (1671 * s + k) (M 1 k)) k (M 2)))) (by rw [foldN_0, upA_self]; rfl) (by omega) (fun k hk K => ?_) (fun K => ?_)
  · simp only [l_X10_save_29]
    rw [foldN_s]
    generalize foldN (fun k f => upd f (1671 * s + k) (M 1 k)) k (M 2) = f
    simp (disch := first | omega | decide) only [↓reduceIte, la, lm, ra, rm_, rs, ss, rr, rd, nI_add, pk_mul, zadd, Nat.zero_add, Nat.add_zero, ix_nI, inb_T, inb_F, le_T, le_F, lt_T, lt_F, lle_T, lle_F, rle_T, rle_F, llt_T, llt_F, rlt_T, rlt_F, eq_n, if_true, if_false, not_true_eq_false, not_false_eq_true, wrt_def, bnd_some, up_as, upA_upA, upA_eq, upA_ne, up_upA, upd_eq, upd_ne]
  · simp only [l_X10_save_29]
    rw [if_pos (show (1671 : Int32) ≤ nI 1671 from nI_le (a := 1671) (Nat.le_refl _) (by decide))]
theorem m_restoreL {M : Mem} {s : Nat} (hs : s < 2) : loopC (l_X10_restore_36 (nI s)) fuelL (0, M) = some (0, upA M 1 (fun j => if 0 ≤ j ∧ j < 0 + 1671 then M 2 (1671 * s + (j - 0)) else M 1 j)) := by
  have fb := foldBlk (d := 0) (n := 1671) (F := fun k f => upd f (0 + k) (M 2 (1671 * s + k))) (G := fun k => M 2 (1671 * s + k)) (a := M 1) (fun k hk a2 h3 => rfl)
  rw [← fb]
  refine loop_run 1671 (fun k => (nI k, upA M 1 (foldN (fun k f => upd f (0 + k) (M 2 (1671 * s + k))) k (M 1)))) (by rw [foldN_0, upA_self]; rfl) (by omega) (fun k hk K => ?_) (fun K => ?_)
  · simp only [l_X10_restore_36]
    rw [foldN_s]
    generalize foldN (fun k f => upd f (0 + k) (M 2 (1671 * s + k))) k (M 1) = f
    simp (disch := first | omega | decide) only [↓reduceIte, la, lm, ra, rm_, rs, ss, rr, rd, nI_add, pk_mul, zadd, Nat.zero_add, Nat.add_zero, ix_nI, inb_T, inb_F, le_T, le_F, lt_T, lt_F, lle_T, lle_F, rle_T, rle_F, llt_T, llt_F, rlt_T, rlt_F, eq_n, if_true, if_false, not_true_eq_false, not_false_eq_true, wrt_def, bnd_some, up_as, upA_upA, upA_eq, upA_ne, up_upA, upd_eq, upd_ne]
  · simp only [l_X10_restore_36]
    rw [if_pos (show (1671 : Int32) ≤ nI 1671 from nI_le (a := 1671) (Nat.le_refl _) (by decide))]
    try rfl
