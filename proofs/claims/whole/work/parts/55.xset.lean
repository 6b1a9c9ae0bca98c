/-! ===== the class's times, seen as the reference's array ===== -/
/-- the seven rows of the times t, as they are in a -/
def setT (M : Mem) (t : Nat) (a : Nat → Int32) : Mem := fun c j =>
  if c = t + 1 ∧ j < 8 then a j else if c = t + 2 ∧ j < 32 then a (8 + j) else if c = t + 3 ∧ j < 8 then a (40 + j) - 1 else if c = t + 4 ∧ j < 8 then a (48 + j) else if c = t + 5 ∧ j < 64 then a (56 + j) else if c = t + 6 ∧ j < 32 then a (120 + j) else if c = t + 7 ∧ j < 8 then a (152 + j) else M c j
theorem sT1 (M : Mem) (t : Nat) (a : Nat → Int32) {j : Nat} (h : j < 8) : setT M t a (t + 1) j = a j := by simp [setT, h]
theorem sT2b (M : Mem) (t : Nat) (a : Nat → Int32) {j : Nat} (h : j < 32) : setT M t a (t + 2) j = a (8 + j) := by simp [setT, h]
theorem sT2 (M : Mem) (t : Nat) (a : Nat → Int32) {b r : Nat} (h : b < 8) (hr : r < 4) : setT M t a (t + 2) (b * 4 + r) = a (8 + 4 * b + r) := by
  rw [sT2b M t a (by omega)]; congr 1; omega
theorem sT3 (M : Mem) (t : Nat) (a : Nat → Int32) {j : Nat} (h : j < 8) : setT M t a (t + 3) j = a (40 + j) - 1 := by simp [setT, h]
theorem sT4 (M : Mem) (t : Nat) (a : Nat → Int32) {j : Nat} (h : j < 8) : setT M t a (t + 4) j = a (48 + j) := by simp [setT, h]
theorem sT5b (M : Mem) (t : Nat) (a : Nat → Int32) {j : Nat} (h : j < 64) : setT M t a (t + 5) j = a (56 + j) := by simp [setT, h]
theorem sT5 (M : Mem) (t : Nat) (a : Nat → Int32) {b r : Nat} (h : b < 8) (hr : r < 8) : setT M t a (t + 5) (b * 8 + r) = a (56 + 8 * b + r) := by
  rw [sT5b M t a (by omega)]; congr 1; omega
theorem sT6b (M : Mem) (t : Nat) (a : Nat → Int32) {j : Nat} (h : j < 32) : setT M t a (t + 6) j = a (120 + j) := by simp [setT, h]
theorem sT6 (M : Mem) (t : Nat) (a : Nat → Int32) {b r : Nat} (h : b < 8) (hr : r < 4) : setT M t a (t + 6) (b * 4 + r) = a (120 + 4 * b + r) := by
  rw [sT6b M t a (by omega)]; congr 1; omega
theorem sT6z (M : Mem) (t : Nat) (a : Nat → Int32) {b : Nat} (h : b < 8) : setT M t a (t + 6) (b * 4) = a (120 + 4 * b) := sT6 M t a (r := 0) h (by decide)
theorem sT7 (M : Mem) (t : Nat) (a : Nat → Int32) {j : Nat} (h : j < 8) : setT M t a (t + 7) j = a (152 + j) := by simp [setT, h]
theorem sTn (M : Mem) {t c : Nat} (a : Nat → Int32) (h : c ≤ t ∨ t + 7 < c) : setT M t a c = M c := by
  funext j
  unfold setT
  rw [if_neg (by omega), if_neg (by omega), if_neg (by omega), if_neg (by omega), if_neg (by omega), if_neg (by omega), if_neg (by omega)]
theorem setT_setT (M : Mem) (t : Nat) (a b : Nat → Int32) : setT (setT M t a) t b = setT M t b := by
  funext c j
  by_cases h0 : c = t + 1 ∧ j < 8
  · simp only [setT, if_pos h0]
  ·
    by_cases h1 : c = t + 2 ∧ j < 32
    · simp only [setT, if_neg h0, if_pos h1]
    ·
      by_cases h2 : c = t + 3 ∧ j < 8
      · simp only [setT, if_neg h0, if_neg h1, if_pos h2]
      ·
        by_cases h3 : c = t + 4 ∧ j < 8
        · simp only [setT, if_neg h0, if_neg h1, if_neg h2, if_pos h3]
        ·
          by_cases h4 : c = t + 5 ∧ j < 64
          · simp only [setT, if_neg h0, if_neg h1, if_neg h2, if_neg h3, if_pos h4]
          ·
            by_cases h5 : c = t + 6 ∧ j < 32
            · simp only [setT, if_neg h0, if_neg h1, if_neg h2, if_neg h3, if_neg h4, if_pos h5]
            ·
              by_cases h6 : c = t + 7 ∧ j < 8
              · simp only [setT, if_neg h0, if_neg h1, if_neg h2, if_neg h3, if_neg h4, if_neg h5, if_pos h6]
              ·
                simp only [setT, if_neg h0, if_neg h1, if_neg h2, if_neg h3, if_neg h4, if_neg h5, if_neg h6]
theorem setT_congr (M : Mem) (t : Nat) {a b : Nat → Int32} (h : ∀ j, j < 160 → a j = b j) : setT M t a = setT M t b := by
  funext c j
  unfold setT
  repeat' split
  all_goals first | rfl | (rw [h _ (by omega)])
theorem uT1 (M : Mem) (t : Nat) (a : Nat → Int32) {j : Nat} (x : Int32) (h : j < 8) : up (setT M t a) (t + 1) j x = setT M t (upd a j x) := by
  funext c i
  unfold up setT upd
  repeat' split
  all_goals first | rfl | omega
theorem uT2b (M : Mem) (t : Nat) (a : Nat → Int32) {j : Nat} (x : Int32) (h : j < 32) : up (setT M t a) (t + 2) j x = setT M t (upd a (8 + j) x) := by
  funext c i
  unfold up setT upd
  repeat' split
  all_goals first | rfl | omega
theorem uT2 (M : Mem) (t : Nat) (a : Nat → Int32) {b r : Nat} (x : Int32) (h : b < 8) (hr : r < 4) : up (setT M t a) (t + 2) (b * 4 + r) x = setT M t (upd a (8 + 4 * b + r) x) := by
  rw [uT2b M t a x (by omega)]; congr 2; omega
theorem x11 (x : Int32) : x + 1 - 1 = x := Int32.add_sub_cancel x 1
theorem uT3 (M : Mem) (t : Nat) (a : Nat → Int32) {j : Nat} (x : Int32) (h : j < 8) : up (setT M t a) (t + 3) j x = setT M t (upd a (40 + j) (x + 1)) := by
  funext c i
  unfold up setT upd
  repeat' split
  all_goals first | rfl | omega | (rw [x11])
theorem uT4 (M : Mem) (t : Nat) (a : Nat → Int32) {j : Nat} (x : Int32) (h : j < 8) : up (setT M t a) (t + 4) j x = setT M t (upd a (48 + j) x) := by
  funext c i
  unfold up setT upd
  repeat' split
  all_goals first | rfl | omega
theorem uT5b (M : Mem) (t : Nat) (a : Nat → Int32) {j : Nat} (x : Int32) (h : j < 64) : up (setT M t a) (t + 5) j x = setT M t (upd a (56 + j) x) := by
  funext c i
  unfold up setT upd
  repeat' split
  all_goals first | rfl | omega
theorem uT5 (M : Mem) (t : Nat) (a : Nat → Int32) {b r : Nat} (x : Int32) (h : b < 8) (hr : r < 8) : up (setT M t a) (t + 5) (b * 8 + r) x = setT M t (upd a (56 + 8 * b + r) x) := by
  rw [uT5b M t a x (by omega)]; congr 2; omega
theorem uT6b (M : Mem) (t : Nat) (a : Nat → Int32) {j : Nat} (x : Int32) (h : j < 32) : up (setT M t a) (t + 6) j x = setT M t (upd a (120 + j) x) := by
  funext c i
  unfold up setT upd
  repeat' split
  all_goals first | rfl | omega
theorem uT6 (M : Mem) (t : Nat) (a : Nat → Int32) {b r : Nat} (x : Int32) (h : b < 8) (hr : r < 4) : up (setT M t a) (t + 6) (b * 4 + r) x = setT M t (upd a (120 + 4 * b + r) x) := by
  rw [uT6b M t a x (by omega)]; congr 2; omega
theorem uT6z (M : Mem) (t : Nat) (a : Nat → Int32) {b : Nat} (x : Int32) (h : b < 8) : up (setT M t a) (t + 6) (b * 4) x = setT M t (upd a (120 + 4 * b) x) := uT6 M t a (r := 0) x h (by decide)
theorem uT7 (M : Mem) (t : Nat) (a : Nat → Int32) {j : Nat} (x : Int32) (h : j < 8) : up (setT M t a) (t + 7) j x = setT M t (upd a (152 + j) x) := by
  funext c i
  unfold up setT upd
  repeat' split
  all_goals first | rfl | omega
/-! the greater of three -/
theorem mx_assoc (x y z : Int32) : mx (mx x y) z = mx x (mx y z) := by
  apply i32_ext
  rw [mx_toInt, mx_toInt, mx_toInt, mx_toInt]
  omega
/-! the lowest bank, as the class finds it -/
theorem x_lowest (M : Mem) {s : Int32} (h : ∃ b, b < 8 ∧ bit s b = true) : f_X9_lowestBank s M = some (nI (lowN s), M) := by
  obtain ⟨h1, h2, h3⟩ := low_ok h
  unfold f_X9_lowestBank
  refine loop_run (lowN s) (fun i => (nI i, M)) rfl (by omega) (fun i hi K => ?_) (fun K => ?_)
  · simp only [l_X9_lowestBank_2]
    simp (disch := first | omega | decide) only [la, lm, ra, rm_, rs, ss, rr, rd, nI_add, pk_mul, zadd, Nat.zero_add, Nat.add_zero, ix_nI, inb_T, inb_F, le_T, le_F, lt_T, lt_F, lle_T, lle_F, rle_T, rle_F, llt_T, llt_F, rlt_T, rlt_F, eq_n, if_true, if_false, not_true_eq_false, not_false_eq_true, wrt_def, bnd_some, up_as, upA_upA, upA_eq, upA_ne, up_upA, upd_eq, upd_ne, in_f (h3 i hi)]
  · simp only [l_X9_lowestBank_2, j_X9_lowestBank_22]
    by_cases q : lowN s = 7
    · rw [q]; rfl
    · simp (disch := first | omega | decide) only [la, lm, ra, rm_, rs, ss, rr, rd, nI_add, pk_mul, zadd, Nat.zero_add, Nat.add_zero, ix_nI, inb_T, inb_F, le_T, le_F, lt_T, lt_F, lle_T, lle_F, rle_T, rle_F, llt_T, llt_F, rlt_T, rlt_F, eq_n, if_true, if_false, not_true_eq_false, not_false_eq_true, wrt_def, bnd_some, up_as, upA_upA, upA_eq, upA_ne, up_upA, upd_eq, upd_ne]
      rw [if_pos (in_t h1)]
/-! the latest times -/
def xLat (s : Int32) (a : Nat → Int32) : Int32 := spLat 8 s a
theorem x_latest (M : Mem) (t : Nat) (a : Nat → Int32) (s : Int32) : f_X6_latest t s (setT M t a) = some (spLat 8 s a, setT M t a) := by
  unfold f_X6_latest
  refine loop_run 8 (fun i => (spLat i s a, nI i, setT M t a)) rfl (by omega) (fun i hi K => ?_) (fun K => ?_)
  · simp only [l_X6_latest_4]
    have e : spLat (i + 1) s a = if bit s i then foldN (fun r v => mx v (a (8 + 4 * i + r))) 4 (mx (spLat i s a) (a i)) else spLat i s a := rfl
    rw [e]
    generalize spLat i s a = v
    by_cases h : bit s i = true
    · rw [if_pos h]
      simp (disch := first | omega | decide) only [la, lm, ra, rm_, rs, ss, rr, rd, nI_add, pk_mul, zadd, Nat.zero_add, Nat.add_zero, ix_nI, inb_T, inb_F, le_T, le_F, lt_T, lt_F, lle_T, lle_F, rle_T, rle_F, llt_T, llt_F, rlt_T, rlt_F, eq_n, if_true, if_false, not_true_eq_false, not_false_eq_true, wrt_def, bnd_some, upd_eq, upd_ne, sT1, sT2, sT3, sT4, sT5, sT6, sT6z, sT7, sTn, uT1, uT2, uT3, uT4, uT5, uT6, uT6z, uT7, imax_mx]
      rw [if_neg (in_t h)]
      refine loop_run 4 (fun r => (foldN (fun r v => mx v (a (8 + 4 * i + r))) r (mx v (a i)), nI r, setT M t a)) rfl (by omega) (fun r hr K2 => ?_) (fun K2 => ?_)
      · simp only [l_X6_latest_32]
        simp (disch := first | omega | decide) only [la, lm, ra, rm_, rs, ss, rr, rd, nI_add, pk_mul, zadd, Nat.zero_add, Nat.add_zero, ix_nI, inb_T, inb_F, le_T, le_F, lt_T, lt_F, lle_T, lle_F, rle_T, rle_F, llt_T, llt_F, rlt_T, rlt_F, eq_n, if_true, if_false, not_true_eq_false, not_false_eq_true, wrt_def, bnd_some, upd_eq, upd_ne, sT1, sT2, sT3, sT4, sT5, sT6, sT6z, sT7, sTn, uT1, uT2, uT3, uT4, uT5, uT6, uT6z, uT7, imax_mx, foldN_s]
      · simp only [l_X6_latest_32, j_X6_latest_60]
        simp (disch := first | omega | decide) only [la, lm, ra, rm_, rs, ss, rr, rd, nI_add, pk_mul, zadd, Nat.zero_add, Nat.add_zero, ix_nI, inb_T, inb_F, le_T, le_F, lt_T, lt_F, lle_T, lle_F, rle_T, rle_F, llt_T, llt_F, rlt_T, rlt_F, eq_n, if_true, if_false, not_true_eq_false, not_false_eq_true, wrt_def, bnd_some, upd_eq, upd_ne, sT1, sT2, sT3, sT4, sT5, sT6, sT6z, sT7, sTn, uT1, uT2, uT3, uT4, uT5, uT6, uT6z, uT7]
    · rw [if_neg h]
      simp (disch := first | omega | decide) only [la, lm, ra, rm_, rs, ss, rr, rd, nI_add, pk_mul, zadd, Nat.zero_add, Nat.add_zero, ix_nI, inb_T, inb_F, le_T, le_F, lt_T, lt_F, lle_T, lle_F, rle_T, rle_F, llt_T, llt_F, rlt_T, rlt_F, eq_n, if_true, if_false, not_true_eq_false, not_false_eq_true, wrt_def, bnd_some, upd_eq, upd_ne, sT1, sT2, sT3, sT4, sT5, sT6, sT6z, sT7, sTn, uT1, uT2, uT3, uT4, uT5, uT6, uT6z, uT7, j_X6_latest_60]
      rw [if_pos (in_f h)]
  · simp only [l_X6_latest_4]
    simp (disch := first | omega | decide) only [la, lm, ra, rm_, rs, ss, rr, rd, nI_add, pk_mul, zadd, Nat.zero_add, Nat.add_zero, ix_nI, inb_T, inb_F, le_T, le_F, lt_T, lt_F, lle_T, lle_F, rle_T, rle_F, llt_T, llt_F, rlt_T, rlt_F, eq_n, if_true, if_false, not_true_eq_false, not_false_eq_true, wrt_def, bnd_some, upd_eq, upd_ne, sT1, sT2, sT3, sT4, sT5, sT6, sT6z, sT7, sTn, uT1, uT2, uT3, uT4, uT5, uT6, uT6z, uT7]
theorem x_latestOf (M : Mem) (t : Nat) (a : Nat → Int32) (s : Int32) {r : Nat} (hr : r < 4) : f_X6_latestOf t (nI r) s (setT M t a) = some (foldN (fun b v => if bit s b then mx (mx v (a b)) (a (8 + 4 * b + r)) else v) 8 0, setT M t a) := by
  unfold f_X6_latestOf
  refine loop_run 8 (fun i => (foldN (fun b v => if bit s b then mx (mx v (a b)) (a (8 + 4 * b + r)) else v) i 0, nI i, setT M t a)) rfl (by omega) (fun i hi K => ?_) (fun K => ?_)
  · simp only [l_X6_latestOf_5]
    rw [foldN_s]
    generalize foldN (fun b v => if bit s b = true then mx (mx v (a b)) (a (8 + 4 * b + r)) else v) i 0 = v
    by_cases h : bit s i = true
    · rw [if_pos h]
      simp (disch := first | omega | decide) only [la, lm, ra, rm_, rs, ss, rr, rd, nI_add, pk_mul, zadd, Nat.zero_add, Nat.add_zero, ix_nI, inb_T, inb_F, le_T, le_F, lt_T, lt_F, lle_T, lle_F, rle_T, rle_F, llt_T, llt_F, rlt_T, rlt_F, eq_n, if_true, if_false, not_true_eq_false, not_false_eq_true, wrt_def, bnd_some, upd_eq, upd_ne, sT1, sT2, sT3, sT4, sT5, sT6, sT6z, sT7, sTn, uT1, uT2, uT3, uT4, uT5, uT6, uT6z, uT7, imax_mx, j_X6_latestOf_51, mx_assoc]
      rw [if_neg (in_t h)]
    · rw [if_neg h]
      simp (disch := first | omega | decide) only [la, lm, ra, rm_, rs, ss, rr, rd, nI_add, pk_mul, zadd, Nat.zero_add, Nat.add_zero, ix_nI, inb_T, inb_F, le_T, le_F, lt_T, lt_F, lle_T, lle_F, rle_T, rle_F, llt_T, llt_F, rlt_T, rlt_F, eq_n, if_true, if_false, not_true_eq_false, not_false_eq_true, wrt_def, bnd_some, upd_eq, upd_ne, sT1, sT2, sT3, sT4, sT5, sT6, sT6z, sT7, sTn, uT1, uT2, uT3, uT4, uT5, uT6, uT6z, uT7, j_X6_latestOf_51]
      rw [if_pos (in_f h)]
  · simp only [l_X6_latestOf_5]
    simp (disch := first | omega | decide) only [la, lm, ra, rm_, rs, ss, rr, rd, nI_add, pk_mul, zadd, Nat.zero_add, Nat.add_zero, ix_nI, inb_T, inb_F, le_T, le_F, lt_T, lt_F, lle_T, lle_F, rle_T, rle_F, llt_T, llt_F, rlt_T, rlt_F, eq_n, if_true, if_false, not_true_eq_false, not_false_eq_true, wrt_def, bnd_some, upd_eq, upd_ne, sT1, sT2, sT3, sT4, sT5, sT6, sT6z, sT7, sTn, uT1, uT2, uT3, uT4, uT5, uT6, uT6z, uT7]
