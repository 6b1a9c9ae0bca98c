/-! ===== times are copied ===== -/
theorem cpy_eq (M : Mem) (s d : Nat) {z : Int32} {n : Nat} (hz : ix z = n) (j : Nat) : cpy M s 0 d 0 z d j = if j < n then M s j else M d j := by
  unfold cpy va_cpy
  rw [upA_eq, hz]
  show (if (0 : Nat) ≤ j ∧ j < 0 + n then M s (0 + (j - 0)) else M d j) = _
  by_cases q : j < n
  · rw [if_pos (by omega), if_pos q, show 0 + (j - 0) = j by omega]
  · rw [if_neg (by omega), if_neg q]
theorem cpy_ne (M : Mem) (s d : Nat) (z : Int32) {c : Nat} (h : c ≠ d) : cpy M s 0 d 0 z c = M c := by
  unfold cpy
  exact upA_ne _ _ h
theorem x_copyT {M : Mem} {t0 t1 : Nat} {a : Nat → Int32} (h : t0 + 7 < t1 + 1 ∨ t1 + 7 < t0 + 1) (hM : M = setT M t1 a) : f_X6_copyFrom t0 t1 M = some (0, setT M t0 a) := by
  have r1 : ∀ j, j < 8 → M (t1 + 1) j = a j := fun j hj => by rw [hM, sT1 _ _ _ hj]
  have r2 : ∀ j, j < 32 → M (t1 + 2) j = a (8 + j) := fun j hj => by rw [hM, sT2b _ _ _ hj]
  have r3 : ∀ j, j < 8 → M (t1 + 3) j = a (40 + j) - 1 := fun j hj => by rw [hM, sT3 _ _ _ hj]
  have r4 : ∀ j, j < 8 → M (t1 + 4) j = a (48 + j) := fun j hj => by rw [hM, sT4 _ _ _ hj]
  have r5 : ∀ j, j < 64 → M (t1 + 5) j = a (56 + j) := fun j hj => by rw [hM, sT5b _ _ _ hj]
  have r6 : ∀ j, j < 32 → M (t1 + 6) j = a (120 + j) := fun j hj => by rw [hM, sT6b _ _ _ hj]
  have r7 : ∀ j, j < 8 → M (t1 + 7) j = a (152 + j) := fun j hj => by rw [hM, sT7 _ _ _ hj]
  unfold f_X6_copyFrom
  rw [wrt_def, wrt_def, wrt_def, wrt_def, wrt_def, wrt_def, wrt_def]
  congr 2
  funext c j
  by_cases c7 : c = t0 + 7
  · subst c7
    rw [cpy_eq _ _ _ (n := 8) rfl]
    rw [cpy_ne _ _ _ _ (show t1 + 7 ≠ t0 + 6 by omega), cpy_ne _ _ _ _ (show t1 + 7 ≠ t0 + 5 by omega), cpy_ne _ _ _ _ (show t1 + 7 ≠ t0 + 4 by omega), cpy_ne _ _ _ _ (show t1 + 7 ≠ t0 + 3 by omega), cpy_ne _ _ _ _ (show t1 + 7 ≠ t0 + 2 by omega), cpy_ne _ _ _ _ (show t1 + 7 ≠ t0 + 1 by omega), cpy_ne _ _ _ _ (show t0 + 7 ≠ t0 + 6 by omega), cpy_ne _ _ _ _ (show t0 + 7 ≠ t0 + 5 by omega), cpy_ne _ _ _ _ (show t0 + 7 ≠ t0 + 4 by omega), cpy_ne _ _ _ _ (show t0 + 7 ≠ t0 + 3 by omega), cpy_ne _ _ _ _ (show t0 + 7 ≠ t0 + 2 by omega), cpy_ne _ _ _ _ (show t0 + 7 ≠ t0 + 1 by omega)]
    by_cases q : j < 8
    · rw [if_pos q, r7 j q, sT7 _ _ _ q]
    · rw [if_neg q]; unfold setT; rw [if_neg (by omega), if_neg (by omega), if_neg (by omega), if_neg (by omega), if_neg (by omega), if_neg (by omega), if_neg (by omega)]
  · rw [cpy_ne _ _ _ _ c7]
    by_cases c6 : c = t0 + 6
    · subst c6
      rw [cpy_eq _ _ _ (n := 32) rfl, cpy_ne _ _ _ _ (show t1 + 6 ≠ t0 + 5 by omega), cpy_ne _ _ _ _ (show t1 + 6 ≠ t0 + 4 by omega), cpy_ne _ _ _ _ (show t1 + 6 ≠ t0 + 3 by omega), cpy_ne _ _ _ _ (show t1 + 6 ≠ t0 + 2 by omega), cpy_ne _ _ _ _ (show t1 + 6 ≠ t0 + 1 by omega), cpy_ne _ _ _ _ (show t0 + 6 ≠ t0 + 5 by omega), cpy_ne _ _ _ _ (show t0 + 6 ≠ t0 + 4 by omega), cpy_ne _ _ _ _ (show t0 + 6 ≠ t0 + 3 by omega), cpy_ne _ _ _ _ (show t0 + 6 ≠ t0 + 2 by omega), cpy_ne _ _ _ _ (show t0 + 6 ≠ t0 + 1 by omega)]
      by_cases q : j < 32
      · rw [if_pos q, r6 j q, sT6b _ _ _ q]
      · rw [if_neg q]; unfold setT; rw [if_neg (by omega), if_neg (by omega), if_neg (by omega), if_neg (by omega), if_neg (by omega), if_neg (by omega), if_neg (by omega)]
    · rw [cpy_ne _ _ _ _ c6]
      by_cases c5 : c = t0 + 5
      · subst c5
        rw [cpy_eq _ _ _ (n := 64) rfl, cpy_ne _ _ _ _ (show t1 + 5 ≠ t0 + 4 by omega), cpy_ne _ _ _ _ (show t1 + 5 ≠ t0 + 3 by omega), cpy_ne _ _ _ _ (show t1 + 5 ≠ t0 + 2 by omega), cpy_ne _ _ _ _ (show t1 + 5 ≠ t0 + 1 by omega), cpy_ne _ _ _ _ (show t0 + 5 ≠ t0 + 4 by omega), cpy_ne _ _ _ _ (show t0 + 5 ≠ t0 + 3 by omega), cpy_ne _ _ _ _ (show t0 + 5 ≠ t0 + 2 by omega), cpy_ne _ _ _ _ (show t0 + 5 ≠ t0 + 1 by omega)]
        by_cases q : j < 64
        · rw [if_pos q, r5 j q, sT5b _ _ _ q]
        · rw [if_neg q]; unfold setT; rw [if_neg (by omega), if_neg (by omega), if_neg (by omega), if_neg (by omega), if_neg (by omega), if_neg (by omega), if_neg (by omega)]
      · rw [cpy_ne _ _ _ _ c5]
        by_cases c4 : c = t0 + 4
        · subst c4
          rw [cpy_eq _ _ _ (n := 8) rfl, cpy_ne _ _ _ _ (show t1 + 4 ≠ t0 + 3 by omega), cpy_ne _ _ _ _ (show t1 + 4 ≠ t0 + 2 by omega), cpy_ne _ _ _ _ (show t1 + 4 ≠ t0 + 1 by omega), cpy_ne _ _ _ _ (show t0 + 4 ≠ t0 + 3 by omega), cpy_ne _ _ _ _ (show t0 + 4 ≠ t0 + 2 by omega), cpy_ne _ _ _ _ (show t0 + 4 ≠ t0 + 1 by omega)]
          by_cases q : j < 8
          · rw [if_pos q, r4 j q, sT4 _ _ _ q]
          · rw [if_neg q]; unfold setT; rw [if_neg (by omega), if_neg (by omega), if_neg (by omega), if_neg (by omega), if_neg (by omega), if_neg (by omega), if_neg (by omega)]
        · rw [cpy_ne _ _ _ _ c4]
          by_cases c3 : c = t0 + 3
          · subst c3
            rw [cpy_eq _ _ _ (n := 8) rfl, cpy_ne _ _ _ _ (show t1 + 3 ≠ t0 + 2 by omega), cpy_ne _ _ _ _ (show t1 + 3 ≠ t0 + 1 by omega), cpy_ne _ _ _ _ (show t0 + 3 ≠ t0 + 2 by omega), cpy_ne _ _ _ _ (show t0 + 3 ≠ t0 + 1 by omega)]
            by_cases q : j < 8
            · rw [if_pos q, r3 j q, sT3 _ _ _ q]
            · rw [if_neg q]; unfold setT; rw [if_neg (by omega), if_neg (by omega), if_neg (by omega), if_neg (by omega), if_neg (by omega), if_neg (by omega), if_neg (by omega)]
          · rw [cpy_ne _ _ _ _ c3]
            by_cases c2 : c = t0 + 2
            · subst c2
              rw [cpy_eq _ _ _ (n := 32) rfl, cpy_ne _ _ _ _ (show t1 + 2 ≠ t0 + 1 by omega), cpy_ne _ _ _ _ (show t0 + 2 ≠ t0 + 1 by omega)]
              by_cases q : j < 32
              · rw [if_pos q, r2 j q, sT2b _ _ _ q]
              · rw [if_neg q]; unfold setT; rw [if_neg (by omega), if_neg (by omega), if_neg (by omega), if_neg (by omega), if_neg (by omega), if_neg (by omega), if_neg (by omega)]
            · rw [cpy_ne _ _ _ _ c2]
              by_cases c1 : c = t0 + 1
              · subst c1
                rw [cpy_eq _ _ _ (n := 8) rfl]
                by_cases q : j < 8
                · rw [if_pos q, r1 j q, sT1 _ _ _ q]
                · rw [if_neg q]; unfold setT; rw [if_neg (by omega), if_neg (by omega), if_neg (by omega), if_neg (by omega), if_neg (by omega), if_neg (by omega), if_neg (by omega)]
              · rw [cpy_ne _ _ _ _ c1, sTn _ _ (by omega)]
