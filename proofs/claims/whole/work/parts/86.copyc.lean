/-! ===== the class copies a cache ===== -/
def ov (f g : Nat → Int32) (n : Nat) : Nat → Int32 := fun i => if i < n then g i else f i
theorem ov_s (f g : Nat → Int32) (n : Nat) : upd (ov f g n) n (g n) = ov f g (n + 1) := by
  funext i
  unfold ov
  by_cases q : i = n
  · subst q; rw [upd_eq, if_pos (by omega)]
  · rw [upd_ne _ _ q]
    by_cases y : i < n
    · rw [if_pos y, if_pos (by omega)]
    · rw [if_neg y, if_neg (by omega)]
theorem ov_0 (f g : Nat → Int32) : ov f g 0 = f := by funext i; unfold ov; rw [if_neg (by omega)]
/-- rows 1 to 3 of the cache t0 are those of t1, below j -/
def cpC (M : Mem) (t0 t1 j : Nat) : Mem := upA (upA (upA M (t0 + 1) (ov (M (t0 + 1)) (M (t1 + 1)) j)) (t0 + 2) (ov (M (t0 + 2)) (M (t1 + 2)) j)) (t0 + 3) (ov (M (t0 + 3)) (M (t1 + 3)) j)
theorem cpC_ne (M : Mem) {t0 t1 j c : Nat} (h : c < t0 + 1 ∨ t0 + 3 < c) : cpC M t0 t1 j c = M c := by
  unfold cpC
  rw [upA_ne _ _ (by omega), upA_ne _ _ (by omega), upA_ne _ _ (by omega)]
theorem cpC_1 (M : Mem) (t0 t1 j : Nat) : cpC M t0 t1 j (t0 + 1) = ov (M (t0 + 1)) (M (t1 + 1)) j := by
  unfold cpC
  rw [upA_ne _ _ (by omega), upA_ne _ _ (by omega), upA_eq]
theorem cpC_2 (M : Mem) (t0 t1 j : Nat) : cpC M t0 t1 j (t0 + 2) = ov (M (t0 + 2)) (M (t1 + 2)) j := by
  unfold cpC
  rw [upA_ne _ _ (by omega), upA_eq]
theorem cpC_3 (M : Mem) (t0 t1 j : Nat) : cpC M t0 t1 j (t0 + 3) = ov (M (t0 + 3)) (M (t1 + 3)) j := by
  unfold cpC
  rw [upA_eq]
theorem cpC_s (M : Mem) (t0 t1 j : Nat) : up (up (up (cpC M t0 t1 j) (t0 + 1) j (M (t1 + 1) j)) (t0 + 2) j (M (t1 + 2) j)) (t0 + 3) j (M (t1 + 3) j) = cpC M t0 t1 (j + 1) := by
  funext c
  by_cases c1 : c = t0 + 1
  · subst c1; rw [up_a _ _ _ (by omega), up_a _ _ _ (by omega), up_row, cpC_1, ov_s, cpC_1]
  · by_cases c2 : c = t0 + 2
    · subst c2; rw [up_a _ _ _ (by omega), up_row, up_a _ _ _ (by omega), cpC_2, ov_s, cpC_2]
    · by_cases c3 : c = t0 + 3
      · subst c3; rw [up_row, up_a _ _ _ (by omega), up_a _ _ _ (by omega), cpC_3, ov_s, cpC_3]
      · rw [up_a _ _ _ c3, up_a _ _ _ c2, up_a _ _ _ c1, cpC_ne _ (by omega), cpC_ne _ (by omega)]
theorem cpC_0 (M : Mem) (t0 t1 : Nat) : cpC M t0 t1 0 = M := by
  unfold cpC
  rw [ov_0, ov_0, ov_0, upA_self]
  have h2 := upA_self M (t0 + 2)
  rw [h2, upA_self]
