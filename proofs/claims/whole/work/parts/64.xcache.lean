/-! ===== the class's cache lines ===== -/
theorem x_lw {M : Mem} {q lx : Nat} {X : Int32} (hl : lx < 8) (h : M (q + 1) lx = X) (hu : ∀ j, j < lx → ¬ M (q + 1) j = X) : f_X1_lineWith q X M = some (nI lx, M) := by
  unfold f_X1_lineWith
  refine loop_run lx (fun j => (nI j, M)) rfl (by omega) (fun j hj K => ?_) (fun K => ?_)
  · simp only [l_X1_lineWith_2]
    have := hu j hj
    simp (disch := first | omega | decide) only [↓reduceIte, la, lm, ra, rm_, rs, ss, rr, rd, nI_add, pk_mul, zadd, Nat.zero_add, Nat.add_zero, ix_nI, inb_T, inb_F, le_T, le_F, lt_T, lt_F, lle_T, lle_F, rle_T, rle_F, llt_T, llt_F, rlt_T, rlt_F, eq_n, if_true, if_false, not_true_eq_false, not_false_eq_true, wrt_def, bnd_some, up_as, upA_upA, upA_eq, upA_ne, up_upA, upd_eq, upd_ne, this]
  · simp only [l_X1_lineWith_2]
    simp (disch := first | omega | decide) only [↓reduceIte, la, lm, ra, rm_, rs, ss, rr, rd, nI_add, pk_mul, zadd, Nat.zero_add, Nat.add_zero, ix_nI, inb_T, inb_F, le_T, le_F, lt_T, lt_F, lle_T, lle_F, rle_T, rle_F, llt_T, llt_F, rlt_T, rlt_F, eq_n, if_true, if_false, not_true_eq_false, not_false_eq_true, wrt_def, bnd_some, up_as, upA_upA, upA_eq, upA_ne, up_upA, upd_eq, upd_ne, h]
theorem x_lwNo {M : Mem} {q : Nat} {X : Int32} (hu : ∀ j, j < 8 → ¬ M (q + 1) j = X) : f_X1_lineWith q X M = some (-1, M) := by
  unfold f_X1_lineWith
  refine loop_run 8 (fun j => (nI j, M)) rfl (by omega) (fun j hj K => ?_) (fun K => ?_)
  · simp only [l_X1_lineWith_2]
    have := hu j hj
    simp (disch := first | omega | decide) only [↓reduceIte, la, lm, ra, rm_, rs, ss, rr, rd, nI_add, pk_mul, zadd, Nat.zero_add, Nat.add_zero, ix_nI, inb_T, inb_F, le_T, le_F, lt_T, lt_F, lle_T, lle_F, rle_T, rle_F, llt_T, llt_F, rlt_T, rlt_F, eq_n, if_true, if_false, not_true_eq_false, not_false_eq_true, wrt_def, bnd_some, up_as, upA_upA, upA_eq, upA_ne, up_upA, upd_eq, upd_ne, this]
  · simp only [l_X1_lineWith_2]
    simp (disch := first | omega | decide) only [↓reduceIte, la, lm, ra, rm_, rs, ss, rr, rd, nI_add, pk_mul, zadd, Nat.zero_add, Nat.add_zero, ix_nI, inb_T, inb_F, le_T, le_F, lt_T, lt_F, lle_T, lle_F, rle_T, rle_F, llt_T, llt_F, rlt_T, rlt_F, eq_n, if_true, if_false, not_true_eq_false, not_false_eq_true, wrt_def, bnd_some, up_as, upA_upA, upA_eq, upA_ne, up_upA, upd_eq, upd_ne]
/-- how many lines there are -/
def cntL (f : Nat → Int32) (n : Nat) : Nat := foldN (fun j c => if f j = -1 then c else c + 1) n 0
theorem cntL_le (f : Nat → Int32) (n : Nat) : cntL f n ≤ n := by
  unfold cntL
  induction n with
  | zero => exact Nat.le_refl 0
  | succ n ih => rw [foldN_s]; split <;> omega
theorem x_lineCount {M : Mem} {q : Nat} : f_X1_lineCount q M = some (nI (cntL (M (q + 1)) 8), M) := by
  unfold f_X1_lineCount
  refine loop_run 8 (fun j => (nI (cntL (M (q + 1)) j), nI j, M)) rfl (by omega) (fun j hj K => ?_) (fun K => ?_)
  · simp only [l_X1_lineCount_4]
    have e : cntL (M (q + 1)) (j + 1) = if M (q + 1) j = -1 then cntL (M (q + 1)) j else cntL (M (q + 1)) j + 1 := rfl
    rw [e]
    by_cases z : M (q + 1) j = -1
    · simp (disch := first | omega | decide) only [↓reduceIte, la, lm, ra, rm_, rs, ss, rr, rd, nI_add, pk_mul, zadd, Nat.zero_add, Nat.add_zero, ix_nI, inb_T, inb_F, le_T, le_F, lt_T, lt_F, lle_T, lle_F, rle_T, rle_F, llt_T, llt_F, rlt_T, rlt_F, eq_n, if_true, if_false, not_true_eq_false, not_false_eq_true, wrt_def, bnd_some, up_as, upA_upA, upA_eq, upA_ne, up_upA, upd_eq, upd_ne, z]
    · simp (disch := first | omega | decide) only [↓reduceIte, la, lm, ra, rm_, rs, ss, rr, rd, nI_add, pk_mul, zadd, Nat.zero_add, Nat.add_zero, ix_nI, inb_T, inb_F, le_T, le_F, lt_T, lt_F, lle_T, lle_F, rle_T, rle_F, llt_T, llt_F, rlt_T, rlt_F, eq_n, if_true, if_false, not_true_eq_false, not_false_eq_true, wrt_def, bnd_some, up_as, upA_upA, upA_eq, upA_ne, up_upA, upd_eq, upd_ne, z]
  · simp only [l_X1_lineCount_4]
    simp (disch := first | omega | decide) only [↓reduceIte, la, lm, ra, rm_, rs, ss, rr, rd, nI_add, pk_mul, zadd, Nat.zero_add, Nat.add_zero, ix_nI, inb_T, inb_F, le_T, le_F, lt_T, lt_F, lle_T, lle_F, rle_T, rle_F, llt_T, llt_F, rlt_T, rlt_F, eq_n, if_true, if_false, not_true_eq_false, not_false_eq_true, wrt_def, bnd_some, up_as, upA_upA, upA_eq, upA_ne, up_upA, upd_eq, upd_ne]
theorem cntL_upd (f : Nat → Int32) {n k : Nat} (hk : k < n) (h : ¬ f k = -1) : cntL f n = cntL (upd f k (-1)) n + 1 := by
  unfold cntL
  induction n with
  | zero => omega
  | succ n ih =>
    rw [foldN_s, foldN_s]
    by_cases e : k = n
    · subst e
      rw [if_neg h, upd_eq, if_pos rfl]
      congr 1
      exact foldN_congr (fun i hi s => by rw [upd_ne _ _ (by omega)]) 0
    · rw [ih (by omega), upd_ne _ _ (by omega)]
      split <;> rfl
theorem cntL_eq {n : Nat} : ∀ (f : Nat → Int32) (l : Nat → Nat), (∀ i, i < n → l i < 8 ∧ ¬ f (l i) = -1) → (∀ i j, i < j → j < n → ¬ l i = l j) → (∀ j, j < 8 → ¬ f j = -1 → ∃ i, i < n ∧ l i = j) → cntL f 8 = n := by
  induction n with
  | zero =>
    intro f l _ _ h3
    unfold cntL
    exact fold_id 0 (fun j hj y => if_pos (Classical.byContradiction (fun z => by obtain ⟨i, hi, -⟩ := h3 j hj z; omega)))
  | succ n ih =>
    intro f l h1 h2 h3
    have hn := h1 n (by omega)
    rw [cntL_upd f hn.1 hn.2]
    congr 1
    refine ih (upd f (l n) (-1)) l (fun i hi => ?_) (fun i j hi hj => h2 i j hi (by omega)) (fun j hj hz => ?_)
    · rw [upd_ne _ _ (h2 i n hi (by omega))]
      exact h1 i (by omega)
    · by_cases e : j = l n
      · subst e; exact absurd (upd_eq _ _ _) hz
      · rw [upd_ne _ _ e] at hz
        obtain ⟨i, hi, hl⟩ := h3 j hj hz
        refine ⟨i, ?_, hl⟩
        by_cases z : i = n
        · subst z; exact absurd hl.symm e
        · omega
/-- the oldest of the lines -/
theorem x_oldest {M : Mem} {q lx : Nat} (hl : lx < 8) (h : ¬ M (q + 1) lx = -1) (hu : ∀ j, j < 8 → ¬ M (q + 1) j = -1 → j ≠ lx → M (q + 3) lx < M (q + 3) j) : f_X1_oldestLine q M = some (nI lx, M) := by
  unfold f_X1_oldestLine
  refine Exists.elim (loop_inv (body := l_X1_oldestLine_4 q) (init := (0, 1, M)) (Q := fun r => r = some (nI lx, M)) 7 (fun i st => ∃ o, o < i + 1 ∧ st = (nI o, nI (i + 1), M) ∧ (lx < i + 1 → o = lx) ∧ (M (q + 1) o = -1 → ∀ j, j < i + 1 → M (q + 1) j = -1)) ⟨0, by omega, rfl, fun z => by omega, fun z j hj => by rw [show j = 0 by omega]; exact z⟩ (by omega) ?_ ?_) (fun r hr => ?_)
  · rintro i hi s ⟨o, ho, rfl, h1, h2⟩
    have step : ∃ o2, (o2 = o ∨ o2 = i + 1) ∧ (∀ K : Int32 × Int32 × Mem → Option (Int32 × Mem), l_X1_oldestLine_4 q K (nI o, nI (i + 1), M) = K (nI o2, nI (i + 1 + 1), M)) ∧ (o2 = i + 1 ↔ (¬ M (q + 1) (i + 1) = -1 ∧ (M (q + 1) o = -1 ∨ M (q + 3) (i + 1) < M (q + 3) o))) := by
      by_cases z : M (q + 1) (i + 1) = -1
      · refine ⟨o, Or.inl rfl, fun K => ?_, by constructor <;> intro y <;> first | omega | exact absurd z y.1⟩
        simp only [l_X1_oldestLine_4]
        by_cases z0 : M (q + 1) o = -1
        · simp (disch := first | omega | decide) only [↓reduceIte, la, lm, ra, rm_, rs, ss, rr, rd, nI_add, pk_mul, zadd, Nat.zero_add, Nat.add_zero, ix_nI, inb_T, inb_F, le_T, le_F, lt_T, lt_F, lle_T, lle_F, rle_T, rle_F, llt_T, llt_F, rlt_T, rlt_F, eq_n, if_true, if_false, not_true_eq_false, not_false_eq_true, wrt_def, bnd_some, up_as, upA_upA, upA_eq, upA_ne, up_upA, upd_eq, upd_ne, z, z0, j_X1_oldestLine_35, j_X1_oldestLine_40]
        · simp (disch := first | omega | decide) only [↓reduceIte, la, lm, ra, rm_, rs, ss, rr, rd, nI_add, pk_mul, zadd, Nat.zero_add, Nat.add_zero, ix_nI, inb_T, inb_F, le_T, le_F, lt_T, lt_F, lle_T, lle_F, rle_T, rle_F, llt_T, llt_F, rlt_T, rlt_F, eq_n, if_true, if_false, not_true_eq_false, not_false_eq_true, wrt_def, bnd_some, up_as, upA_upA, upA_eq, upA_ne, up_upA, upd_eq, upd_ne, z, z0, j_X1_oldestLine_35, j_X1_oldestLine_40]
      · by_cases z0 : M (q + 1) o = -1
        · refine ⟨i + 1, Or.inr rfl, fun K => ?_, ⟨fun _ => ⟨z, Or.inl z0⟩, fun _ => rfl⟩⟩
          simp only [l_X1_oldestLine_4]
          have e10 : ((1 : Int32) = 0) = False := eq_false (by decide)
          simp (disch := first | omega | decide) only [↓reduceIte, la, lm, ra, rm_, rs, ss, rr, rd, nI_add, pk_mul, zadd, Nat.zero_add, Nat.add_zero, ix_nI, inb_T, inb_F, le_T, le_F, lt_T, lt_F, lle_T, lle_F, rle_T, rle_F, llt_T, llt_F, rlt_T, rlt_F, eq_n, if_true, if_false, not_true_eq_false, not_false_eq_true, wrt_def, bnd_some, up_as, upA_upA, upA_eq, upA_ne, up_upA, upd_eq, upd_ne, z, z0, j_X1_oldestLine_35, j_X1_oldestLine_40, e10]
        · by_cases z3 : M (q + 3) o ≤ M (q + 3) (i + 1)
          · refine ⟨o, Or.inl rfl, fun K => ?_, ?_⟩
            · simp only [l_X1_oldestLine_4]
              simp (disch := first | omega | decide) only [↓reduceIte, la, lm, ra, rm_, rs, ss, rr, rd, nI_add, pk_mul, zadd, Nat.zero_add, Nat.add_zero, ix_nI, inb_T, inb_F, le_T, le_F, lt_T, lt_F, lle_T, lle_F, rle_T, rle_F, llt_T, llt_F, rlt_T, rlt_F, eq_n, if_true, if_false, not_true_eq_false, not_false_eq_true, wrt_def, bnd_some, up_as, upA_upA, upA_eq, upA_ne, up_upA, upd_eq, upd_ne, z, z0, z3]
            · constructor
              · intro y; omega
              · rintro ⟨-, y | y⟩
                · exact absurd y z0
                · exact absurd z3 (i32_nle.mpr y)
          · refine ⟨i + 1, Or.inr rfl, fun K => ?_, ⟨fun _ => ⟨z, Or.inr (i32_nle.mp z3)⟩, fun _ => rfl⟩⟩
            simp only [l_X1_oldestLine_4]
            have e10 : ((1 : Int32) = 0) = False := eq_false (by decide)
            simp (disch := first | omega | decide) only [↓reduceIte, la, lm, ra, rm_, rs, ss, rr, rd, nI_add, pk_mul, zadd, Nat.zero_add, Nat.add_zero, ix_nI, inb_T, inb_F, le_T, le_F, lt_T, lt_F, lle_T, lle_F, rle_T, rle_F, llt_T, llt_F, rlt_T, rlt_F, eq_n, if_true, if_false, not_true_eq_false, not_false_eq_true, wrt_def, bnd_some, up_as, upA_upA, upA_eq, upA_ne, up_upA, upd_eq, upd_ne, z, z0, z3, e10]
    obtain ⟨o2, ho2, e, hiff⟩ := step
    refine ⟨(nI o2, nI (i + 1 + 1), M), ⟨o2, by omega, rfl, fun hlx => ?_, fun z j hj => ?_⟩, e⟩
    · by_cases y : lx = i + 1
      · rw [y]
        rw [y] at h hu
        refine hiff.mpr ⟨h, ?_⟩
        by_cases z0 : M (q + 1) o = -1
        · exact Or.inl z0
        · exact Or.inr (hu o (by omega) z0 (by omega))
      · have ho' := h1 (by omega)
        subst ho'
        rcases ho2 with r | r
        · exact r
        · exfalso
          obtain ⟨y1, y2 | y2⟩ := hiff.mp r
          · exact h y2
          · have := hu (i + 1) (by omega) y1 (by omega)
            exact Int32.lt_irrefl (Int32.lt_trans this y2)
    · rcases ho2 with r | r
      · subst r
        by_cases y : j = i + 1
        · subst y
          apply Classical.byContradiction
          intro w
          have := hiff.mpr ⟨w, Or.inl z⟩
          omega
        · exact h2 z j (by omega)
      · obtain ⟨y1, -⟩ := hiff.mp r
        rw [r] at z
        exact absurd z y1
  · rintro s ⟨o, ho, rfl, h1, h2⟩
    have := h1 (by omega)
    subst this
    refine ⟨_, rfl, fun K => ?_⟩
    simp only [l_X1_oldestLine_4]
    rw [if_pos (show (8 : Int32) ≤ nI (7 + 1) from nI_le (a := 8) (Nat.le_refl 8) (by decide))]
  · rw [hr.2, hr.1]
