/-! ===== conflicts ===== -/
theorem least_of {P : Nat → Prop} {N : Nat} (h : ∃ b, b < N ∧ P b) : ∃ b, b < N ∧ P b ∧ ∀ i, i < b → ¬ P i := by
  induction N with
  | zero => obtain ⟨b, h1, -⟩ := h; omega
  | succ N ih =>
    by_cases q : ∃ b, b < N ∧ P b
    · obtain ⟨b, h1, h2, h3⟩ := ih q
      exact ⟨b, by omega, h2, h3⟩
    · obtain ⟨b, h1, h2⟩ := h
      refine ⟨b, h1, h2, fun i hi hp => q ⟨i, by omega, hp⟩⟩
def rR (x : Int32) : Int32 := 1 <<< (x &&& 31)
def wR (x : Int32) : Int32 := 16 <<< (jrem x 16 &&& 31)
/-- what a command reads and writes, in the lowest bank (il) or another -/
def cR (p : Nat → Int32) (c : Nat) (il : Bool) : Int32 := if kdN p c = 0 then wR (p (50 + 4 * c + 2)) else if kdN p c = 1 ∨ kdN p c = 4 ∨ kdN p c = 5 then rR (p (50 + 4 * c + 1)) else if kdN p c = 3 then rR (p (50 + 4 * c + 2)) ||| rR (p (50 + 4 * c + 3)) else if kdN p c = 6 then (if il = true then rR (p (50 + 4 * c + 1)) else 0) else 0
def cW (p : Nat → Int32) (c : Nat) (il : Bool) : Int32 := if kdN p c = 0 ∨ kdN p c = 2 ∨ kdN p c = 3 ∨ kdN p c = 5 then rR (p (50 + 4 * c + 1)) else if kdN p c = 1 then wR (p (50 + 4 * c + 2)) else if kdN p c = 4 then (if il = true then rR (p (50 + 4 * c + 1)) else 0) else if kdN p c = 6 then (if il = true then 0 else rR (p (50 + 4 * c + 1))) else 0
def rdF (p : Nat → Int32) (f n : Nat) (il : Bool) : Int32 := foldN (fun i v => v ||| cR p (f + i) il) n 0
def wrF (p : Nat → Int32) (f n : Nat) (il : Bool) : Int32 := foldN (fun i v => v ||| cW p (f + i) il) n 0
def isLo (p : Nat → Int32) (bt b : Nat) : Bool := decide (lowN (setN p bt) = b)
def rdS (p : Nat → Int32) (bt b : Nat) : Int32 := rdF p (fstN p bt) (lenN p bt) (isLo p bt b)
def wrS (p : Nat → Int32) (bt b : Nat) : Int32 := wrF p (fstN p bt) (lenN p bt) (isLo p bt b)
/-- the reference's two fields for that -/
def st2 (M : Mem) (x y : Int32) : Mem := upA M 0 (upd (upd (M 0) 17 x) 18 y)
theorem st2_ne (M : Mem) (x y : Int32) {c : Nat} (h : c ≠ 0) : st2 M x y c = M c := upA_ne _ _ h
theorem st2_17 (M : Mem) (x y : Int32) : st2 M x y 0 17 = x := by unfold st2; rw [upA_eq, upd_ne _ _ (by decide), upd_eq]
theorem st2_18 (M : Mem) (x y : Int32) : st2 M x y 0 18 = y := by unfold st2; rw [upA_eq, upd_eq]
theorem st2_u17 (M : Mem) (x y z : Int32) : up (st2 M x y) 0 17 z = st2 M z y := by
  unfold st2
  rw [up_upA, upd_comm _ _ _ (show (18 : Nat) ≠ 17 by decide)]
  congr 2
  funext j
  by_cases q : j = 17
  · subst q; rw [upd_eq, upd_eq]
  · rw [upd_ne _ _ q, upd_ne _ _ q, upd_ne _ _ q]
theorem st2_u18 (M : Mem) (x y z : Int32) : up (st2 M x y) 0 18 z = st2 M x z := by
  unfold st2
  rw [up_upA]
  congr 1
  funext j
  by_cases q : j = 18
  · subst q; rw [upd_eq, upd_eq]
  · rw [upd_ne _ _ q, upd_ne _ _ q, upd_ne _ _ q]
theorem st2_st2 (M : Mem) (x y z w : Int32) : st2 (st2 M x y) z w = st2 M z w := by
  unfold st2
  rw [upA_upA, upA_eq]
  congr 1
  funext j
  by_cases q : j = 18
  · subst q; rw [upd_eq, upd_eq]
  · rw [upd_ne _ _ q, upd_ne _ _ q]
    by_cases q2 : j = 17
    · subst q2; rw [upd_eq, upd_eq]
    · rw [upd_ne _ _ q2, upd_ne _ _ q2, upd_ne _ _ q, upd_ne _ _ q2]
theorem st2_self (M : Mem) : up (up M 0 17 0) 0 18 0 = st2 M 0 0 := by
  unfold st2
  rw [up_as M 0 17, up_upA]
theorem m_touches {M : Mem} {bt b : Nat} (hw : WFb (M 5) bt) (hb : b < 8) : f_X10_touches (nI bt) (nI b) M = some (0, st2 M (rdS (M 5) bt b) (wrS (M 5) bt b)) := by
  obtain ⟨h12, hset, hno, hf, hl, hr60, hr⟩ := hw
  have l2 := (low_ok hset).2.1
  unfold f_X10_touches
  rw [wrt_def, wrt_def, st2_self, m_banksOf _ h12, bnd_some, st2_ne _ _ _ (by decide)]
  change bnd (f_X10_lowest (setN (M 5) bt) _) _ = _
  rw [mm_lowest _ hset, bnd_some, m_firstOf _ h12, bnd_some, st2_ne _ _ _ (by decide), hf]
  have eil : (if ¬ nI (lowN (setN (M 5) bt)) = nI b then (0 : Int32) else 1) = if isLo (M 5) bt b = true then 1 else 0 := by
    unfold isLo
    by_cases q : lowN (setN (M 5) bt) = b
    · rw [q]; simp
    · have : ¬ nI (lowN (setN (M 5) bt)) = nI b := by rw [nI_eq (by omega) (by omega)]; exact q
      simp [q, this]
  rw [eil]
  unfold rdS wrS
  generalize isLo (M 5) bt b = il
  generalize fstN (M 5) bt = f at *
  generalize lenN (M 5) bt = n at *
  refine loop_run n (fun i => (nI (f + i), st2 M (rdF (M 5) f i il) (wrF (M 5) f i il))) rfl (by omega) (fun i hi K => ?_) (fun K => ?_)
  · simp only [l_X10_touches_35]
    have e1 : rdF (M 5) f (i + 1) il = rdF (M 5) f i il ||| cR (M 5) (f + i) il := rfl
    have e2 : wrF (M 5) f (i + 1) il = wrF (M 5) f i il ||| cW (M 5) (f + i) il := rfl
    rw [e1, e2]
    generalize rdF (M 5) f i il = x
    generalize wrF (M 5) f i il = y
    have hc := hr (f + i) (by omega) (by omega)
    have hkl := kd_lt (M 5) (f + i)
    have e5 : ∀ x y, (st2 M x y) 5 = M 5 := fun x y => st2_ne _ _ _ (by decide)
    have hK := mm_kindOf (M := st2 M x y) (c := f + i) (by omega) (by rw [e5]; exact hc)
    rw [e5] at hK
    have c60 : f + i < 60 := by omega
    have ea : nI (f + i) + 1 = nI (f + (i + 1)) := by rw [n1, nI_add, Nat.add_assoc]
    rw [m_endOf _ h12, bnd_some, e5, hf, hl, nI_add, if_neg (nI_ge (by omega) (by omega)), m_told1 _ c60, bnd_some, m_told2 _ c60, bnd_some, hK, bnd_some, e5]
    unfold j_X10_touches_325 cR cW
    rw [ea]
    change _ = _
    rcases (show kdN (M 5) (f + i) = 0 ∨ kdN (M 5) (f + i) = 1 ∨ kdN (M 5) (f + i) = 2 ∨ kdN (M 5) (f + i) = 3 ∨ kdN (M 5) (f + i) = 4 ∨ kdN (M 5) (f + i) = 5 ∨ kdN (M 5) (f + i) = 6 ∨ kdN (M 5) (f + i) = 7 by omega) with q | q | q | q | q | q | q | q <;> rw [q]
    · rw [if_pos (show nI 0 = 0 from rfl), wrt_def, wrt_def, st2_17, st2_u17, st2_18, st2_u18]
      simp [rR, wR]
    · rw [if_neg (show ¬ nI 1 = 0 by decide), if_pos (show nI 1 = 1 from rfl), wrt_def, wrt_def, st2_17, st2_u17, st2_18, st2_u18]
      simp [rR, wR]
    · rw [if_neg (show ¬ nI 2 = 0 by decide), if_neg (show ¬ nI 2 = 1 by decide), if_pos (show nI 2 = 2 from rfl), wrt_def, st2_18, st2_u18]
      simp [rR, wR]
    · rw [if_neg (show ¬ nI 3 = 0 by decide), if_neg (show ¬ nI 3 = 1 by decide), if_neg (show ¬ nI 3 = 2 by decide), if_pos (show nI 3 = 3 from rfl), m_told2 _ c60, bnd_some, m_told3 _ c60, bnd_some, wrt_def, wrt_def, st2_17, st2_u17, st2_18, st2_u18, e5]
      simp [rR, wR]
    · rw [if_neg (show ¬ nI 4 = 0 by decide), if_neg (show ¬ nI 4 = 1 by decide), if_neg (show ¬ nI 4 = 2 by decide), if_neg (show ¬ nI 4 = 3 by decide), if_pos (show nI 4 = 4 from rfl), wrt_def, wrt_def, st2_17, st2_u17, st2_18, st2_u18]
      cases il <;> simp [rR, wR]
    · rw [if_neg (show ¬ nI 5 = 0 by decide), if_neg (show ¬ nI 5 = 1 by decide), if_neg (show ¬ nI 5 = 2 by decide), if_neg (show ¬ nI 5 = 3 by decide), if_neg (show ¬ nI 5 = 4 by decide), if_pos (show nI 5 = 5 from rfl), wrt_def, wrt_def, st2_17, st2_u17, st2_18, st2_u18]
      simp [rR, wR]
    · rw [if_neg (show ¬ nI 6 = 0 by decide), if_neg (show ¬ nI 6 = 1 by decide), if_neg (show ¬ nI 6 = 2 by decide), if_neg (show ¬ nI 6 = 3 by decide), if_neg (show ¬ nI 6 = 4 by decide), if_neg (show ¬ nI 6 = 5 by decide), if_pos (show nI 6 = 6 from rfl), wrt_def, wrt_def, st2_17, st2_u17, st2_18, st2_u18]
      cases il <;> simp [rR, wR]
    · rw [if_neg (show ¬ nI 7 = 0 by decide), if_neg (show ¬ nI 7 = 1 by decide), if_neg (show ¬ nI 7 = 2 by decide), if_neg (show ¬ nI 7 = 3 by decide), if_neg (show ¬ nI 7 = 4 by decide), if_neg (show ¬ nI 7 = 5 by decide), if_neg (show ¬ nI 7 = 6 by decide)]
      simp
  · simp only [l_X10_touches_35]
    rw [m_endOf _ h12, bnd_some, st2_ne _ _ _ (by decide), hf, hl, nI_add, if_pos (nI_le (Nat.le_refl _) (by omega))]
/-- two batches conflict in a bank -/
def cfl (p : Nat → Int32) (x y b : Nat) : Bool := bit (setN p x) b && bit (setN p y) b && (decide (¬ (wrS p x b &&& (rdS p y b ||| wrS p y b)) = 0) || decide (¬ (wrS p y b &&& rdS p x b) = 0))
def CF (p : Nat → Int32) (x y : Nat) : Prop := ∃ b, b < 8 ∧ cfl p x y b = true
noncomputable def cfI (p : Nat → Int32) (x y : Nat) : Int32 := @ite _ (CF p x y) (Classical.propDecidable _) 1 0
theorem m_meets {M : Mem} {x y : Nat} (hs : WFs (M 5)) (hx : WFb (M 5) x) (hy : WFb (M 5) y) : ∃ u w, f_X10_meets (nI x) (nI y) M = some (cfI (M 5) x y, st2 M u w) := by
  obtain ⟨h0, h01, h08, -⟩ := id hs
  have x12 := hx.1
  have y12 := hy.1
  have hno := hx.2.2.1
  generalize hnb : ix (M 5 0) = nb at h0 h01 h08 hno
  have hM : M = st2 M (M 0 17) (M 0 18) := by
    unfold st2
    have : upd (upd (M 0) 17 (M 0 17)) 18 (M 0 18) = M 0 := by
      funext j
      by_cases q : j = 18
      · subst q; rw [upd_eq]
      · rw [upd_ne _ _ q]
        by_cases q2 : j = 17
        · subst q2; rw [upd_eq]
        · rw [upd_ne _ _ q2]
    rw [this, upA_self]
  have e5 : ∀ u w, (st2 M u w) 5 = M 5 := fun u w => st2_ne _ _ _ (by decide)
  -- one round
  have rnd : ∀ (i : Nat), i < nb → ∀ u w, ∃ u2 w2, ∀ K : Int32 × Mem → Option (Int32 × Mem), l_X10_meets_2 (nI x) (nI y) K (nI i, st2 M u w) = if cfl (M 5) x y i = true then some (1, st2 M u2 w2) else K (nI (i + 1), st2 M u2 w2) := by
    intro i hi u w
    have ea : nI i + 1 = nI (i + 1) := by rw [n1, nI_add]
    by_cases q1 : bit (setN (M 5) x) i = true
    · by_cases q2 : bit (setN (M 5) y) i = true
      · have t1 := m_touches (M := st2 M u w) (bt := x) (b := i) (by rw [e5]; exact hx) (by omega)
        rw [e5, st2_st2] at t1
        have t2 := m_touches (M := st2 M (rdS (M 5) x i) (wrS (M 5) x i)) (bt := y) (b := i) (by rw [e5]; exact hy) (by omega)
        rw [e5, st2_st2] at t2
        refine ⟨rdS (M 5) y i, wrS (M 5) y i, fun K => ?_⟩
        simp only [l_X10_meets_2]
        rw [e5, h0, if_neg (nI_ge hi (by omega)), m_banksOf _ x12, bnd_some, e5]
        change (if p_X10_has (setN (M 5) x) (nI i) = 0 then _ else _) = _
        rw [if_neg (has_t q1), m_banksOf _ y12, bnd_some, e5]
        change (if ¬ p_X10_has (setN (M 5) y) (nI i) = 0 then _ else _) = _
        rw [if_pos (has_t q2), t1, bnd_some, t2, bnd_some, st2_17, st2_18, st2_17, st2_18]
        unfold j_X10_meets_88 j_X10_meets_90 cfl
        rw [q1, q2, ea]
        by_cases z1 : wrS (M 5) x i &&& (rdS (M 5) y i ||| wrS (M 5) y i) = 0
        · by_cases z2 : wrS (M 5) y i &&& rdS (M 5) x i = 0 <;> simp [z1, z2]
        · simp [z1]
      · refine ⟨u, w, fun K => ?_⟩
        simp only [l_X10_meets_2]
        rw [e5, h0, if_neg (nI_ge hi (by omega)), m_banksOf _ x12, bnd_some, e5]
        change (if p_X10_has (setN (M 5) x) (nI i) = 0 then _ else _) = _
        rw [if_neg (has_t q1), m_banksOf _ y12, bnd_some, e5]
        change (if ¬ p_X10_has (setN (M 5) y) (nI i) = 0 then _ else _) = _
        rw [if_neg (has_f q2)]
        unfold j_X10_meets_90 cfl
        rw [ea]
        simp [q2]
    · refine ⟨u, w, fun K => ?_⟩
      simp only [l_X10_meets_2]
      rw [e5, h0, if_neg (nI_ge hi (by omega)), m_banksOf _ x12, bnd_some, e5]
      change (if p_X10_has (setN (M 5) x) (nI i) = 0 then _ else _) = _
      rw [if_pos (Classical.not_not.mp (has_f q1))]
      unfold j_X10_meets_90 cfl
      rw [ea]
      simp [q1]
  unfold f_X10_meets
  by_cases hC : CF (M 5) x y
  · obtain ⟨b, hb, hcf, hlt⟩ := least_of hC
    have hbn : b < nb := by
      apply Classical.byContradiction
      intro z
      have : bit (setN (M 5) x) b = true := by unfold cfl at hcf; simp at hcf; exact hcf.1.1
      exact hno b (by omega) hb this
    have eC : cfI (M 5) x y = 1 := by unfold cfI; rw [if_pos hC]
    rw [eC]
    refine Exists.elim (loop_inv (body := l_X10_meets_2 (nI x) (nI y)) (init := (0, M)) (Q := fun r => ∃ u w, r = some (1, st2 M u w)) b (fun i st => st.1 = nI i ∧ ∃ u w, st.2 = st2 M u w) ⟨rfl, _, _, hM⟩ (by omega) ?_ ?_) (fun r hr => ?_)
    · rintro i hi ⟨x3, M1⟩ ⟨rfl, u, w, rfl⟩
      obtain ⟨u2, w2, e⟩ := rnd i (by omega) u w
      exact ⟨_, ⟨rfl, u2, w2, rfl⟩, fun K => by rw [e, if_neg (hlt i hi)]⟩
    · rintro ⟨x3, M1⟩ ⟨rfl, u, w, rfl⟩
      obtain ⟨u2, w2, e⟩ := rnd b hbn u w
      exact ⟨_, ⟨u2, w2, rfl⟩, fun K => by rw [e, if_pos hcf]⟩
    · obtain ⟨⟨u, w, e⟩, e2⟩ := hr
      exact ⟨u, w, by rw [← e, ← e2]⟩
  · have eC : cfI (M 5) x y = 0 := by unfold cfI; rw [if_neg hC]
    rw [eC]
    refine Exists.elim (loop_inv (body := l_X10_meets_2 (nI x) (nI y)) (init := (0, M)) (Q := fun r => ∃ u w, r = some (0, st2 M u w)) nb (fun i st => st.1 = nI i ∧ ∃ u w, st.2 = st2 M u w) ⟨rfl, _, _, hM⟩ (by omega) ?_ ?_) (fun r hr => ?_)
    · rintro i hi ⟨x3, M1⟩ ⟨rfl, u, w, rfl⟩
      obtain ⟨u2, w2, e⟩ := rnd i (by omega) u w
      exact ⟨_, ⟨rfl, u2, w2, rfl⟩, fun K => by rw [e, if_neg (fun z => hC ⟨i, by omega, z⟩)]⟩
    · rintro ⟨x3, M1⟩ ⟨rfl, u, w, rfl⟩
      refine ⟨_, ⟨u, w, rfl⟩, fun K => ?_⟩
      simp only [l_X10_meets_2]
      rw [e5, h0, if_pos (nI_le (Nat.le_refl _) (by omega))]
    · obtain ⟨⟨u, w, e⟩, e2⟩ := hr
      exact ⟨u, w, by rw [← e, ← e2]⟩
/-! the class's conflicts -/
/-- the class's sets of what a batch reads and writes in each bank -/
def PUs (M : Mem) (pr : Nat) (p : Nat → Int32) (bt : Nat) : Prop := ∀ b, b < 8 → M (pr + 11) (8 * bt + b) = (if bit (setN p bt) b = true then rdS p bt b else 0) ∧ M (pr + 12) (8 * bt + b) = (if bit (setN p bt) b = true then wrS p bt b else 0)
theorem x_conf {M : Mem} {pr : Nat} {p : Nat → Int32} {x y : Nat} (hx : x < 12) (hy : y < 12) (ux : PUs M pr p x) (uy : PUs M pr p y) : f_X4_areConflicting pr (nI x) (nI y) M = some (cfI p x y, M) := by
  have rnd : ∀ i, i < 8 → ∀ K : Int32 × Mem → Option (Int32 × Mem), l_X4_areConflicting_2 pr (nI x) (nI y) K (nI i, M) = if cfl p x y i = true then some (1, M) else K (nI (i + 1), M) := by
    intro i hi K
    have ex : nI x * 8 + nI i = nI (8 * x + i) := by rw [n8, pk_mul, nI_add, Nat.mul_comm]
    have ey : nI y * 8 + nI i = nI (8 * y + i) := by rw [n8, pk_mul, nI_add, Nat.mul_comm]
    have ea : nI i + 1 = nI (i + 1) := by rw [n1, nI_add]
    have ix_ : ix (nI (8 * x + i)) = 8 * x + i := ix_nI (by omega)
    have iy_ : ix (nI (8 * y + i)) = 8 * y + i := ix_nI (by omega)
    have bx := inb_T (k := 8 * x + i) (n := 96) (by omega) (by decide)
    have by_ := inb_T (k := 8 * y + i) (n := 96) (by omega) (by decide)
    simp only [l_X4_areConflicting_2]
    rw [if_neg (show ¬ (8 : Int32) ≤ nI i from nI_ge (b := 8) hi (by decide)), ex, ey]
    simp only [↓reduceIte, bx, by_, ix_, iy_]
    rw [(ux i hi).1, (ux i hi).2, (uy i hi).1, (uy i hi).2, ea]
    unfold j_X4_areConflicting_68 cfl
    by_cases q1 : bit (setN p x) i = true
    · by_cases q2 : bit (setN p y) i = true
      · rw [if_pos q1, if_pos q1, if_pos q2, if_pos q2, q1, q2]
        by_cases z1 : wrS p x i &&& (rdS p y i ||| wrS p y i) = 0
        · by_cases z2 : wrS p y i &&& rdS p x i = 0 <;> simp [z1, z2]
        · simp [z1]
      · simp [q2]
    · simp [q1]
  unfold f_X4_areConflicting
  by_cases hC : CF p x y
  · obtain ⟨b, hb, hcf, hlt⟩ := least_of hC
    have eC : cfI p x y = 1 := by unfold cfI; rw [if_pos hC]
    rw [eC]
    exact loop_run b (fun i => (nI i, M)) rfl (by omega) (fun i hi K => by rw [rnd i (by omega), if_neg (hlt i hi)]) (fun K => by rw [rnd b hb, if_pos hcf])
  · have eC : cfI p x y = 0 := by unfold cfI; rw [if_neg hC]
    rw [eC]
    refine loop_run 8 (fun i => (nI i, M)) rfl (by omega) (fun i hi K => by rw [rnd i hi, if_neg (fun z => hC ⟨i, hi, z⟩)]) (fun K => ?_)
    simp only [l_X4_areConflicting_2]
    rw [if_pos (show (8 : Int32) ≤ nI 8 from nI_le (a := 8) (Nat.le_refl 8) (by decide))]
