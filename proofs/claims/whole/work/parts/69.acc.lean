/-! ===== the rows that a batch takes ===== -/
theorem or_and (x y z : Int32) : (x ||| y) &&& z = (x &&& z) ||| (y &&& z) := Int32.toBitVec_inj.1 BitVec.and_or_distrib_right
theorem orz {x y m : Int32} : (x ||| y) &&& m = 0 ↔ x &&& m = 0 ∧ y &&& m = 0 := by rw [or_and, Int32.or_eq_zero_iff]
theorem b_rr : ∀ r, r < 4 → ∀ R, R < 16 → rR (nI r) &&& p_X4_rowBit (nI R) = 0 := by decide +kernel
theorem b_ww : ∀ x, x < 16 → ∀ R, R < 16 → ((wR (nI x) &&& p_X4_rowBit (nI R) = 0) ↔ ¬ x = R) := by decide +kernel
theorem zand (x : Int32) : 0 &&& x = 0 := Int32.zero_and
theorem cR_row {p : Nat → Int32} {c R : Nat} {il : Bool} (h : WFc p c) (hR : R < 16) : cR p c il &&& p_X4_rowBit (nI R) = 0 ↔ ¬ (kdN p c = 0 ∧ x2N p c = R) := by
  have hkl := kd_lt p c
  have hr := h.2.2.2.1
  have e1 := h.2.2.1
  unfold cR
  rcases (show kdN p c = 0 ∨ kdN p c = 1 ∨ kdN p c = 2 ∨ kdN p c = 3 ∨ kdN p c = 4 ∨ kdN p c = 5 ∨ kdN p c = 6 ∨ kdN p c = 7 by omega) with q | q | q | q | q | q | q | q
  · obtain ⟨q2, q2l⟩ := h.2.2.2.2.2 (by omega)
    rw [if_pos q, q2]
    have := b_ww _ q2l R hR
    constructor
    · intro z y; exact this.mp z y.2
    · intro z; exact this.mpr (fun y => z ⟨q, y⟩)
  · rw [if_neg (by omega), if_pos (Or.inl q), e1]
    exact ⟨fun _ z => by omega, fun _ => b_rr _ hr R hR⟩
  · rw [if_neg (by omega), if_neg (by omega), if_neg (by omega), if_neg (by omega)]
    exact ⟨fun _ z => by omega, fun _ => zand _⟩
  · obtain ⟨q2, q2l, q3, q3l⟩ := h.2.2.2.2.1 q
    rw [if_neg (by omega), if_neg (by omega), if_pos q, q2, q3]
    exact ⟨fun _ z => by omega, fun _ => orz.mpr ⟨b_rr _ q2l R hR, b_rr _ q3l R hR⟩⟩
  · rw [if_neg (by omega), if_pos (Or.inr (Or.inl q)), e1]
    exact ⟨fun _ z => by omega, fun _ => b_rr _ hr R hR⟩
  · rw [if_neg (by omega), if_pos (Or.inr (Or.inr q)), e1]
    exact ⟨fun _ z => by omega, fun _ => b_rr _ hr R hR⟩
  · rw [if_neg (by omega), if_neg (by omega), if_neg (by omega), if_pos q, e1]
    refine ⟨fun _ z => by omega, fun _ => ?_⟩
    split
    · exact b_rr _ hr R hR
    · exact zand _
  · rw [if_neg (by omega), if_neg (by omega), if_neg (by omega), if_neg (by omega)]
    exact ⟨fun _ z => by omega, fun _ => zand _⟩
theorem cW_row {p : Nat → Int32} {c R : Nat} {il : Bool} (h : WFc p c) (hR : R < 16) : cW p c il &&& p_X4_rowBit (nI R) = 0 ↔ ¬ (kdN p c = 1 ∧ x2N p c = R) := by
  have hkl := kd_lt p c
  have hr := h.2.2.2.1
  have e1 := h.2.2.1
  unfold cW
  rcases (show kdN p c = 1 ∨ (kdN p c = 0 ∨ kdN p c = 2 ∨ kdN p c = 3 ∨ kdN p c = 5) ∨ kdN p c = 4 ∨ kdN p c = 6 ∨ kdN p c = 7 by omega) with q | q | q | q | q
  · obtain ⟨q2, q2l⟩ := h.2.2.2.2.2 (by omega)
    rw [if_neg (by omega), if_pos q, q2]
    have := b_ww _ q2l R hR
    constructor
    · intro z y; exact this.mp z y.2
    · intro z; exact this.mpr (fun y => z ⟨q, y⟩)
  · rw [if_pos q, e1]
    exact ⟨fun _ z => by omega, fun _ => b_rr _ hr R hR⟩
  · rw [if_neg (by omega), if_neg (by omega), if_pos q, e1]
    refine ⟨fun _ z => by omega, fun _ => ?_⟩
    split
    · exact b_rr _ hr R hR
    · exact zand _
  · rw [if_neg (by omega), if_neg (by omega), if_neg (by omega), if_pos q, e1]
    refine ⟨fun _ z => by omega, fun _ => ?_⟩
    split
    · exact zand _
    · exact b_rr _ hr R hR
  · rw [if_neg (by omega), if_neg (by omega), if_neg (by omega), if_neg (by omega)]
    exact ⟨fun _ z => by omega, fun _ => zand _⟩
theorem rdF_row {p : Nat → Int32} {f n R : Nat} {il : Bool} (h : WFr p f n) (hR : R < 16) : rdF p f n il &&& p_X4_rowBit (nI R) = 0 ↔ ∀ i, i < n → ¬ (kdN p (f + i) = 0 ∧ x2N p (f + i) = R) := by
  unfold rdF
  induction n with
  | zero => rw [foldN_0]; exact ⟨fun _ i hi => by omega, fun _ => zand _⟩
  | succ n ih =>
    have ih := ih ⟨by have := h.1; omega, fun c h1 h2 => h.2 c h1 (by omega)⟩
    rw [foldN_s, orz, ih, cR_row (h.2 (f + n) (by omega) (by omega)) hR]
    constructor
    · rintro ⟨h1, h2⟩ i hi
      by_cases z : i = n
      · subst z; exact h2
      · exact h1 i (by omega)
    · intro h1
      exact ⟨fun i hi => h1 i (by omega), h1 n (by omega)⟩
theorem wrF_row {p : Nat → Int32} {f n R : Nat} {il : Bool} (h : WFr p f n) (hR : R < 16) : wrF p f n il &&& p_X4_rowBit (nI R) = 0 ↔ ∀ i, i < n → ¬ (kdN p (f + i) = 1 ∧ x2N p (f + i) = R) := by
  unfold wrF
  induction n with
  | zero => rw [foldN_0]; exact ⟨fun _ i hi => by omega, fun _ => zand _⟩
  | succ n ih =>
    have ih := ih ⟨by have := h.1; omega, fun c h1 h2 => h.2 c h1 (by omega)⟩
    rw [foldN_s, orz, ih, cW_row (h.2 (f + n) (by omega) (by omega)) hR]
    constructor
    · rintro ⟨h1, h2⟩ i hi
      by_cases z : i = n
      · subst z; exact h2
      · exact h1 i (by omega)
    · intro h1
      exact ⟨fun i hi => h1 i (by omega), h1 n (by omega)⟩
/-- a batch takes (stores) a row of a bank -/
def accR (p : Nat → Int32) (bt b R : Nat) : Prop := bit (setN p bt) b = true ∧ ∃ i, i < lenN p bt ∧ kdN p (fstN p bt + i) ≤ 1 ∧ x2N p (fstN p bt + i) = R
def stoR (p : Nat → Int32) (bt b R : Nat) : Prop := bit (setN p bt) b = true ∧ ∃ i, i < lenN p bt ∧ kdN p (fstN p bt + i) = 1 ∧ x2N p (fstN p bt + i) = R
theorem x_stores {M : Mem} {pr : Nat} {p : Nat → Int32} {bt b R : Nat} (hw : WFb p bt) (hu : PUs M pr p bt) (hb : b < 8) (hR : R < 16) : (stoR p bt b R → f_X4_storesRow pr (nI bt) (nI b) (nI R) M = some (1, M)) ∧ (¬ stoR p bt b R → f_X4_storesRow pr (nI bt) (nI b) (nI R) M = some (0, M)) := by
  obtain ⟨h12, -, -, -, -, hr⟩ := hw
  have ei : nI bt * 8 + nI b = nI (8 * bt + b) := by rw [n8, pk_mul, nI_add, Nat.mul_comm]
  have key : f_X4_storesRow pr (nI bt) (nI b) (nI R) M = some ((if (M (pr + 12) (8 * bt + b)) &&& p_X4_rowBit (nI R) = 0 then (0 : Int32) else 1), M) := by
    unfold f_X4_storesRow
    rw [ei, if_pos (of_eq_true (inb_T (by omega) (by decide))), ix_nI (by omega)]
  have hz : M (pr + 12) (8 * bt + b) &&& p_X4_rowBit (nI R) = 0 ↔ ¬ stoR p bt b R := by
    rw [(hu b hb).2]
    unfold stoR
    by_cases q : bit (setN p bt) b = true
    · rw [if_pos q]
      unfold wrS
      rw [wrF_row hr hR]
      constructor
      · rintro h1 ⟨-, i, hi, h2⟩; exact h1 i hi h2
      · intro h1 i hi h2; exact h1 ⟨q, i, hi, h2⟩
    · rw [if_neg q]
      exact ⟨fun _ z => q z.1, fun _ => zand _⟩
  rw [key]
  exact ⟨fun z => by rw [if_neg (fun y => hz.mp y z)], fun z => by rw [if_pos (hz.mpr z)]⟩
theorem x_accesses {M : Mem} {pr : Nat} {p : Nat → Int32} {bt b R : Nat} (hw : WFb p bt) (hu : PUs M pr p bt) (hb : b < 8) (hR : R < 16) : (accR p bt b R → f_X4_accessesRow pr (nI bt) (nI b) (nI R) M = some (1, M)) ∧ (¬ accR p bt b R → f_X4_accessesRow pr (nI bt) (nI b) (nI R) M = some (0, M)) := by
  obtain ⟨h12, -, -, -, -, hr⟩ := hw
  have ei : nI bt * 8 + nI b = nI (8 * bt + b) := by rw [n8, pk_mul, nI_add, Nat.mul_comm]
  have key : f_X4_accessesRow pr (nI bt) (nI b) (nI R) M = some ((if ((M (pr + 11) (8 * bt + b)) ||| (M (pr + 12) (8 * bt + b))) &&& p_X4_rowBit (nI R) = 0 then (0 : Int32) else 1), M) := by
    unfold f_X4_accessesRow
    rw [ei, if_pos (of_eq_true (inb_T (by omega) (by decide))), if_pos (of_eq_true (inb_T (by omega) (by decide))), ix_nI (by omega)]
  have hz : (M (pr + 11) (8 * bt + b) ||| M (pr + 12) (8 * bt + b)) &&& p_X4_rowBit (nI R) = 0 ↔ ¬ accR p bt b R := by
    rw [(hu b hb).1, (hu b hb).2]
    unfold accR
    by_cases q : bit (setN p bt) b = true
    · rw [if_pos q, if_pos q, orz]
      unfold rdS wrS
      rw [rdF_row hr hR, wrF_row hr hR]
      constructor
      · rintro ⟨h0, h1⟩ ⟨-, i, hi, h2, h3⟩
        rcases (show kdN p (fstN p bt + i) = 0 ∨ kdN p (fstN p bt + i) = 1 by omega) with y | y
        · exact h0 i hi ⟨y, h3⟩
        · exact h1 i hi ⟨y, h3⟩
      · intro h1
        exact ⟨fun i hi h2 => h1 ⟨q, i, hi, by omega, h2.2⟩, fun i hi h2 => h1 ⟨q, i, hi, by omega, h2.2⟩⟩
    · rw [if_neg q, if_neg q]
      exact ⟨fun _ z => q z.1, fun _ => by rw [orz]; exact ⟨zand _, zand _⟩⟩
  rw [key]
  exact ⟨fun z => by rw [if_neg (fun y => hz.mp y z)], fun z => by rw [if_pos (hz.mpr z)]⟩
