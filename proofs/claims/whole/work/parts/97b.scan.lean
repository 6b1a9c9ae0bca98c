/-! ===== tokens: the class scans them all ===== -/
def wiL : List Nat := [0, 0, 0, 0, 0, 0, 0, 0, 0, 1, 1, 1, 1, 1, 1, 1, 2, 2, 2, 2, 2, 2, 2, 2, 3, 3, 3, 3, 3, 3, 3, 3, 3, 4, 4, 4, 4, 4, 4, 4, 4, 4, 5, 5, 5, 5, 5, 5, 5, 6, 6, 6, 6, 6, 6, 6, 7, 7, 7, 7, 7, 7, 8, 8, 8, 8, 8, 8, 8, 9, 9, 9, 9, 9, 10, 10, 10, 10, 10, 10, 11, 11, 11, 11, 12, 12, 12, 12, 12, 12, 13, 13, 13, 13, 13, 13, 13, 13, 13, 13, 14, 14, 14, 14, 14, 14, 14, 14, 15, 15, 15, 15, 16, 16, 16, 16, 17, 17, 17, 17, 18, 18, 18, 18, 19, 19, 19, 19, 20, 20, 20, 21, 21, 21, 21, 22, 22, 22, 22, 23, 23, 23, 23, 23, 23, 24, 24, 24, 24, 24, 25, 25, 25, 25, 25, 25, 25, 25, 26, 26, 26, 26, 26, 26, 27, 27, 27, 27, 28]
def wfL : List Nat := [0, 0, 0, 0, 0, 0, 0, 0, 0, 9, 9, 9, 9, 9, 9, 9, 16, 16, 16, 16, 16, 16, 16, 16, 24, 24, 24, 24, 24, 24, 24, 24, 24, 33, 33, 33, 33, 33, 33, 33, 33, 33, 42, 42, 42, 42, 42, 42, 42, 49, 49, 49, 49, 49, 49, 49, 56, 56, 56, 56, 56, 56, 62, 62, 62, 62, 62, 62, 62, 69, 69, 69, 69, 69, 74, 74, 74, 74, 74, 74, 80, 80, 80, 80, 84, 84, 84, 84, 84, 84, 90, 90, 90, 90, 90, 90, 90, 90, 90, 90, 100, 100, 100, 100, 100, 100, 100, 100, 108, 108, 108, 108, 112, 112, 112, 112, 116, 116, 116, 116, 120, 120, 120, 120, 124, 124, 124, 124, 128, 128, 128, 131, 131, 131, 131, 135, 135, 135, 135, 139, 139, 139, 139, 139, 139, 145, 145, 145, 145, 145, 150, 150, 150, 150, 150, 150, 150, 150, 158, 158, 158, 158, 158, 158, 164, 164, 164, 164, 168]
def wsL : List Nat := [1027, 1028, 1029, 1030, 1032, 1033, 1034, 1035, 1031, 1037, 1038, 1039, 1048, 1049, 1050, 1040, 1041, 1042, 1043, 1044, 1045, 1046, 1047, 1024, 1025, 1026, 1036, 1051]
def wi (k : Nat) : Nat := wiL.getD k 0
def wf (k : Nat) : Nat := wfL.getD k 0
/-- the number of the String constant of a word -/
def wsn (w : Nat) : Nat := wsL.getD w 0
theorem tb0 : ∀ k, k < 168 → (if schr 1002 k = 32 then wi (k + 1) = wi k + 1 ∧ wf (k + 1) = k + 1 else wi (k + 1) = wi k ∧ wf (k + 1) = wf k) := by decide +kernel
theorem tb1 : ∀ k, k < 168 → schr 1002 k = 32 → wi k < 28 ∧ slen (wsn (wi k)) = k - wf k ∧ wf k ≤ k ∧ ∀ i, i < k - wf k → schr (wsn (wi k)) i = schr 1002 (wf k + i) := by decide +kernel
theorem tb1b : ∀ k, k < 169 → wi k ≤ 28 ∧ wf k ≤ k := by decide +kernel
theorem tb2 : ∀ w, w < 28 → ∃ k, k < 168 ∧ schr 1002 k = 32 ∧ wi k = w := by decide +kernel
theorem tb3 : ∀ w, w < 28 → ∀ v, v < 28 → slen (wsn w) = slen (wsn v) → (∀ i, i < slen (wsn w) → schr (wsn w) i = schr (wsn v) i) → w = v := by decide +kernel
theorem tb4 : slen 1002 = 168 := by decide +kernel
/-- the run from b to e is the word of this String constant -/
def mt (T : Nat → Int32) (b e j : Nat) : Prop := e - b = slen j ∧ ∀ i, i < slen j → T (b + i) = schr j i
theorem mt_uniq {T : Nat → Int32} {b e w v : Nat} (hw : w < 28) (hv : v < 28) (h1 : mt T b e (wsn w)) (h2 : mt T b e (wsn v)) : w = v := by
  have es : slen (wsn w) = slen (wsn v) := h1.1.symm.trans h2.1
  exact tb3 w hw v hv es (fun i hi => (h1.2 i hi).symm.trans (h2.2 i (by omega)))
noncomputable def kW (T : Nat → Int32) (b e : Nat) : Nat := @dite _ (∃ w, w < 28 ∧ mt T b e (wsn w)) (Classical.propDecidable _) (fun h => Classical.choose h) (fun _ => 33)
theorem kW_iff {T : Nat → Int32} {b e w : Nat} (hw : w < 28) : kW T b e = w ↔ mt T b e (wsn w) := by
  unfold kW
  constructor
  · intro h
    by_cases q : ∃ w, w < 28 ∧ mt T b e (wsn w)
    · rw [dif_pos q] at h
      have := Classical.choose_spec q
      rw [h] at this
      exact this.2
    · rw [dif_neg q] at h; omega
  · intro h
    have q : ∃ w, w < 28 ∧ mt T b e (wsn w) := ⟨w, hw, h⟩
    rw [dif_pos q]
    have := Classical.choose_spec q
    exact mt_uniq this.1 hw this.2 h
theorem kW_no {T : Nat → Int32} {b e : Nat} (h : ∀ w, w < 28 → ¬ mt T b e (wsn w)) : kW T b e = 33 := by
  unfold kW
  rw [dif_neg (fun ⟨w, hw, q⟩ => h w hw q)]
theorem kW_lt (T : Nat → Int32) (b e : Nat) : kW T b e < 28 ∨ kW T b e = 33 := by
  by_cases q : ∃ w, w < 28 ∧ mt T b e (wsn w)
  · obtain ⟨w, hw, h⟩ := q
    rw [(kW_iff hw).mpr h]; exact Or.inl hw
  · exact Or.inr (kW_no (fun w hw h => q ⟨w, hw, h⟩))
theorem x_isWordAt {T : Nat → Int32} {M : Mem} {f b e : Nat} (hT : ∀ i, i < 900 → M 1 i = T i) (hb : b ≤ e) (he : e ≤ 900) (hf : f + (e - b) ≤ 168) : f_X7_isWordAt (nI f) 1 (nI b) (nI e) M = some (@ite _ (∀ i, i < e - b → T (b + i) = schr 1002 (f + i)) (Classical.propDecidable _) 1 0, M) := by
  unfold f_X7_isWordAt
  have len : lenK KSx 1 = 900 := rfl
  have step : ∀ k, k < e - b → ∀ K, l_X7_isWordAt_3 (nI f) 1 (nI b) (nI e) K (nI (b + k), M) = if T (b + k) = schr 1002 (f + k) then K (nI (b + (k + 1)), M) else some (0, M) := by
    intro k hk K
    have ei : nI f + nI (b + k) - nI b = nI (f + k) := by rw [nI_add, ss (by omega), show f + (b + k) - b = f + k by omega]
    simp only [l_X7_isWordAt_3]
    rw [if_neg (nI_ge (by omega) (by omega)), len, tb4, ei, if_pos (of_eq_true (inb_T (by first | omega | (unfold wdP; omega) | (unfold lnP; omega) | (unfold cl; omega)) (by omega))), if_pos (of_eq_true (inb_T (by first | omega | (unfold wdP; omega) | (unfold lnP; omega) | (unfold cl; omega)) (by omega))), ix_nI (by omega), ix_nI (by omega), hT _ (by omega), nI_1, Nat.add_assoc]
  by_cases q : ∃ k, k < e - b ∧ ¬ T (b + k) = schr 1002 (f + k)
  · obtain ⟨k, hk, hk2, hk3⟩ := least_of q
    rw [if_neg (fun z => hk2 (z k hk))]
    refine loop_run k (fun i => (nI (b + i), M)) rfl (by omega) (fun i hi K => ?_) (fun K => ?_)
    · rw [step i (by omega), if_pos (Classical.not_not.mp (fun z => hk3 i hi z))]
    · rw [step k hk, if_neg hk2]
  · have al : ∀ i, i < e - b → T (b + i) = schr 1002 (f + i) := fun i hi => Classical.not_not.mp (fun z => q ⟨i, hi, z⟩)
    rw [if_pos al]
    refine loop_run (e - b) (fun i => (nI (b + i), M)) rfl (by omega) (fun i hi K => ?_) (fun K => ?_)
    · rw [step i hi, if_pos (al i hi)]
    · simp only [l_X7_isWordAt_3]
      rw [if_pos (nI_le (by omega) (by omega))]
theorem x_kindOfWord {T : Nat → Int32} {M : Mem} {b e : Nat} (hT : ∀ i, i < 900 → M 1 i = T i) (hb : b ≤ e) (he : e ≤ 900) : f_X7_kindOfWord 1 (nI b) (nI e) M = some (nI (kW T b e), M) := by
  unfold f_X7_kindOfWord
  have tb1b := tb1b
  -- one round
  have step : ∀ k, k < 168 → ∀ K, l_X7_kindOfWord_8 1 (nI b) (nI e) K (nI (wi k), nI (wf k), nI k, M) = @ite _ (schr 1002 k = 32 ∧ mt T b e (wsn (wi k))) (Classical.propDecidable _) (some (nI (wi k), M)) (K (nI (wi (k + 1)), nI (wf (k + 1)), nI (k + 1), M)) := by
    intro k hk K
    obtain ⟨u1, u2⟩ := tb1b k (by omega)
    have t0 := tb0 k hk
    simp only [l_X7_kindOfWord_8, j_X7_kindOfWord_63, j_X7_kindOfWord_54]
    rw [tb4, if_neg (nI_ge hk (by omega)), if_pos (of_eq_true (inb_T (by first | omega | (unfold wdP; omega) | (unfold lnP; omega) | (unfold cl; omega)) (by omega))), ix_nI (by omega)]
    by_cases z : schr 1002 k = 32
    · rw [if_pos z] at t0
      obtain ⟨v1, v2, v3, v4⟩ := tb1 k hk z
      rw [if_neg (fun y => y z), ss v3, ss hb, nI_1, nI_1, ← t0.1]
      by_cases z2 : k - wf k = e - b
      · rw [if_neg (fun y => y (by rw [z2])), x_isWordAt hT hb he (by omega), bnd_some]
        by_cases z3 : ∀ i, i < e - b → T (b + i) = schr 1002 (wf k + i)
        · have m1 : mt T b e (wsn (wi k)) := ⟨by rw [v2]; exact z2.symm, fun i hi => by rw [v2, z2] at hi; rw [z3 i hi, v4 i (by omega)]⟩
          rw [if_pos z3, if_neg (by decide), if_pos ⟨z, m1⟩]
        · have m1 : ¬ mt T b e (wsn (wi k)) := fun y => z3 (fun i hi => by rw [y.2 i (by rw [v2, z2]; exact hi), v4 i (by omega)])
          rw [if_neg z3, if_pos rfl, if_neg (fun y => m1 y.2), t0.2]
      · have m1 : ¬ mt T b e (wsn (wi k)) := fun y => z2 (by rw [← v2]; exact y.1.symm)
        rw [if_pos (fun y => z2 ((nI_eq (by omega) (by omega)).mp y)), if_neg (fun y => m1 y.2), t0.2]
    · rw [if_neg z] at t0
      rw [if_pos z, if_neg (fun y => z y.1), t0.1, t0.2, nI_1]
  by_cases q : ∃ k, k < 168 ∧ (schr 1002 k = 32 ∧ mt T b e (wsn (wi k)))
  · obtain ⟨k, hk, hk2, hk3⟩ := least_of q
    have w28 := (tb1 k hk hk2.1).1
    rw [(kW_iff w28).mpr hk2.2]
    refine loop_run k (fun i => (nI (wi i), nI (wf i), nI i, M)) rfl (by omega) (fun i hi K => ?_) (fun K => ?_)
    · rw [step i (by omega), if_neg (hk3 i hi)]
    · rw [step k hk, if_pos hk2]
  · have no : ∀ w, w < 28 → ¬ mt T b e (wsn w) := fun w hw hm => by
      obtain ⟨k, k1, k2, k3⟩ := tb2 w hw
      exact q ⟨k, k1, k2, by rw [k3]; exact hm⟩
    rw [kW_no no]
    refine loop_run 168 (fun i => (nI (wi i), nI (wf i), nI i, M)) rfl (by omega) (fun i hi K => ?_) (fun K => ?_)
    · rw [step i hi, if_neg (fun y => q ⟨i, hi, y⟩)]
    · simp only [l_X7_kindOfWord_8]
      rw [tb4, if_pos (nI_le (Nat.le_refl _) (by omega))]
      rfl
/-- the kind of the token at b -/
def kSg (x : Int32) : Nat := if x = 45 then 31 else if x = 58 then 29 else if x = 59 then 30 else 33
noncomputable def kd (T : Nat → Int32) (L b : Nat) : Nat := if L ≤ b then 32 else if isLt (T b) = true then kW T b (rn isLt T L b) else if isDg (T b) = true then (if rn isDg T L b - b ≤ 6 then 28 else 33) else kSg (T b)
/-- whether a token begins at k -/
def isSt (T : Nat → Int32) (k : Nat) : Bool := (isLt (T k) && !(decide (0 < k) && isLt (T (k - 1)))) || (isDg (T k) && !(decide (0 < k) && isDg (T (k - 1)))) || (!(isLt (T k)) && !(isDg (T k)) && !(isBl (T k)))
def cnt (T : Nat → Int32) (k : Nat) : Nat := foldN (fun i c => if isSt T i = true then c + 1 else c) k 0
theorem cnt_s (T : Nat → Int32) (k : Nat) : cnt T (k + 1) = if isSt T k = true then cnt T k + 1 else cnt T k := rfl
theorem cnt_le (T : Nat → Int32) (k : Nat) : cnt T k ≤ k := by
  induction k with
  | zero => exact Nat.le_refl _
  | succ k ih => rw [cnt_s]; split <;> omega
/-- the class's row of tokens, those that begin before k -/
def TA (T : Nat → Int32) (L k : Nat) (M : Mem) : Prop := ∀ b, b < k → (b < L → isSt T b = true) → M 4 (cnt T b) = nI (kd T L b) ∧ M 5 (cnt T b) = nI b ∧ (kd T L b = 28 → M 6 (cnt T b) = numF T b (rn isDg T L b - b))
theorem cnt_lt {T : Nat → Int32} {b k : Nat} (h : b < k) (hs : isSt T b = true) : cnt T b < cnt T k := by
  induction k with
  | zero => omega
  | succ k ih =>
    rw [cnt_s]
    by_cases z : b = k
    · rw [← z, if_pos hs]; omega
    · have := ih (by omega)
      split <;> omega
theorem x_addToken {M : Mem} {n : Nat} (x y z : Int32) (h3 : M 3 3 = nI n) (hn : n < 901) : ∃ M2, f_X7_addToken x y z M = some (0, M2) ∧ M2 3 3 = nI (n + 1) ∧ M2 4 n = x ∧ M2 5 n = y ∧ M2 6 n = z ∧ (∀ j, j ≠ n → M2 4 j = M 4 j ∧ M2 5 j = M 5 j ∧ M2 6 j = M 6 j) ∧ (∀ c, c ≠ 3 → c ≠ 4 → c ≠ 5 → c ≠ 6 → M2 c = M c) := by
  unfold f_X7_addToken
  have i0 : ix (nI n) = n := ix_nI (by omega)
  have a1 : (up M 4 n x) 3 3 = nI n := by rw [up_a _ _ _ (by decide)]; exact h3
  have a2 : (up (up M 4 n x) 5 n y) 3 3 = nI n := by rw [up_a _ _ _ (by decide)]; exact a1
  have a3 : (up (up (up M 4 n x) 5 n y) 6 n z) 3 3 = nI n := by rw [up_a _ _ _ (by decide)]; exact a2
  rw [h3, if_pos (of_eq_true (inb_T (by first | omega | (unfold wdP; omega) | (unfold lnP; omega) | (unfold cl; omega)) (by omega))), i0, wrt_def, a1, if_pos (of_eq_true (inb_T (by first | omega | (unfold wdP; omega) | (unfold lnP; omega) | (unfold cl; omega)) (by omega))), i0, wrt_def, a2, if_pos (of_eq_true (inb_T (by first | omega | (unfold wdP; omega) | (unfold lnP; omega) | (unfold cl; omega)) (by omega))), i0, wrt_def, a3, wrt_def, nI_1]
  refine ⟨_, rfl, up_eq _ _ _ _, ?_, ?_, ?_, fun j hj => ⟨?_, ?_, ?_⟩, fun c c3 c4 c5 c6 => ?_⟩
  · rw [up_a _ _ _ (by decide), up_a _ _ _ (by decide), up_a _ _ _ (by decide), up_eq]
  · rw [up_a _ _ _ (by decide), up_a _ _ _ (by decide), up_eq]
  · rw [up_a _ _ _ (by decide), up_eq]
  · rw [up_a _ _ _ (by decide), up_a _ _ _ (by decide), up_a _ _ _ (by decide), up_i _ _ hj]
  · rw [up_a _ _ _ (by decide), up_a _ _ _ (by decide), up_i _ _ hj, up_a _ _ _ (by decide)]
  · rw [up_a _ _ _ (by decide), up_i _ _ hj, up_a _ _ _ (by decide), up_a _ _ _ (by decide)]
  · rw [up_a _ _ _ c3, up_a _ _ _ c6, up_a _ _ _ c5, up_a _ _ _ c4]
theorem addT_id (x y z : Int32) (M : Mem) : bnd (f_X7_addToken x y z M) (fun _ M4 => some (0, M4)) = f_X7_addToken x y z M := by
  unfold f_X7_addToken
  simp only [wrt_def]
  split
  · split
    · split
      · rfl
      · rfl
    · rfl
  · rfl
theorem x_addWord {T : Nat → Int32} {M : Mem} {L b : Nat} (hT : ∀ i, i < 900 → M 1 i = T i) (hb : b < L) (hL : L ≤ 900) : f_X7_addWord 1 (nI b) (nI L) M = f_X7_addToken (nI (kW T b (rn isLt T L b))) (nI b) 0 M := by
  obtain ⟨i1, i2, i3, i4⟩ := rn_spec isLt T L b
  have i2 := i2 (by omega)
  have len : lenK KSx 1 = 900 := rfl
  unfold f_X7_addWord
  have fin : j_X7_addWord_25 1 (nI b) (nI (rn isLt T L b)) M = f_X7_addToken (nI (kW T b (rn isLt T L b))) (nI b) 0 M := by
    unfold j_X7_addWord_25
    rw [x_kindOfWord hT i1 (by omega), bnd_some]
    exact addT_id _ _ _ _
  refine loop_run (rn isLt T L b - b) (fun i => (nI (b + i), M)) rfl (by omega) (fun i hi K => ?_) (fun K => ?_)
  · have hk := i3 (b + i) (by omega) (by omega)
    simp only [l_X7_addWord_3]
    rw [if_neg (nI_ge hk.1 (by omega)), len, if_pos (of_eq_true (inb_T (by first | omega | (unfold wdP; omega) | (unfold lnP; omega) | (unfold cl; omega)) (by omega))), ix_nI (by omega), hT _ (by omega), if_neg (fun z => by rw [x7lt.mp z] at hk; cases hk.2), nI_1, Nat.add_assoc]
  · have e : b + (rn isLt T L b - b) = rn isLt T L b := by omega
    simp only [l_X7_addWord_3]
    rw [e]
    by_cases q : rn isLt T L b < L
    · rw [if_neg (nI_ge q (by omega)), len, if_pos (of_eq_true (inb_T (by first | omega | (unfold wdP; omega) | (unfold lnP; omega) | (unfold cl; omega)) (by omega))), ix_nI (by omega), hT _ (by omega), if_pos (x7lt.mpr (i4 q)), fin]
    · rw [if_pos (nI_le (by omega) (by omega)), fin]
theorem x_addNumber {T : Nat → Int32} {M : Mem} {L b : Nat} (hT : ∀ i, i < 900 → M 1 i = T i) (hb : b < L) (hL : L ≤ 900) : f_X7_addNumber 1 (nI b) (nI L) M = f_X7_addToken (nI (if rn isDg T L b - b ≤ 6 then 28 else 33)) (nI b) (numF T b (rn isDg T L b - b)) M := by
  obtain ⟨i1, i2, i3, i4⟩ := rn_spec isDg T L b
  have i2 := i2 (by omega)
  have len : lenK KSx 1 = 900 := rfl
  unfold f_X7_addNumber
  have fin : j_X7_addNumber_43 (nI b) (numF T b (rn isDg T L b - b)) (nI (rn isDg T L b)) M = f_X7_addToken (nI (if rn isDg T L b - b ≤ 6 then 28 else 33)) (nI b) (numF T b (rn isDg T L b - b)) M := by
    unfold j_X7_addNumber_43
    rw [ss i1]
    have ek : (if (6 : Int32) < nI (rn isDg T L b - b) then (33 : Int32) else 28) = nI (if rn isDg T L b - b ≤ 6 then 28 else 33) := by
      by_cases z : rn isDg T L b - b ≤ 6
      · rw [if_neg (show ¬ (6 : Int32) < nI (rn isDg T L b - b) from nI_nlt (a := 6) z (by omega)), if_pos z]; rfl
      · rw [if_pos (show (6 : Int32) < nI (rn isDg T L b - b) from nI_lt (a := 6) (by omega) (by omega)), if_neg z]; rfl
    rw [ek]
    exact addT_id _ _ _ _
  refine loop_run (rn isDg T L b - b) (fun i => (numF T b i, nI (b + i), M)) rfl (by omega) (fun i hi K => ?_) (fun K => ?_)
  · have hk := i3 (b + i) (by omega) (by omega)
    simp only [l_X7_addNumber_6]
    rw [if_neg (nI_ge hk.1 (by omega)), len, if_pos (of_eq_true (inb_T (by first | omega | (unfold wdP; omega) | (unfold lnP; omega) | (unfold cl; omega)) (by omega))), if_pos (of_eq_true (inb_T (by first | omega | (unfold wdP; omega) | (unfold lnP; omega) | (unfold cl; omega)) (by omega))), ix_nI (by omega), hT _ (by omega), if_neg (fun z => by rw [x7dg.mp z] at hk; cases hk.2), nI_1, Nat.add_assoc]
    rfl
  · have e : b + (rn isDg T L b - b) = rn isDg T L b := by omega
    simp only [l_X7_addNumber_6]
    rw [e]
    by_cases q : rn isDg T L b < L
    · rw [if_neg (nI_ge q (by omega)), len, if_pos (of_eq_true (inb_T (by first | omega | (unfold wdP; omega) | (unfold lnP; omega) | (unfold cl; omega)) (by omega))), if_pos (of_eq_true (inb_T (by first | omega | (unfold wdP; omega) | (unfold lnP; omega) | (unfold cl; omega)) (by omega))), ix_nI (by omega), hT _ (by omega), if_pos (x7dg.mpr (i4 q)), fin]
    · rw [if_pos (nI_le (by omega) (by omega)), fin]
