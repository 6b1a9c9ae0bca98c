/-! ===== the whole scan; how tokens follow each other ===== -/
theorem bl7 {x : Int32} : (p_X7_isBlank x = 0) ↔ isBl x = false := by
  unfold p_X7_isBlank isBl
  by_cases h1 : x = 10
  · rw [if_pos h1, decide_eq_true h1, Bool.true_or]
    exact ⟨fun z => absurd z (by decide), fun z => by cases z⟩
  · rw [if_neg h1, decide_eq_false h1, Bool.false_or]
    by_cases h2 : x = 32
    · rw [if_neg (fun z => z h2), decide_eq_true h2]
      exact ⟨fun z => absurd z (by decide), fun z => by cases z⟩
    · rw [if_pos h2, decide_eq_false h2]
      exact ⟨fun _ => rfl, fun _ => rfl⟩
theorem sg7 (x : Int32) : p_X7_kindOfSign x = nI (kSg x) := by
  unfold p_X7_kindOfSign kSg
  by_cases h1 : x = 45
  · rw [if_pos h1, if_pos h1]; rfl
  · rw [if_neg h1, if_neg h1]
    by_cases h2 : x = 58
    · rw [if_pos h2, if_pos h2]; rfl
    · rw [if_neg h2, if_neg h2]
      by_cases h3 : x = 59
      · rw [if_pos h3, if_pos h3]; rfl
      · rw [if_neg h3, if_neg h3]; rfl
theorem bF {x : Bool} (h : ¬ x = true) : x = false := by cases x with
  | false => rfl
  | true => exact absurd rfl h
/-- the sign before k -/
def bfo (T : Nat → Int32) (k : Nat) : Int32 := if k = 0 then 32 else T (k - 1)
theorem bfo_lt (T : Nat → Int32) (k : Nat) : (decide (0 < k) && isLt (T (k - 1))) = isLt (bfo T k) ∧ (decide (0 < k) && isDg (T (k - 1))) = isDg (bfo T k) := by
  unfold bfo
  by_cases h : k = 0
  · rw [if_pos h, decide_eq_false (by omega), Bool.false_and, Bool.false_and]; exact ⟨by decide, by decide⟩
  · rw [if_neg h, decide_eq_true (by omega), Bool.true_and, Bool.true_and]; exact ⟨rfl, rfl⟩
theorem isSt_lt {T : Nat → Int32} {k : Nat} (h : isLt (T k) = true) : isSt T k = !(isLt (bfo T k)) := by
  unfold isSt
  rw [(bfo_lt T k).1, h, (lt_dg h).1]
  simp
theorem isSt_dg {T : Nat → Int32} {k : Nat} (h : isDg (T k) = true) : isSt T k = !(isDg (bfo T k)) := by
  unfold isSt
  rw [(bfo_lt T k).2, h, (dg_bl h).1]
  simp
theorem isSt_o {T : Nat → Int32} {k : Nat} (h1 : isLt (T k) = false) (h2 : isDg (T k) = false) : isSt T k = !(isBl (T k)) := by
  unfold isSt
  rw [h1, h2]
  simp
theorem TA.of {T : Nat → Int32} {L k : Nat} {M M2 : Mem} (h : TA T L k M) (e : ∀ j, j < cnt T k → M2 4 j = M 4 j ∧ M2 5 j = M 5 j ∧ M2 6 j = M 6 j) (hk : k ≤ L) : TA T L k M2 := by
  intro b hb hs
  obtain ⟨h1, h2, h3⟩ := h b hb hs
  obtain ⟨e1, e2, e3⟩ := e _ (cnt_lt hb (hs (by omega)))
  exact ⟨by rw [e1]; exact h1, by rw [e2]; exact h2, fun q => by rw [e3]; exact h3 q⟩
theorem x_scan {T : Nat → Int32} {L : Nat} {M : Mem} (hT : ∀ i, i < 900 → M 1 i = T i) (hL : L ≤ 900) : ∃ M2, f_X7_scan 1 (nI L) M = some (0, M2) ∧ TA T L (L + 1) M2 ∧ (∀ c, c ≠ 3 → c ≠ 4 → c ≠ 5 → c ≠ 6 → M2 c = M c) := by
  have len : lenK KSx 1 = 900 := rfl
  unfold f_X7_scan
  rw [wrt_def]
  have X := loop_inv (body := l_X7_scan_7 1 (nI L)) (init := (0, up M 3 3 0)) (Q := fun res => ∃ M2, res = some (0, M2) ∧ TA T L (L + 1) M2 ∧ (∀ c, c ≠ 3 → c ≠ 4 → c ≠ 5 → c ≠ 6 → M2 c = M c)) L (fun k s => s.1 = nI k ∧ s.2 3 3 = nI (cnt T k) ∧ TA T L k s.2 ∧ (∀ c, c ≠ 3 → c ≠ 4 → c ≠ 5 → c ≠ 6 → s.2 c = M c)) ⟨rfl, up_eq M 3 3 0, fun b hb => by omega, fun c c3 _ _ _ => up_a M _ _ c3⟩ (by omega) ?_ ?_
  · obtain ⟨res, ⟨M2, er, rest⟩, el⟩ := X
    exact ⟨M2, by rw [el, er], rest⟩
  · rintro k hk ⟨y, M1⟩ ⟨hy, C1, A1, F1⟩
    have hy : y = nI k := hy
    subst hy
    have C1 : M1 3 3 = nI (cnt T k) := C1
    have A1 : TA T L k M1 := A1
    have F1 : ∀ c, c ≠ 3 → c ≠ 4 → c ≠ 5 → c ≠ 6 → M1 c = M c := F1
    have hT1 : ∀ i, i < 900 → M1 1 i = T i := fun i hi => by rw [F1 1 (by decide) (by decide) (by decide) (by decide)]; exact hT i hi
    have cl := cnt_le T k
    -- the round
    have head : ∀ K, l_X7_scan_7 1 (nI L) K (nI k, M1) = j_X7_scan_31 1 (nI L) (nI k) (T k) (bfo T k) K M1 := by
      intro K
      simp only [l_X7_scan_7]
      rw [if_neg (nI_ge hk (by omega)), len]
      have i0 : ix (nI k) = k := ix_nI (by omega)
      by_cases z : k = 0
      · subst z
        rw [if_pos (of_eq_true (inb_T (by omega) (by omega))), if_pos (by decide), i0, hT1 0 (by omega)]
        rfl
      · have i1 : ix (nI (k - 1)) = k - 1 := ix_nI (by omega)
        rw [if_pos (of_eq_true (inb_T (by omega) (by omega))), if_neg (show ¬ nI k ≤ 0 from nI_ge (a := 0) (by omega) (by omega)), show nI k - 1 = nI (k - 1) from ss (a := k) (b := 1) (by omega), if_pos (of_eq_true (inb_T (by omega) (by omega))), i0, i1, hT1 k (by omega), hT1 (k - 1) (by omega)]
        unfold bfo
        rw [if_neg z]
    have keep : isSt T k = false → (∀ K, l_X7_scan_7 1 (nI L) K (nI k, M1) = K (nI (k + 1), M1)) → ∃ s2 : Int32 × Mem, (s2.1 = nI (k + 1) ∧ s2.2 3 3 = nI (cnt T (k + 1)) ∧ TA T L (k + 1) s2.2 ∧ (∀ c, c ≠ 3 → c ≠ 4 → c ≠ 5 → c ≠ 6 → s2.2 c = M c)) ∧ ∀ K, l_X7_scan_7 1 (nI L) K (nI k, M1) = K s2 := by
      intro z hz
      refine ⟨(nI (k + 1), M1), ⟨rfl, ?_, ?_, F1⟩, hz⟩
      · show M1 3 3 = _
        rw [cnt_s, z, if_neg (by decide)]; exact C1
      · intro b hb hs
        by_cases y : b = k
        · have := hs (by omega)
          rw [y, z] at this; cases this
        · exact A1 b (by omega) hs
    have new : ∀ (v : Int32), isSt T k = true → (kd T L k = 28 → v = numF T k (rn isDg T L k - k)) → (∀ K, l_X7_scan_7 1 (nI L) K (nI k, M1) = bnd (f_X7_addToken (nI (kd T L k)) (nI k) v M1) (fun _ M2 => K (nI (k + 1), M2))) → ∃ s2 : Int32 × Mem, (s2.1 = nI (k + 1) ∧ s2.2 3 3 = nI (cnt T (k + 1)) ∧ TA T L (k + 1) s2.2 ∧ (∀ c, c ≠ 3 → c ≠ 4 → c ≠ 5 → c ≠ 6 → s2.2 c = M c)) ∧ ∀ K, l_X7_scan_7 1 (nI L) K (nI k, M1) = K s2 := by
      intro v z hv hz
      obtain ⟨M2, a1, a2, a3, a4, a5, a6, a7⟩ := x_addToken (nI (kd T L k)) (nI k) v C1 (by omega)
      refine ⟨(nI (k + 1), M2), ⟨rfl, ?_, ?_, fun c c3 c4 c5 c6 => ?_⟩, fun K => by rw [hz, a1, bnd_some]⟩
      · show M2 3 3 = _
        rw [cnt_s, z, if_pos rfl]; exact a2
      · intro b hb hs
        by_cases y : b = k
        · subst y
          exact ⟨a3, a4, fun q => by rw [← hv q]; exact a5⟩
        · exact (A1.of (fun j hj => a6 j (by omega)) (by omega)) b (by omega) hs
      · show M2 c = M c
        rw [a7 c c3 c4 c5 c6]; exact F1 c c3 c4 c5 c6
    by_cases hl : isLt (T k) = true
    · have es := isSt_lt hl
      have ek : kd T L k = kW T k (rn isLt T L k) := by
        unfold kd
        rw [if_neg (by omega), if_pos hl]
      by_cases hb : isLt (bfo T k) = true
      · refine keep (by rw [es, hb]; rfl) (fun K => ?_)
        rw [head]
        unfold j_X7_scan_31 j_X7_scan_104
        rw [if_neg (fun z => by rw [x7lt.mp z] at hl; cases hl), if_pos (fun z => by rw [x7lt.mp z] at hb; cases hb), nI_1]
      · refine new 0 (by rw [es, bF hb]; rfl) (fun q => ?_) (fun K => ?_)
        · rw [ek] at q
          rcases kW_lt T k (rn isLt T L k) with z | z <;> omega
        · rw [head]
          unfold j_X7_scan_31 j_X7_scan_104
          rw [if_neg (fun z => by rw [x7lt.mp z] at hl; cases hl), if_neg (fun z => z (x7lt.mpr (bF hb))), x_addWord hT1 hk hL, ek, nI_1]
    · have hl2 := bF hl
      by_cases hd : isDg (T k) = true
      · have es := isSt_dg hd
        have ek : kd T L k = if rn isDg T L k - k ≤ 6 then 28 else 33 := by
          unfold kd
          rw [if_neg (by omega), if_neg hl, if_pos hd]
        by_cases hb : isDg (bfo T k) = true
        · refine keep (by rw [es, hb]; rfl) (fun K => ?_)
          rw [head]
          unfold j_X7_scan_31 j_X7_scan_104
          rw [if_pos (x7lt.mpr hl2), if_neg (fun z => by rw [x7dg.mp z] at hd; cases hd), if_pos (fun z => by rw [x7dg.mp z] at hb; cases hb), nI_1]
        · refine new (numF T k (rn isDg T L k - k)) (by rw [es, bF hb]; rfl) (fun q => rfl) (fun K => ?_)
          rw [head]
          unfold j_X7_scan_31 j_X7_scan_104
          rw [if_pos (x7lt.mpr hl2), if_neg (fun z => by rw [x7dg.mp z] at hd; cases hd), if_neg (fun z => z (x7dg.mpr (bF hb))), x_addNumber hT1 hk hL, ek, nI_1]
      · have hd2 := bF hd
        have es := isSt_o hl2 hd2
        have ek : kd T L k = kSg (T k) := by
          unfold kd
          rw [if_neg (by omega), if_neg hl, if_neg hd]
        by_cases hb : isBl (T k) = true
        · refine keep (by rw [es, hb]; rfl) (fun K => ?_)
          rw [head]
          unfold j_X7_scan_31 j_X7_scan_104
          rw [if_pos (x7lt.mpr hl2), if_pos (x7dg.mpr hd2), if_pos (fun z => by rw [bl7.mp z] at hb; cases hb), nI_1]
        · refine new 0 (by rw [es, bF hb]; rfl) (fun q => ?_) (fun K => ?_)
          · rw [ek] at q
            unfold kSg at q
            split at q
            · omega
            · split at q
              · omega
              · split at q <;> omega
          · rw [head]
            unfold j_X7_scan_31 j_X7_scan_104
            rw [if_pos (x7lt.mpr hl2), if_pos (x7dg.mpr hd2), if_neg (fun z => z (bl7.mpr (bF hb))), sg7, ek, nI_1]
  · rintro ⟨y, M1⟩ ⟨hy, C1, A1, F1⟩
    have hy : y = nI L := hy
    subst hy
    have cl := cnt_le T L
    have A1 : TA T L L M1 := A1
    have F1 : ∀ c, c ≠ 3 → c ≠ 4 → c ≠ 5 → c ≠ 6 → M1 c = M c := F1
    obtain ⟨M2, a1, a2, a3, a4, a5, a6, a7⟩ := x_addToken 32 (nI L) 0 C1 (by omega)
    refine ⟨_, ⟨M2, rfl, ?_, fun c c3 c4 c5 c6 => by rw [a7 c c3 c4 c5 c6]; exact F1 c c3 c4 c5 c6⟩, fun K => ?_⟩
    · intro b hb hs
      have ek : kd T L L = 32 := if_pos (Nat.le_refl _)
      by_cases y : b = L
      · subst y
        rw [ek]
        exact ⟨a3, a4, fun q => by omega⟩
      · exact (A1.of (fun j hj => a6 j (by omega)) (Nat.le_refl _)) b (by omega) hs
    · simp only [l_X7_scan_7]
      rw [if_pos (nI_le (Nat.le_refl _) (by omega)), a1, bnd_some]
/-- the token behind the one at b -/
def nxT (T : Nat → Int32) (L b : Nat) : Nat := rn isBl T L (nxP T L b)
/-- no token begins strictly between a and c -/
theorem cnt_gap {T : Nat → Int32} {a c : Nat} (h : a ≤ c) (hn : ∀ k, a ≤ k → k < c → isSt T k = false) : cnt T c = cnt T a := by
  induction c with
  | zero => rw [show a = 0 by omega]
  | succ c ih =>
    by_cases z : a = c + 1
    · rw [z]
    · rw [cnt_s, hn c (by omega) (by omega), if_neg (by decide), ih (by omega) (fun k h1 h2 => hn k h1 (by omega))]
def STt (T : Nat → Int32) (L b : Nat) : Prop := b ≤ L ∧ (b < L → isSt T b = true)
theorem first_ok (T : Nat → Int32) (L : Nat) : STt T L (rn isBl T L 0) ∧ cnt T (rn isBl T L 0) = 0 := by
  obtain ⟨i1, i2, i3, i4⟩ := rn_spec isBl T L 0
  have i2 := i2 (Nat.zero_le _)
  have nb : ∀ k, 0 ≤ k → k < rn isBl T L 0 → isSt T k = false := fun k h1 h2 => by
    have := (i3 k h1 h2).2
    rw [isSt_o (bF (fun z => by rw [(lt_dg z).2] at this; cases this)) (bF (fun z => by rw [(dg_bl z).2] at this; cases this)), this]; rfl
  refine ⟨⟨i2, fun hL => ?_⟩, ?_⟩
  · have hb := i4 hL
    generalize hbe : rn isBl T L 0 = b at *
    -- what stands before is blank, or nothing
    have bb : isLt (bfo T b) = false ∧ isDg (bfo T b) = false := by
      unfold bfo
      by_cases z : b = 0
      · rw [if_pos z]; exact ⟨by decide, by decide⟩
      · rw [if_neg z]
        have := (i3 (b - 1) (by omega) (by omega)).2
        exact ⟨bF (fun y => by rw [(lt_dg y).2] at this; cases this), bF (fun y => by rw [(dg_bl y).2] at this; cases this)⟩
    by_cases hl : isLt (T b) = true
    · rw [isSt_lt hl, bb.1]; rfl
    · by_cases hd : isDg (T b) = true
      · rw [isSt_dg hd, bb.2]; rfl
      · rw [isSt_o (bF hl) (bF hd), hb]; rfl
  · exact cnt_gap (Nat.zero_le _) nb
theorem next_ok {T : Nat → Int32} {L b : Nat} (hb : b < L) (hs : isSt T b = true) : STt T L (nxT T L b) ∧ cnt T (nxT T L b) = cnt T b + 1 ∧ nxP T L b ≤ L := by
  -- the end of the token
  have en : b < nxP T L b ∧ nxP T L b ≤ L ∧ (∀ k, b + 1 ≤ k → k < nxP T L b → isSt T k = false) ∧ (nxP T L b < L → isLt (T (nxP T L b)) = true → isLt (T (nxP T L b - 1)) = false) ∧ (nxP T L b < L → isDg (T (nxP T L b)) = true → isDg (T (nxP T L b - 1)) = false) := by
    unfold nxP
    rw [if_neg (by omega)]
    by_cases hl : isLt (T b) = true
    · rw [if_pos hl]
      obtain ⟨i1, i2, i3, i4⟩ := rn_spec isLt T L b
      have i2 := i2 (by omega)
      have lt : b < rn isLt T L b := by
        apply Classical.byContradiction
        intro z
        have e : rn isLt T L b = b := by omega
        rw [e] at i4
        rw [i4 hb] at hl; cases hl
      refine ⟨lt, i2, fun k h1 h2 => ?_, (fun h1 h2 => by rw [i4 h1] at h2; cases h2), (fun h1 h2 => (lt_dg (i3 (rn isLt T L b - 1) (by omega) (by omega)).2).1)⟩
      have q1 := (i3 k (by omega) h2).2
      have q2 := (i3 (k - 1) (by omega) (by omega)).2
      rw [isSt_lt q1]
      unfold bfo
      rw [if_neg (by omega), q2]; rfl
    · rw [if_neg hl]
      by_cases hd : isDg (T b) = true
      · rw [if_pos hd]
        obtain ⟨i1, i2, i3, i4⟩ := rn_spec isDg T L b
        have i2 := i2 (by omega)
        have lt : b < rn isDg T L b := by
          apply Classical.byContradiction
          intro z
          have e : rn isDg T L b = b := by omega
          rw [e] at i4
          rw [i4 hb] at hd; cases hd
        refine ⟨lt, i2, fun k h1 h2 => ?_, (fun h1 h2 => (dg_bl (i3 (rn isDg T L b - 1) (by omega) (by omega)).2).1), (fun h1 h2 => by rw [i4 h1] at h2; cases h2)⟩
        have q1 := (i3 k (by omega) h2).2
        have q2 := (i3 (k - 1) (by omega) (by omega)).2
        rw [isSt_dg q1]
        unfold bfo
        rw [if_neg (by omega), q2]; rfl
      · rw [if_neg hd]
        exact ⟨by omega, by omega, fun k h1 h2 => by omega, fun _ _ => by rw [show b + 1 - 1 = b by omega]; exact bF hl, fun _ _ => by rw [show b + 1 - 1 = b by omega]; exact bF hd⟩
  obtain ⟨e1, e2, e3, e4, e5⟩ := en
  unfold nxT
  generalize nxP T L b = e at *
  obtain ⟨i1, i2, i3, i4⟩ := rn_spec isBl T L e
  have i2 := i2 e2
  have nb : ∀ k, e ≤ k → k < rn isBl T L e → isSt T k = false := fun k h1 h2 => by
    have := (i3 k h1 h2).2
    rw [isSt_o (bF (fun z => by rw [(lt_dg z).2] at this; cases this)) (bF (fun z => by rw [(dg_bl z).2] at this; cases this)), this]; rfl
  refine ⟨⟨i2, fun hL => ?_⟩, ?_, e2⟩
  · have hbl := i4 hL
    generalize hse : rn isBl T L e = s at *
    by_cases hl : isLt (T s) = true
    · rw [isSt_lt hl]
      unfold bfo
      rw [if_neg (by omega)]
      by_cases z : s = e
      · rw [z, e4 (by omega) (by rw [← z]; exact hl)]; rfl
      · have := (i3 (s - 1) (by omega) (by omega)).2
        rw [show isLt (T (s - 1)) = false from bF (fun y => by rw [(lt_dg y).2] at this; cases this)]; rfl
    · by_cases hd : isDg (T s) = true
      · rw [isSt_dg hd]
        unfold bfo
        rw [if_neg (by omega)]
        by_cases z : s = e
        · rw [z, e5 (by omega) (by rw [← z]; exact hd)]; rfl
        · have := (i3 (s - 1) (by omega) (by omega)).2
          rw [show isDg (T (s - 1)) = false from bF (fun y => by rw [(dg_bl y).2] at this; cases this)]; rfl
      · rw [isSt_o (bF hl) (bF hd), hbl]; rfl
  · rw [cnt_gap (a := b + 1) (by omega) (fun k h1 h2 => by
      by_cases z : k < e
      · exact e3 k h1 z
      · exact nb k (by omega) h2), cnt_s, hs, if_pos rfl]
