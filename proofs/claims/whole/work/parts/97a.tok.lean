/-! ===== tokens: the reference reads them one by one ===== -/
def isLt (x : Int32) : Bool := decide (97 ≤ x) && decide (x ≤ 122)
def isDg (x : Int32) : Bool := decide (48 ≤ x) && decide (x ≤ 57)
def isBl (x : Int32) : Bool := decide (x = 10) || decide (x = 32)
theorem lt_if (x : Int32) : (if x < 97 then (0 : Int32) else if 122 < x then (0 : Int32) else (1 : Int32)) = if isLt x = true then 1 else 0 := by
  unfold isLt
  by_cases h1 : x < 97
  · rw [if_pos h1, if_neg]
    rw [decide_eq_false (fun z => (i32_nlt.mpr z) h1), Bool.false_and]; decide
  · rw [if_neg h1, decide_eq_true (i32_nlt.mp h1), Bool.true_and]
    by_cases h2 : 122 < x
    · rw [if_pos h2, if_neg]
      rw [decide_eq_false (fun z => (i32_nlt.mpr z) h2)]; decide
    · rw [if_neg h2, decide_eq_true (i32_nlt.mp h2), if_pos rfl]
theorem dg_if (x : Int32) : (if x < 48 then (0 : Int32) else if 57 < x then (0 : Int32) else (1 : Int32)) = if isDg x = true then 1 else 0 := by
  unfold isDg
  by_cases h1 : x < 48
  · rw [if_pos h1, if_neg]
    rw [decide_eq_false (fun z => (i32_nlt.mpr z) h1), Bool.false_and]; decide
  · rw [if_neg h1, decide_eq_true (i32_nlt.mp h1), Bool.true_and]
    by_cases h2 : 57 < x
    · rw [if_pos h2, if_neg]
      rw [decide_eq_false (fun z => (i32_nlt.mpr z) h2)]; decide
    · rw [if_neg h2, decide_eq_true (i32_nlt.mp h2), if_pos rfl]
theorem lt0 {x : Int32} : ((if isLt x = true then (1 : Int32) else 0) = 0) ↔ isLt x = false := by
  cases h : isLt x <;> simp
theorem dg0 {x : Int32} : ((if isDg x = true then (1 : Int32) else 0) = 0) ↔ isDg x = false := by
  cases h : isDg x <;> simp
theorem x7lt {x : Int32} : (p_X7_isLetter x = 0) ↔ isLt x = false := by unfold p_X7_isLetter; rw [lt_if]; exact lt0
theorem x7dg {x : Int32} : (p_X7_isDigit x = 0) ↔ isDg x = false := by unfold p_X7_isDigit; rw [dg_if]; exact dg0
theorem xAlt {x : Int32} : (p_X10_isLetter x = 0) ↔ isLt x = false := by unfold p_X10_isLetter; rw [lt_if]; exact lt0
theorem xAdg {x : Int32} : (p_X10_isDigit x = 0) ↔ isDg x = false := by unfold p_X10_isDigit; rw [dg_if]; exact dg0
theorem lt_dg {x : Int32} (h : isLt x = true) : isDg x = false ∧ isBl x = false := by
  unfold isLt at h
  rw [Bool.and_eq_true] at h
  have h1 := of_decide_eq_true h.1
  constructor
  · unfold isDg
    rw [decide_eq_false (p := x ≤ 57) (fun z => absurd (Int32.le_trans h1 z) (by decide)), Bool.and_false]
  · unfold isBl
    rw [decide_eq_false (p := x = 10) (fun z => by rw [z] at h1; exact absurd h1 (by decide)), decide_eq_false (p := x = 32) (fun z => by rw [z] at h1; exact absurd h1 (by decide))]
    rfl
theorem dg_bl {x : Int32} (h : isDg x = true) : isLt x = false ∧ isBl x = false := by
  unfold isDg at h
  rw [Bool.and_eq_true] at h
  have h1 := of_decide_eq_true h.1
  have h2 := of_decide_eq_true h.2
  constructor
  · unfold isLt
    rw [decide_eq_false (p := 97 ≤ x) (fun z => absurd (Int32.le_trans z h2) (by decide)), Bool.false_and]
  · unfold isBl
    rw [decide_eq_false (p := x = 10) (fun z => by rw [z] at h1; exact absurd h1 (by decide)), decide_eq_false (p := x = 32) (fun z => by rw [z] at h1; exact absurd h1 (by decide))]
    rfl
/-- the end of a run -/
def rE (P : Int32 → Bool) (T : Nat → Int32) (L : Nat) : Nat → Nat → Nat
  | 0, b => b
  | n + 1, b => if b < L ∧ P (T b) = true then rE P T L n (b + 1) else b
def rn (P : Int32 → Bool) (T : Nat → Int32) (L b : Nat) : Nat := rE P T L (L - b) b
theorem rn_spec (P : Int32 → Bool) (T : Nat → Int32) (L b : Nat) : b ≤ rn P T L b ∧ (b ≤ L → rn P T L b ≤ L) ∧ (∀ k, b ≤ k → k < rn P T L b → k < L ∧ P (T k) = true) ∧ (rn P T L b < L → P (T (rn P T L b)) = false) := by
  unfold rn
  have key : ∀ n b, L - b ≤ n → b ≤ rE P T L n b ∧ (b ≤ L → rE P T L n b ≤ L) ∧ (∀ k, b ≤ k → k < rE P T L n b → k < L ∧ P (T k) = true) ∧ (rE P T L n b < L → P (T (rE P T L n b)) = false) := by
    intro n
    induction n with
    | zero =>
      intro b hb
      have e : rE P T L 0 b = b := rfl
      rw [e]
      exact ⟨Nat.le_refl _, fun h => h, fun k h1 h2 => by omega, fun h => by omega⟩
    | succ n ih =>
      intro b hb
      have e : rE P T L (n + 1) b = if b < L ∧ P (T b) = true then rE P T L n (b + 1) else b := rfl
      rw [e]
      by_cases q : b < L ∧ P (T b) = true
      · rw [if_pos q]
        obtain ⟨i1, i2, i3, i4⟩ := ih (b + 1) (by omega)
        refine ⟨by omega, fun h => i2 (by omega), fun k h1 h2 => ?_, i4⟩
        by_cases z : k = b
        · rw [z]; exact q
        · exact i3 k (by omega) h2
      · rw [if_neg q]
        refine ⟨Nat.le_refl _, fun h => h, fun k h1 h2 => by omega, fun h => ?_⟩
        cases z : P (T b) with
        | false => rfl
        | true => exact absurd ⟨h, z⟩ q
  exact key (L - b) b (Nat.le_refl _)
/-- a run whose end is known -/
theorem rn_eq {P : Int32 → Bool} {T : Nat → Int32} {L b e : Nat} (h1 : b ≤ e) (h2 : ∀ k, b ≤ k → k < e → k < L ∧ P (T k) = true) (h3 : e < L → P (T e) = false) (h4 : e ≤ L) : rn P T L b = e := by
  obtain ⟨i1, i2, i3, i4⟩ := rn_spec P T L b
  have i2 := i2 (by omega)
  rcases Nat.lt_trichotomy (rn P T L b) e with z | z | z
  · have := (h2 _ i1 z).2
    rw [i4 (by omega)] at this; cases this
  · exact z
  · have := i3 e h1 z
    rw [h3 this.1] at this; cases this.2
def nxP (T : Nat → Int32) (L b : Nat) : Nat := if L ≤ b then b else if isLt (T b) = true then rn isLt T L b else if isDg (T b) = true then rn isDg T L b else b + 1
def isSg (x : Int32) : Bool := decide (x = 58) || decide (x = 59) || decide (x = 45)
def srt (T : Nat → Int32) (L b : Nat) : Nat := if L ≤ b then 0 else if isLt (T b) = true then 1 else if isDg (T b) = true then (if rn isDg T L b - b ≤ 6 then 2 else 4) else if isSg (T b) = true then 3 else 4
def numF (T : Nat → Int32) (b n : Nat) : Int32 := foldN (fun i v => v * 10 + T (b + i) - 48) n 0
/-- the reference stands at the token that begins at b -/
def TK (T : Nat → Int32) (L b : Nat) (M : Mem) : Prop := M 0 10 = nI (nxP T L b) ∧ M 0 11 = nI b ∧ M 0 12 = nI (srt T L b) ∧ (srt T L b = 2 → M 0 13 = numF T b (rn isDg T L b - b)) ∧ (srt T L b = 3 → M 0 13 = T b)
def TXT (T : Nat → Int32) (L : Nat) (M : Mem) : Prop := M 0 9 = nI L ∧ L ≤ 900 ∧ (∀ i, i < 900 → M 7 i = T i) ∧ ∀ i, i < 900 → ∃ y, y < 256 ∧ T i = nI y
theorem TXT.of {T : Nat → Int32} {L : Nat} {M M2 : Mem} (h : TXT T L M) (e9 : M2 0 9 = M 0 9) (e7 : M2 7 = M 7) : TXT T L M2 := by
  unfold TXT
  rw [e9, e7]
  exact h
theorem m_at {T : Nat → Int32} {L k : Nat} {M : Mem} (h : TXT T L M) (hk : k < 2147483648) : f_X10_at (nI k) M = some ((if k < L then T k else -1), M) := by
  obtain ⟨h1, h2, h3, h4⟩ := h
  unfold f_X10_at j_X10_at_18
  rw [h1]
  by_cases q : k < L
  · rw [if_neg (nI_ge q (by omega)), if_pos (of_eq_true (inb_T (by first | omega | (unfold wdP; omega) | (unfold lnP; omega) | (unfold cl; omega)) (by omega))), ix_nI (by omega), h3 k (by omega), if_pos q]
  · rw [if_pos (nI_le (by omega) hk), if_neg q]
/-- loops over the memory alone -/
theorem loopM_run {body : (Mem → Option (Int32 × Mem)) → Mem → Option (Int32 × Mem)} (n : Nat) (s : Nat → Mem) {init : Mem} {r : Option (Int32 × Mem)} (hs : init = s 0) (hn : n < 9999) (h : ∀ i, i < n → ∀ K : Mem → Option (Int32 × Mem), body K (s i) = K (s (i + 1))) (hx : ∀ K : Mem → Option (Int32 × Mem), body K (s n) = r) : loopC body fuelL init = r := loop_run n s hs hn h hx
theorem m_word76 {T : Nat → Int32} {L b : Nat} {M : Mem} (h : TXT T L M) (hb : b ≤ L) (h10 : M 0 10 = nI b) : loopC l_X10_token_76 fuelL M = some (0, up (up M 0 10 (nI (rn isLt T L b))) 0 12 1) := by
  obtain ⟨i1, i2, i3, i4⟩ := rn_spec isLt T L b
  have i2 := i2 hb
  have hL := h.2.1
  have g : ∀ x, TXT T L (up M 0 10 x) := fun x => h.of (up_i _ _ (by decide)) (up_a _ _ _ (by decide))
  refine loop_run (rn isLt T L b - b) (fun i => up M 0 10 (nI (b + i))) (by show M = up M 0 10 (nI (b + 0)); exact (up_same (by rw [Nat.add_zero]; exact h10)).symm) (by omega) (fun i hi K => ?_) (fun K => ?_)
  · have hk := i3 (b + i) (by omega) (by omega)
    simp only [l_X10_token_76]
    rw [up_eq, m_at (g _) (by omega), bnd_some, if_pos hk.1, if_neg (fun z => by rw [xAlt.mp z] at hk; cases hk.2), wrt_def, up_eq, up_up, nI_1, Nat.add_assoc]
  · simp only [l_X10_token_76]
    have e : b + (rn isLt T L b - b) = rn isLt T L b := by omega
    rw [up_eq, m_at (g _) (by omega), bnd_some, e]
    have z : p_X10_isLetter (if rn isLt T L b < L then T (rn isLt T L b) else -1) = 0 := by
      by_cases q : rn isLt T L b < L
      · rw [if_pos q]; exact xAlt.mpr (i4 q)
      · rw [if_neg q]; decide
    rw [if_pos z, wrt_def]
    rfl
theorem m_num123 {T : Nat → Int32} {L b : Nat} {M : Mem} (h : TXT T L M) (hb : b ≤ L) (h10 : M 0 10 = nI b) (h11 : M 0 11 = nI b) (h13 : M 0 13 = 0) : ∃ v, loopC l_X10_token_123 fuelL M = some (0, up (up (up M 0 10 (nI (rn isDg T L b))) 0 13 v) 0 12 (if rn isDg T L b - b ≤ 6 then 2 else 4)) ∧ (rn isDg T L b - b ≤ 6 → v = numF T b (rn isDg T L b - b)) := by
  obtain ⟨i1, i2, i3, i4⟩ := rn_spec isDg T L b
  have i2 := i2 hb
  have hL := h.2.1
  refine ⟨numF T b (min 6 (rn isDg T L b - b)), ?_, fun q => by rw [Nat.min_eq_right q]⟩
  have g : ∀ x y, TXT T L (up (up M 0 10 x) 0 13 y) := fun x y => h.of (by rw [up_i _ _ (by decide), up_i _ _ (by decide)]) (by rw [up_a _ _ _ (by decide), up_a _ _ _ (by decide)])
  have v10 : ∀ x y, (up (up M 0 10 x) 0 13 y) 0 10 = x := fun x y => by rw [up_i _ _ (by decide), up_eq]
  have v11 : ∀ x y, (up (up M 0 10 x) 0 13 y) 0 11 = nI b := fun x y => by rw [up_i _ _ (by decide), up_i _ _ (by decide)]; exact h11
  have sw : ∀ x y z, up (up (up M 0 10 x) 0 13 y) 0 10 z = up (up M 0 10 z) 0 13 y := by
    intro x y z
    simp only [up_as, upA_upA, upA_eq]
    refine congrArg (fun q => upA M 0 q) ?_
    funext j
    by_cases j1 : j = 10
    · rw [j1, upd_eq, upd_ne _ _ (by decide), upd_eq]
    · by_cases j2 : j = 13
      · rw [j2, upd_ne _ _ (by decide), upd_eq, upd_eq]
      · rw [upd_ne _ _ j1, upd_ne _ _ j2, upd_ne _ _ j1, upd_ne _ _ j2, upd_ne _ _ j1]
  refine loop_run (rn isDg T L b - b) (fun i => up (up M 0 10 (nI (b + i))) 0 13 (numF T b (min 6 i))) ?_ (by omega) (fun i hi K => ?_) (fun K => ?_)
  · show M = up (up M 0 10 (nI (b + 0))) 0 13 (numF T b (min 6 0))
    rw [Nat.add_zero, up_same h10]
    exact (up_same h13).symm
  · have hk := i3 (b + i) (by omega) (by omega)
    simp only [l_X10_token_123, j_X10_token_174]
    rw [v10, m_at (g _ _) (by omega), bnd_some, if_pos hk.1, if_neg (fun z => by rw [xAdg.mp z] at hk; cases hk.2), v10, v11, ss (by omega), show b + i - b = i by omega]
    by_cases q : i < 6
    · rw [if_neg (show ¬ (6 : Int32) ≤ nI i from nI_ge (b := 6) q (by omega)), m_at (g _ _) (by omega), bnd_some, if_pos hk.1, wrt_def, wrt_def, up_eq, up_up]
      have e13 : (up (up M 0 10 (nI (b + i))) 0 13 (10 * numF T b (min 6 i) + T (b + i) - 48)) 0 10 = nI (b + i) := v10 _ _
      rw [e13, nI_1, sw, Nat.add_assoc]
      have en : 10 * numF T b (min 6 i) + T (b + i) - 48 = numF T b (min 6 (i + 1)) := by
        rw [Nat.min_eq_right (by omega), Nat.min_eq_right (by omega)]
        unfold numF
        rw [foldN_s, Int32.mul_comm]
      rw [en]
    · rw [if_pos (show (6 : Int32) ≤ nI i from nI_le (a := 6) (by omega) (by omega)), wrt_def, nI_1, sw, Nat.add_assoc, Nat.min_eq_left (by omega), Nat.min_eq_left (by omega)]
  · have e : b + (rn isDg T L b - b) = rn isDg T L b := by omega
    simp only [l_X10_token_123]
    rw [v10, m_at (g _ _) (by omega), bnd_some, e, v10, v11, ss (by omega)]
    have z : p_X10_isDigit (if rn isDg T L b < L then T (rn isDg T L b) else -1) = 0 := by
      by_cases q : rn isDg T L b < L
      · rw [if_pos q]; exact xAdg.mpr (i4 q)
      · rw [if_neg q]; decide
    rw [if_pos z, wrt_def]
    unfold j_X10_token_255
    by_cases q : rn isDg T L b - b ≤ 6
    · rw [if_pos (show nI (rn isDg T L b - b) ≤ 6 from nI_le (b := 6) q (by omega)), if_pos q]
    · rw [if_neg (show ¬ nI (rn isDg T L b - b) ≤ 6 from nI_ge (a := 6) (by omega) (by omega)), if_neg q]
theorem bl_ne {x : Int32} : isBl x = false ↔ ¬ x = 10 ∧ ¬ x = 32 := by
  unfold isBl
  rw [Bool.or_eq_false_iff, decide_eq_false_iff_not, decide_eq_false_iff_not]
theorem byte_m1 {x : Int32} (h : ∃ y, y < 256 ∧ x = nI y) : ¬ x = -1 := by
  obtain ⟨y, hy, rfl⟩ := h
  exact ne_m1 (by omega)
theorem m_token {T : Nat → Int32} {L pos : Nat} {M : Mem} (h : TXT T L M) (hp : pos ≤ L) (h10 : M 0 10 = nI pos) : ∃ M2, f_X10_token M = some (0, M2) ∧ TK T L (rn isBl T L pos) M2 ∧ (∀ c, c ≠ 0 → M2 c = M c) ∧ (∀ j, j < 10 ∨ 13 < j → M2 0 j = M 0 j) := by
  obtain ⟨i1, i2, i3, i4⟩ := rn_spec isBl T L pos
  have i2 := i2 hp
  have hL := h.2.1
  generalize hb : rn isBl T L pos = b at *
  have g : ∀ x, TXT T L (up M 0 10 x) := fun x => h.of (up_i _ _ (by decide)) (up_a _ _ _ (by decide))
  unfold f_X10_token
  -- what is done at the token
  have fin : ∃ M2, (∀ K, l_X10_token_0 K (up M 0 10 (nI b)) = some (0, M2)) ∧ TK T L b M2 ∧ (∀ c, c ≠ 0 → M2 c = M c) ∧ (∀ j, j < 10 ∨ 13 < j → M2 0 j = M 0 j) := by
    have gb : TXT T L (up (up M 0 10 (nI b)) 0 11 (nI b)) := (g _).of (up_i _ _ (by decide)) (up_a _ _ _ (by decide))
    have w10 : (up (up M 0 10 (nI b)) 0 11 (nI b)) 0 10 = nI b := by rw [up_i _ _ (by decide), up_eq]
    have w11 : (up (up M 0 10 (nI b)) 0 11 (nI b)) 0 11 = nI b := up_eq _ _ _ _
    have wc : ∀ c, c ≠ 0 → (up (up M 0 10 (nI b)) 0 11 (nI b)) c = M c := fun c hc => by rw [up_a _ _ _ hc, up_a _ _ _ hc]
    have wj : ∀ j, j < 10 ∨ 13 < j → (up (up M 0 10 (nI b)) 0 11 (nI b)) 0 j = M 0 j := fun j hj => by rw [up_i _ _ (by omega), up_i _ _ (by omega)]
    by_cases hbL : b < L
    · have hbl := bl_ne.mp (i4 hbL)
      have hnm := byte_m1 (h.2.2.2 b (by omega))
      have head : ∀ K, l_X10_token_0 K (up M 0 10 (nI b)) = (if (p_X10_isLetter (T b)) = 0 then if (p_X10_isDigit (T b)) = 0 then wrt (up (up (up M 0 10 (nI b)) 0 11 (nI b)) 0 10 (nI b + 1)) (fun M14 => wrt (up M14 0 13 (T b)) (fun M15 => wrt (up M15 0 12 (if T b = 58 then (3 : Int32) else if T b = 59 then (3 : Int32) else if ¬ T b = 45 then (4 : Int32) else (3 : Int32))) (fun M17 => j_X10_token_255 M17))) else wrt (up (up (up M 0 10 (nI b)) 0 11 (nI b)) 0 13 0) (fun M21 => loopC (l_X10_token_123) fuelL M21) else loopC (l_X10_token_76) fuelL (up (up M 0 10 (nI b)) 0 11 (nI b))) := by
        intro K
        simp only [l_X10_token_0]
        rw [up_eq, m_at (g _) (by omega), bnd_some, if_pos hbL, if_neg hbl.1, up_eq, m_at (g _) (by omega), bnd_some, if_pos hbL, if_pos hbl.2, up_eq, wrt_def, w10, m_at gb (by omega), bnd_some, if_pos hbL, if_pos hnm, w10]
      by_cases hl : isLt (T b) = true
      · have e76 := m_word76 gb (by omega) w10
        refine ⟨_, fun K => by rw [head, if_neg (fun z => by rw [xAlt.mp z] at hl; cases hl), e76], ⟨?_, ?_, ?_, ?_, ?_⟩, fun c hc => ?_, fun j hj => ?_⟩
        · rw [up_i _ _ (by decide), up_eq]
          unfold nxP
          rw [if_neg (by omega), if_pos hl]
        · rw [up_i _ _ (by decide), up_i _ _ (by decide)]; exact w11
        · rw [up_eq]
          unfold srt
          rw [if_neg (by omega), if_pos hl]
          rfl
        · intro z
          unfold srt at z
          rw [if_neg (by omega), if_pos hl] at z
          omega
        · intro z
          unfold srt at z
          rw [if_neg (by omega), if_pos hl] at z
          omega
        · rw [up_a _ _ _ hc, up_a _ _ _ hc]; exact wc c hc
        · rw [up_i _ _ (by omega), up_i _ _ (by omega)]; exact wj j hj
      · have hl2 : isLt (T b) = false := by cases z : isLt (T b) with
          | false => rfl
          | true => exact absurd z hl
        by_cases hd : isDg (T b) = true
        · obtain ⟨v, e123, hv⟩ := m_num123 (M := up (up (up M 0 10 (nI b)) 0 11 (nI b)) 0 13 0) (b := b) (gb.of (up_i _ _ (by decide)) (up_a _ _ _ (by decide))) (by omega) (by rw [up_i _ _ (by decide)]; exact w10) (by rw [up_i _ _ (by decide)]; exact w11) (up_eq _ _ _ _)
          have es : srt T L b = if rn isDg T L b - b ≤ 6 then 2 else 4 := by
            unfold srt
            rw [if_neg (by omega), if_neg hl, if_pos hd]
          refine ⟨_, fun K => by rw [head, if_pos (xAlt.mpr hl2), if_neg (fun z => by rw [xAdg.mp z] at hd; cases hd), wrt_def, e123], ⟨?_, ?_, ?_, ?_, ?_⟩, fun c hc => ?_, fun j hj => ?_⟩
          · rw [up_i _ _ (by decide), up_i _ _ (by decide), up_eq]
            unfold nxP
            rw [if_neg (by omega), if_neg hl, if_pos hd]
          · rw [up_i _ _ (by decide), up_i _ _ (by decide), up_i _ _ (by decide), up_i _ _ (by decide)]; exact w11
          · rw [up_eq, es]
            split <;> rfl
          · intro z
            rw [es] at z
            rw [up_i _ _ (by decide), up_eq]
            refine hv ?_
            by_cases y : rn isDg T L b - b ≤ 6
            · exact y
            · rw [if_neg y] at z; omega
          · intro z
            rw [es] at z
            split at z <;> omega
          · rw [up_a _ _ _ hc, up_a _ _ _ hc, up_a _ _ _ hc, up_a _ _ _ hc]; exact wc c hc
          · rw [up_i _ _ (by omega), up_i _ _ (by omega), up_i _ _ (by omega), up_i _ _ (by omega)]; exact wj j hj
        · have hd2 : isDg (T b) = false := by cases z : isDg (T b) with
            | false => rfl
            | true => exact absurd z hd
          have es : srt T L b = if isSg (T b) = true then 3 else 4 := by
            unfold srt
            rw [if_neg (by omega), if_neg hl, if_neg hd]
          have ec : (if T b = 58 then (3 : Int32) else if T b = 59 then (3 : Int32) else if ¬ T b = 45 then (4 : Int32) else (3 : Int32)) = nI (srt T L b) := by
            rw [es]
            unfold isSg
            by_cases z1 : T b = 58
            · rw [if_pos z1, decide_eq_true z1, Bool.true_or, Bool.true_or, if_pos rfl]; rfl
            · rw [if_neg z1, decide_eq_false z1, Bool.false_or]
              by_cases z2 : T b = 59
              · rw [if_pos z2, decide_eq_true z2, Bool.true_or, if_pos rfl]; rfl
              · rw [if_neg z2, decide_eq_false z2, Bool.false_or]
                by_cases z3 : T b = 45
                · rw [if_neg (fun y => y z3), decide_eq_true z3, if_pos rfl]; rfl
                · rw [if_pos z3, decide_eq_false z3, if_neg (by decide)]; rfl
          refine ⟨_, fun K => by rw [head, if_pos (xAlt.mpr hl2), if_pos (xAdg.mpr hd2), wrt_def, wrt_def, wrt_def]; rfl, ⟨?_, ?_, ?_, ?_, ?_⟩, fun c hc => ?_, fun j hj => ?_⟩
          · rw [up_i _ _ (by decide), up_i _ _ (by decide), up_eq]
            unfold nxP
            rw [if_neg (by omega), if_neg hl, if_neg hd, nI_1]
          · rw [up_i _ _ (by decide), up_i _ _ (by decide), up_i _ _ (by decide)]; exact w11
          · rw [up_eq, ec]
          · intro z
            rw [es] at z
            split at z <;> omega
          · intro _
            rw [up_i _ _ (by decide), up_eq]
          · rw [up_a _ _ _ hc, up_a _ _ _ hc, up_a _ _ _ hc]; exact wc c hc
          · rw [up_i _ _ (by omega), up_i _ _ (by omega), up_i _ _ (by omega)]; exact wj j hj
    · have es : srt T L b = 0 := if_pos (by omega)
      refine ⟨up (up (up M 0 10 (nI b)) 0 11 (nI b)) 0 12 0, fun K => ?_, ⟨?_, ?_, ?_, ?_, ?_⟩, fun c hc => ?_, fun j hj => ?_⟩
      · simp only [l_X10_token_0]
        rw [up_eq, m_at (g _) (by omega), bnd_some, if_neg hbL, if_neg (by decide), up_eq, m_at (g _) (by omega), bnd_some, if_neg hbL, if_pos (by decide), up_eq, wrt_def, w10, m_at gb (by omega), bnd_some, if_neg hbL, if_neg (fun z => z rfl), wrt_def]
        rfl
      · rw [up_i _ _ (by decide), w10]
        unfold nxP
        rw [if_pos (by omega)]
      · rw [up_i _ _ (by decide)]; exact w11
      · rw [up_eq, es]; rfl
      · intro z; omega
      · intro z; omega
      · rw [up_a _ _ _ hc]; exact wc c hc
      · rw [up_i _ _ (by omega)]; exact wj j hj
  obtain ⟨M2, f1, f2, f3, f4⟩ := fin
  refine ⟨M2, ?_, f2, f3, f4⟩
  refine loop_run (b - pos) (fun i => up M 0 10 (nI (pos + i))) (by show M = up M 0 10 (nI (pos + 0)); exact (up_same (by rw [Nat.add_zero]; exact h10)).symm) (by omega) (fun i hi K => ?_) (fun K => by rw [show pos + (b - pos) = b by omega]; exact f1 K)
  have hk := i3 (pos + i) (by omega) (by omega)
  have hbl := hk.2
  simp only [l_X10_token_0, j_X10_token_26]
  rw [up_eq, m_at (g _) (by omega), bnd_some, if_pos hk.1]
  by_cases z : T (pos + i) = 10
  · rw [if_pos z, wrt_def, up_eq, up_up, nI_1, Nat.add_assoc]
  · have z2 : T (pos + i) = 32 := by
      unfold isBl at hbl
      rw [decide_eq_false z, Bool.false_or] at hbl
      exact of_decide_eq_true hbl
    rw [if_neg z, up_eq, m_at (g _) (by omega), bnd_some, if_pos hk.1, if_neg (fun y => y z2), wrt_def, up_eq, up_up, nI_1, Nat.add_assoc]
