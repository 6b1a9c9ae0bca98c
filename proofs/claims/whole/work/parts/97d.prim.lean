/-! ===== the parsers' small steps, side by side ===== -/
def bsP (T : Nat → Int32) (L pr : Nat) (Mx Mm : Mem) : Prop := TA T L (L + 1) Mx ∧ TXT T L Mm ∧ Mx 2 1 = nI pr
def OKb (T : Nat → Int32) (L pr b : Nat) (Mx Mm : Mem) : Prop := bsP T L pr Mx Mm ∧ Mx 2 5 = 0 ∧ Mm 0 14 = 0 ∧ Mx 2 6 = -1 ∧ Mm 0 15 = -1 ∧ STt T L b ∧ Mx 2 2 = nI (cnt T b) ∧ Mx 2 3 = nI (kd T L b) ∧ Mx 2 4 = nI b ∧ TK T L b Mm
def ERe (T : Nat → Int32) (L pr : Nat) (Mx Mm : Mem) : Prop := bsP T L pr Mx Mm ∧ ¬ Mx 2 5 = 0 ∧ Mx 2 5 = Mm 0 14 ∧ Mx 2 6 = Mm 0 15 ∧ ∃ k, k < 901 ∧ Mx 2 2 = nI k
def PS (T : Nat → Int32) (L pr : Nat) (Mx Mm : Mem) : Prop := (∃ b, OKb T L pr b Mx Mm) ∨ ERe T L pr Mx Mm
def FrP (Mx Mx2 : Mem) : Prop := ∀ c, c ≠ 2 → Mx2 c = Mx c
def FrQ (Mm Mm2 : Mem) : Prop := (∀ c, c ≠ 0 → Mm2 c = Mm c) ∧ (∀ j, j < 10 ∨ 15 < j → Mm2 0 j = Mm 0 j)
theorem FrP.refl (M : Mem) : FrP M M := fun _ _ => rfl
theorem FrQ.refl (M : Mem) : FrQ M M := ⟨fun _ _ => rfl, fun _ _ => rfl⟩
theorem FrP.trans {A B C : Mem} (h : FrP A B) (g : FrP B C) : FrP A C := fun c hc => (g c hc).trans (h c hc)
theorem FrQ.trans {A B C : Mem} (h : FrQ A B) (g : FrQ B C) : FrQ A C := ⟨fun c hc => (g.1 c hc).trans (h.1 c hc), fun j hj => (g.2 j hj).trans (h.2 j hj)⟩
theorem bsP.of {T : Nat → Int32} {L pr : Nat} {Mx Mm Mx2 Mm2 : Mem} (h : bsP T L pr Mx Mm) (e : ∀ c, c = 4 ∨ c = 5 ∨ c = 6 → Mx2 c = Mx c) (e1 : Mx2 2 1 = Mx 2 1) (f9 : Mm2 0 9 = Mm 0 9) (f7 : Mm2 7 = Mm 7) : bsP T L pr Mx2 Mm2 := by
  refine ⟨fun b hb hs => ?_, h.2.1.of f9 f7, by rw [e1]; exact h.2.2⟩
  rw [e 4 (by omega), e 5 (by omega), e 6 (by omega)]
  exact h.1 b hb hs
theorem PS.of {T : Nat → Int32} {L pr : Nat} {Mx Mm Mx2 Mm2 : Mem} (h : PS T L pr Mx Mm) (e : ∀ c, c = 2 ∨ c = 4 ∨ c = 5 ∨ c = 6 → Mx2 c = Mx c) (f : ∀ c, c = 0 ∨ c = 7 → Mm2 c = Mm c) : PS T L pr Mx2 Mm2 := by
  have e2 : Mx2 2 = Mx 2 := e 2 (by omega)
  have f0 : Mm2 0 = Mm 0 := f 0 (by omega)
  have bs : bsP T L pr Mx Mm → bsP T L pr Mx2 Mm2 := fun q => q.of (fun c hc => e c (by omega)) (by rw [e2]) (by rw [f0]) (f 7 (by omega))
  rcases h with ⟨b, h⟩ | h
  · left
    refine ⟨b, bs h.1, ?_⟩
    unfold TK
    rw [e2, f0]
    exact h.2
  · right
    refine ⟨bs h.1, ?_⟩
    rw [e2, f0]
    exact h.2
theorem PS.ps {T : Nat → Int32} {L pr : Nat} {Mx Mm : Mem} (h : PS T L pr Mx Mm) : bsP T L pr Mx Mm ∧ Mx 2 5 = Mm 0 14 ∧ Mx 2 6 = Mm 0 15 ∧ ∃ k, k < 901 ∧ Mx 2 2 = nI k := by
  rcases h with ⟨b, h⟩ | h
  · obtain ⟨h1, h2, h3, h4, h5, h6, h7, -⟩ := h
    have c1 := cnt_le T b
    have l9 := h1.2.1.2.1
    exact ⟨h1, by rw [h2, h3], by rw [h4, h5], cnt T b, by have := h6.1; omega, h7⟩
  · obtain ⟨h1, h2, h3, h4, h5⟩ := h
    exact ⟨h1, h3, h4, h5⟩
section PRM
variable {T : Nat → Int32} {L pr : Nat} {Mx Mm : Mem}
theorem PS.ok (h : PS T L pr Mx Mm) (z : Mx 2 5 = 0) : ∃ b, OKb T L pr b Mx Mm := by
  rcases h with h | h
  · exact h
  · exact absurd z h.2.1
theorem PS.er (h : PS T L pr Mx Mm) (z : ¬ Mx 2 5 = 0) : ERe T L pr Mx Mm := by
  rcases h with ⟨b, h⟩ | h
  · exact absurd h.2.1 z
  · exact h
theorem wr0 {M : Mem} (h : M 0 14 = 0) : p_X10_isWrong M = 0 := by unfold p_X10_isWrong; rw [if_pos h]
theorem wr1 {M : Mem} (h : ¬ M 0 14 = 0) : ¬ p_X10_isWrong M = 0 := by unfold p_X10_isWrong; rw [if_neg h]; decide
theorem ERe.w (h : ERe T L pr Mx Mm) : ¬ p_X10_isWrong Mm = 0 := wr1 (by rw [← h.2.2.1]; exact h.2.1)
/-- an error at the present token -/
theorem p_fail {b : Nat} (h : OKb T L pr b Mx Mm) (c : Int32) (hc : ¬ c = 0) : ∃ Mx2 Mm2, f_X2_fail c (nI b) Mx = some (0, Mx2) ∧ f_X10_fails c Mm = some (0, Mm2) ∧ ERe T L pr Mx2 Mm2 ∧ FrP Mx Mx2 ∧ FrQ Mm Mm2 := by
  obtain ⟨h1, h2, h3, h4, h5, h6, h7, h8, h9, ht⟩ := h
  have c1 := cnt_le T b
  have l9 := h1.2.1.2.1
  have g11 : (up Mm 0 14 c) 0 11 = nI b := by rw [up_i _ _ (by decide)]; exact ht.2.1
  refine ⟨up (up Mx 2 5 c) 2 6 (nI b), up (up Mm 0 14 c) 0 15 (nI b), ?_, ?_, ⟨?_, ?_, ?_, ?_, cnt T b, ?_, ?_⟩, ?_, ?_⟩
  · unfold f_X2_fail j_X2_fail_17
    rw [if_neg (fun z => z h2), wrt_def, wrt_def]
  · unfold f_X10_fails
    rw [if_pos (wr0 h3), wrt_def, wrt_def, g11]
  · exact h1.of (fun c hc => by rw [up_a _ _ _ (by omega), up_a _ _ _ (by omega)]) (by rw [up_i _ _ (by decide), up_i _ _ (by decide)]) (by rw [up_i _ _ (by decide), up_i _ _ (by decide)]) (by rw [up_a _ _ _ (by decide), up_a _ _ _ (by decide)])
  · rw [up_i _ _ (by decide), up_eq]; exact hc
  · rw [up_i _ _ (by decide), up_eq, up_i _ _ (by decide), up_eq]
  · rw [up_eq, up_eq]
  · have := h6.1; omega
  · rw [up_i _ _ (by decide), up_i _ _ (by decide)]; exact h7
  · intro c hc; rw [up_a _ _ _ hc, up_a _ _ _ hc]
  · exact ⟨fun c hc => by rw [up_a _ _ _ hc, up_a _ _ _ hc], fun j hj => by rw [up_i _ _ (by omega), up_i _ _ (by omega)]⟩
/-- a second error is none -/
theorem p_fail2 (h : ERe T L pr Mx Mm) (c x : Int32) : f_X2_fail c x Mx = some (0, Mx) ∧ f_X10_fails c Mm = some (0, Mm) := by
  constructor
  · unfold f_X2_fail j_X2_fail_17
    rw [if_pos h.2.1]
  · unfold f_X10_fails
    rw [if_neg h.w]
/-- the next token -/
theorem p_next {b : Nat} (h : OKb T L pr b Mx Mm) (hb : b < L) : ∃ Mx2 Mm2, f_X2_goTo (Mx 2 2 + 1) Mx = some (0, Mx2) ∧ f_X10_token Mm = some (0, Mm2) ∧ OKb T L pr (nxT T L b) Mx2 Mm2 ∧ FrP Mx Mx2 ∧ FrQ Mm Mm2 := by
  obtain ⟨h1, h2, h3, h4, h5, h6, h7, h8, h9, ht⟩ := h
  have l9 := h1.2.1.2.1
  obtain ⟨n1, n2, n3⟩ := next_ok hb (h6.2 hb)
  have c1 := cnt_le T b
  obtain ⟨Mm2, m1, m2, m3, m4⟩ := m_token h1.2.1 n3 ht.1
  obtain ⟨a1, a2, -⟩ := h1.1 (nxT T L b) (by have := n1.1; omega) n1.2
  have e1 : (up Mx 2 2 (nI (cnt T b + 1))) 2 2 = nI (cnt T b + 1) := up_eq _ _ _ _
  have i0 : ix (nI (cnt T b + 1)) = cnt T b + 1 := ix_nI (by omega)
  have b4 : (up Mx 2 2 (nI (cnt T b + 1))) 4 (cnt T b + 1) = nI (kd T L (nxT T L b)) := by rw [up_a _ _ _ (by decide), ← n2]; exact a1
  have e2 : (up (up Mx 2 2 (nI (cnt T b + 1))) 2 3 (nI (kd T L (nxT T L b)))) 2 2 = nI (cnt T b + 1) := by rw [up_i _ _ (by decide)]; exact e1
  have b5 : (up (up Mx 2 2 (nI (cnt T b + 1))) 2 3 (nI (kd T L (nxT T L b)))) 5 (cnt T b + 1) = nI (nxT T L b) := by rw [up_a _ _ _ (by decide), up_a _ _ _ (by decide), ← n2]; exact a2
  refine ⟨up (up (up Mx 2 2 (nI (cnt T b + 1))) 2 3 (nI (kd T L (nxT T L b)))) 2 4 (nI (nxT T L b)), Mm2, ?_, m1, ⟨?_, ?_, ?_, ?_, ?_, n1, ?_, ?_, ?_, m2⟩, ?_, m3, fun j hj => m4 j (by omega)⟩
  · unfold f_X2_goTo
    rw [h7, nI_1, wrt_def, e1, if_pos (of_eq_true (inb_T (by first | omega | (unfold wdP; omega) | (unfold lnP; omega) | (unfold cl; omega)) (by omega))), i0, b4, wrt_def, e2, if_pos (of_eq_true (inb_T (by first | omega | (unfold wdP; omega) | (unfold lnP; omega) | (unfold cl; omega)) (by omega))), i0, b5, wrt_def]
  · exact h1.of (fun c hc => by rw [up_a _ _ _ (by omega), up_a _ _ _ (by omega), up_a _ _ _ (by omega)]) (by rw [up_i _ _ (by decide), up_i _ _ (by decide), up_i _ _ (by decide)]) (m4 9 (by omega)) (m3 7 (by decide))
  · rw [up_i _ _ (by decide), up_i _ _ (by decide), up_i _ _ (by decide)]; exact h2
  · rw [m4 14 (by omega)]; exact h3
  · rw [up_i _ _ (by decide), up_i _ _ (by decide), up_i _ _ (by decide)]; exact h4
  · rw [m4 15 (by omega)]; exact h5
  · rw [up_i _ _ (by decide), e2, n2]
  · rw [up_i _ _ (by decide), up_eq]
  · exact up_eq _ _ _ _
  · intro c hc; rw [up_a _ _ _ hc, up_a _ _ _ hc, up_a _ _ _ hc]
theorem kd_L {b : Nat} (h : L ≤ b) : kd T L b = 32 := if_pos h
theorem kdL_lt {b : Nat} (h : kd T L b ≠ 32) : b < L := by
  apply Classical.byContradiction
  intro z
  exact h (kd_L (by omega))
theorem kd_le (b : Nat) : kd T L b ≤ 33 := by
  unfold kd
  split
  · omega
  · split
    · rcases kW_lt T b (rn isLt T L b) with z | z <;> omega
    · split
      · split <;> omega
      · unfold kSg
        split
        · omega
        · split
          · omega
          · split <;> omega
theorem nI_kd {b w : Nat} (hw : w < 2147483648) : (nI (kd T L b) = nI w) ↔ kd T L b = w := nI_eq (by have := kd_le (T := T) (L := L) b; omega) hw
/-- a word that stands there -/
theorem m_isWord {b w : Nat} (h : OKb T L pr b Mx Mm) (hw : w < 28) : f_X10_isWord (wsn w) Mm = some ((if kd T L b = w then 1 else 0), Mm) := by
  obtain ⟨h1, h2, h3, h4, h5, h6, h7, h8, h9, t10, t11, t12, -⟩ := h
  have l9 := h1.2.1.2.1
  unfold f_X10_isWord j_X10_isWord_31
  rw [if_neg (fun z => z (wr0 h3)), t12]
  have slt : ∀ w, w < 28 → slen (wsn w) < 10 := by decide +kernel
  have s10 := slt w hw
  by_cases hl : b < L ∧ isLt (T b) = true
  · obtain ⟨i1, i2, i3, i4⟩ := rn_spec isLt T L b
    have i2 := i2 (by omega)
    have es : srt T L b = 1 := by unfold srt; rw [if_neg (by omega), if_pos hl.2]
    have en : nxP T L b = rn isLt T L b := by unfold nxP; rw [if_neg (by omega), if_pos hl.2]
    have ek : kd T L b = kW T b (rn isLt T L b) := by unfold kd; rw [if_neg (by omega), if_pos hl.2]
    rw [es, if_neg (fun z => z rfl), t10, t11, en, ss i1, ek]
    by_cases z : rn isLt T L b - b = slen (wsn w)
    · rw [if_pos (by rw [z])]
      have step : ∀ i, i < slen (wsn w) → ∀ K, l_X10_isWord_35 (wsn w) K (nI i, Mm) = if T (b + i) = schr (wsn w) i then K (nI (i + 1), Mm) else some (0, Mm) := by
        intro i hi K
        simp only [l_X10_isWord_35]
        rw [if_neg (nI_ge hi (by omega)), t11, nI_add, m_at h1.2.1 (by omega), bnd_some, if_pos (of_eq_true (inb_T (by first | omega | (unfold wdP; omega) | (unfold lnP; omega) | (unfold cl; omega)) (by omega))), ix_nI (by omega), if_pos (show b + i < L by omega), nI_1]
      by_cases q : ∃ i, i < slen (wsn w) ∧ ¬ T (b + i) = schr (wsn w) i
      · obtain ⟨i, hi, hi2, hi3⟩ := least_of q
        rw [if_neg (fun y => hi2 (((kW_iff hw).mp y).2 i hi))]
        refine loop_run i (fun i => (nI i, Mm)) rfl (by omega) (fun j hj K => ?_) (fun K => ?_)
        · rw [step j (by omega), if_pos (Classical.not_not.mp (fun y => hi3 j hj y))]
        · rw [step i hi, if_neg hi2]
      · have al : ∀ i, i < slen (wsn w) → T (b + i) = schr (wsn w) i := fun i hi => Classical.not_not.mp (fun y => q ⟨i, hi, y⟩)
        rw [if_pos ((kW_iff hw).mpr ⟨z, al⟩)]
        refine loop_run (slen (wsn w)) (fun i => (nI i, Mm)) rfl (by omega) (fun j hj K => ?_) (fun K => ?_)
        · rw [step j hj, if_pos (al j hj)]
        · simp only [l_X10_isWord_35]
          rw [if_pos (nI_le (Nat.le_refl _) (by omega))]
    · rw [if_neg (fun y => z ((nI_eq (by omega) (by omega)).mp y)), if_neg (fun y => z ((kW_iff hw).mp y).1)]
  · have es : srt T L b ≠ 1 ∧ ¬ kd T L b = w := by
      unfold srt kd
      by_cases z : L ≤ b
      · rw [if_pos z, if_pos z]; omega
      · rw [if_neg z, if_neg z]
        have nl : ¬ isLt (T b) = true := fun y => hl ⟨by omega, y⟩
        rw [if_neg nl, if_neg nl]
        by_cases z2 : isDg (T b) = true
        · rw [if_pos z2, if_pos z2]
          constructor
          · split <;> omega
          · split <;> omega
        · rw [if_neg z2, if_neg z2]
          constructor
          · split <;> omega
          · unfold kSg
            split
            · omega
            · split
              · omega
              · split <;> omega
    have s4 : srt T L b ≤ 4 := by
      unfold srt
      split
      · omega
      · split
        · omega
        · split
          · split <;> omega
          · split <;> omega
    rw [if_pos (show ¬ nI (srt T L b) = 1 from fun z => es.1 ((nI_eq (by omega) (by omega)).mp (show nI (srt T L b) = nI 1 from z))), if_neg es.2]
theorem m_isWordE (h : ERe T L pr Mx Mm) (t : Nat) : f_X10_isWord t Mm = some (0, Mm) := by
  unfold f_X10_isWord j_X10_isWord_31
  rw [if_pos h.w]
/-- a wanted token: the class's take -/
theorem x_takeT {b w : Nat} (h : OKb T L pr b Mx Mm) (hw : kd T L b = w) : f_X2_take (nI w) Mx = bnd (f_X2_goTo (Mx 2 2 + 1) Mx) (fun _ M4 => some (0, M4)) := by
  unfold f_X2_take j_X2_take_37
  rw [h.2.2.2.2.2.2.2.1, hw, if_pos rfl, if_neg (fun z => z h.2.1)]
theorem x_takeF {b w : Nat} (h : OKb T L pr b Mx Mm) (hw : ¬ kd T L b = w) (h2 : w < 100) : f_X2_take (nI w) Mx = bnd (f_X2_fail 1 (nI b) Mx) (fun _ M6 => some (0, M6)) := by
  unfold f_X2_take j_X2_take_37
  rw [h.2.2.2.2.2.2.2.1, if_neg (fun z => hw ((nI_kd (by omega)).mp z)), h.2.2.2.2.2.2.2.2.1]
theorem x_takeE (h : ERe T L pr Mx Mm) (x : Int32) : f_X2_take x Mx = some (0, Mx) := by
  unfold f_X2_take j_X2_take_37
  by_cases z : Mx 2 3 = x
  · rw [if_pos z, if_pos h.2.1]
  · rw [if_neg z, (p_fail2 h 1 (Mx 2 4)).1, bnd_some]
/-- a word is taken, or else it is an error -/
theorem p_word {w : Nat} (h : PS T L pr Mx Mm) (hw : w < 28) : ∃ Mx2 v Mm1 Mm2, f_X2_take (nI w) Mx = some (0, Mx2) ∧ f_X10_takesWord (wsn w) Mm = some (v, Mm1) ∧ f_X10_must v Mm1 = some (0, Mm2) ∧ PS T L pr Mx2 Mm2 ∧ FrP Mx Mx2 ∧ FrQ Mm Mm2 ∧ (Mx2 2 5 = 0 → Mx 2 5 = 0) := by
  unfold f_X10_takesWord f_X10_must j_X10_takesWord_14 j_X10_must_9
  rcases h with ⟨b, h⟩ | h
  · rw [m_isWord h hw, bnd_some]
    by_cases z : kd T L b = w
    · obtain ⟨Mx2, Mm2, x1, m1, o1, f1, g1⟩ := p_next h (kdL_lt (show kd T L b ≠ 32 by omega))
      refine ⟨Mx2, 1, Mm2, Mm2, by rw [x_takeT h z, x1, bnd_some], ?_, by rw [if_pos ne10], Or.inl ⟨_, o1⟩, f1, g1, fun _ => h.2.1⟩
      rw [if_pos z, if_neg ne10, m1, bnd_some, if_pos (Or.inr rfl)]
    · obtain ⟨Mx2, Mm2, x1, m1, o1, f1, g1⟩ := p_fail h 1 (by decide)
      refine ⟨Mx2, 0, Mm, Mm2, by rw [x_takeF h z (by omega), x1, bnd_some], ?_, by rw [if_neg nn00, m1, bnd_some], Or.inr o1, f1, g1, fun y => absurd y o1.2.1⟩
      rw [if_neg z, if_pos rfl, if_pos (Or.inl rfl)]
  · rw [m_isWordE h, bnd_some, if_pos rfl, if_pos (Or.inl rfl)]
    refine ⟨Mx, 0, Mm, Mm, x_takeE h _, rfl, ?_, Or.inr h, FrP.refl _, FrQ.refl _, fun y => y⟩
    rw [if_neg nn00, (p_fail2 h 1 0).2, bnd_some]
def sgn (w : Nat) : Int32 := if w = 29 then 58 else if w = 30 then 59 else 45
/-- whether a sign stands there -/
theorem srt3 {b : Nat} : (srt T L b = 3 ↔ kd T L b = 29 ∨ kd T L b = 30 ∨ kd T L b = 31) ∧ ((srt T L b = 3 → (kd T L b = 29 ↔ T b = 58) ∧ (kd T L b = 30 ↔ T b = 59) ∧ (kd T L b = 31 ↔ T b = 45))) ∧ (srt T L b = 2 ↔ kd T L b = 28) ∧ (srt T L b = 0 ↔ kd T L b = 32) ∧ srt T L b ≤ 4 := by
  unfold srt kd
  by_cases z : L ≤ b
  · rw [if_pos z, if_pos z]
    refine ⟨by omega, fun y => by omega, by omega, by omega, by omega⟩
  · rw [if_neg z, if_neg z]
    by_cases z1 : isLt (T b) = true
    · rw [if_pos z1, if_pos z1]
      have := kW_lt T b (rn isLt T L b)
      refine ⟨by omega, fun y => by omega, by omega, by omega, by omega⟩
    · rw [if_neg z1, if_neg z1]
      by_cases z2 : isDg (T b) = true
      · rw [if_pos z2, if_pos z2]
        by_cases z3 : rn isDg T L b - b ≤ 6
        · rw [if_pos z3, if_pos z3]
          refine ⟨by omega, fun y => by omega, by omega, by omega, by omega⟩
        · rw [if_neg z3, if_neg z3]
          refine ⟨by omega, fun y => by omega, by omega, by omega, by omega⟩
      · rw [if_neg z2, if_neg z2]
        unfold isSg kSg
        by_cases y1 : T b = 45
        · rw [y1]
          refine ⟨by decide, fun _ => ⟨by decide, by decide, by decide⟩, by decide, by decide, by decide⟩
        · rw [if_neg y1, decide_eq_false y1, Bool.or_false]
          by_cases y2 : T b = 58
          · rw [y2]
            refine ⟨by decide, fun _ => ⟨by decide, by decide, by decide⟩, by decide, by decide, by decide⟩
          · rw [if_neg y2, decide_eq_false y2, Bool.false_or]
            by_cases y3 : T b = 59
            · rw [y3]
              refine ⟨by decide, fun _ => ⟨by decide, by decide, by decide⟩, by decide, by decide, by decide⟩
            · rw [if_neg y3, decide_eq_false y3]
              refine ⟨by decide, fun y => absurd y (by decide), by decide, by decide, by decide⟩
theorem m_sign {b w : Nat} (h : OKb T L pr b Mx Mm) (hw : 29 ≤ w ∧ w ≤ 31) : f_X10_takesSign (sgn w) Mm = if kd T L b = w then bnd (f_X10_token Mm) (fun _ M5 => some (1, M5)) else some (0, Mm) := by
  obtain ⟨h1, h2, h3, h4, h5, h6, h7, h8, h9, t10, t11, t12, t2, t3⟩ := h
  obtain ⟨s1, s2, s3, s4, s5⟩ := srt3 (T := T) (L := L) (b := b)
  unfold f_X10_takesSign j_X10_takesSign_23
  rw [if_neg (fun z => z (wr0 h3)), t12]
  by_cases z : srt T L b = 3
  · rw [z, if_neg (fun y => y rfl), t3 z]
    obtain ⟨u1, u2, u3⟩ := s2 z
    rcases (show w = 29 ∨ w = 30 ∨ w = 31 by omega) with e | e | e <;> subst e
    · rw [show sgn 29 = 58 from rfl]
      by_cases y : T b = 58
      · rw [if_pos y, if_pos (u1.mpr y)]
      · rw [if_neg y, if_neg (fun q => y (u1.mp q))]
    · rw [show sgn 30 = 59 from rfl]
      by_cases y : T b = 59
      · rw [if_pos y, if_pos (u2.mpr y)]
      · rw [if_neg y, if_neg (fun q => y (u2.mp q))]
    · rw [show sgn 31 = 45 from rfl]
      by_cases y : T b = 45
      · rw [if_pos y, if_pos (u3.mpr y)]
      · rw [if_neg y, if_neg (fun q => y (u3.mp q))]
  · rw [if_pos (show ¬ nI (srt T L b) = 3 from fun y => z ((nI_eq (by omega) (by omega)).mp (show nI (srt T L b) = nI 3 from y))), if_neg (fun y => z (s1.mpr (by omega)))]
theorem m_signE (h : ERe T L pr Mx Mm) (c : Int32) : f_X10_takesSign c Mm = some (0, Mm) := by
  unfold f_X10_takesSign j_X10_takesSign_23
  rw [if_pos h.w]
theorem p_sign {w : Nat} (h : PS T L pr Mx Mm) (hw : 29 ≤ w ∧ w ≤ 31) : ∃ Mx2 v Mm1 Mm2, f_X2_take (nI w) Mx = some (0, Mx2) ∧ f_X10_takesSign (sgn w) Mm = some (v, Mm1) ∧ f_X10_must v Mm1 = some (0, Mm2) ∧ PS T L pr Mx2 Mm2 ∧ FrP Mx Mx2 ∧ FrQ Mm Mm2 ∧ (Mx2 2 5 = 0 → Mx 2 5 = 0) := by
  unfold f_X10_must j_X10_must_9
  rcases h with ⟨b, h⟩ | h
  · rw [m_sign h hw]
    by_cases z : kd T L b = w
    · obtain ⟨Mx2, Mm2, x1, m1, o1, f1, g1⟩ := p_next h (kdL_lt (show kd T L b ≠ 32 by omega))
      refine ⟨Mx2, 1, Mm2, Mm2, by rw [x_takeT h z, x1, bnd_some], ?_, by rw [if_pos ne10], Or.inl ⟨_, o1⟩, f1, g1, fun _ => h.2.1⟩
      rw [if_pos z, m1, bnd_some]
    · obtain ⟨Mx2, Mm2, x1, m1, o1, f1, g1⟩ := p_fail h 1 (by decide)
      refine ⟨Mx2, 0, Mm, Mm2, by rw [x_takeF h z (by omega), x1, bnd_some], ?_, by rw [if_neg nn00, m1, bnd_some], Or.inr o1, f1, g1, fun y => absurd y o1.2.1⟩
      rw [if_neg z]
  · refine ⟨Mx, 0, Mm, Mm, x_takeE h _, m_signE h _, ?_, Or.inr h, FrP.refl _, FrQ.refl _, fun y => y⟩
    rw [if_neg nn00, (p_fail2 h 1 0).2, bnd_some]
/-- a number -/
theorem p_num {l hi : Nat} {H : Int32} (h : PS T L pr Mx Mm) (hh : hi < 2147483648) (hl : l ≤ hi) (hH : Mx 2 5 = 0 → H = nI hi) : ∃ y Mx2 v Mm2, f_X2_takeNumber (nI l) (nI hi) Mx = some (nI y, Mx2) ∧ f_X10_figure (nI l) H Mm = some (v, Mm2) ∧ PS T L pr Mx2 Mm2 ∧ FrP Mx Mx2 ∧ FrQ Mm Mm2 ∧ l ≤ y ∧ y ≤ hi ∧ (Mx2 2 5 = 0 → Mx 2 5 = 0 ∧ v = nI y) := by
  obtain ⟨-, -, -, k, k1, k2⟩ := h.ps
  unfold f_X2_takeNumber f_X10_figure j_X2_takeNumber_44 j_X2_takeNumber_75
  have i0 : ix (nI k) = k := ix_nI (by omega)
  rw [k2, if_pos (of_eq_true (inb_T k1 (by omega))), i0]
  rcases h with ⟨b, h⟩ | h
  · obtain ⟨h1, h2, h3, h4, h5, h6, h7, h8, h9, t10, t11, t12, t2, t3⟩ := id h
    obtain ⟨-, -, s3, -, s5⟩ := srt3 (T := T) (L := L) (b := b)
    have ek : k = cnt T b := (nI_eq (by omega) (by have := cnt_le T b; have := h6.1; have := h1.2.1.2.1; omega)).mp (k2.symm.trans h7)
    rw [if_pos (wr0 h3), h8, t12, hH h2, h9]
    by_cases z : kd T L b = 28
    · have hb : b < L := kdL_lt (show kd T L b ≠ 32 by omega)
      have e6 : Mx 6 k = numF T b (rn isDg T L b - b) := by rw [ek]; exact (h1.1 b (by omega) h6.2).2.2 z
      have e13 : Mm 0 13 = numF T b (rn isDg T L b - b) := t2 (s3.mpr z)
      rw [z, if_pos (show nI 28 = 28 from rfl), s3.mpr z, if_pos (show nI 2 = 2 from rfl), e6, e13]
      generalize hn : numF T b (rn isDg T L b - b) = n at *
      by_cases q : nI l ≤ n ∧ n ≤ nI hi
      · have hn0 : ¬ n < 0 := fun y => absurd (Int32.lt_of_le_of_lt q.1 y) (nI_pos (by omega))
        obtain ⟨ey, ly⟩ := nn_ix hn0
        obtain ⟨Mx2, Mm2, x1, m1, o1, f1, g1⟩ := p_next h hb
        rw [h7, ← ek] at x1
        have w1 : l ≤ ix n := by
          apply Classical.byContradiction
          intro y
          have q1 := q.1
          rw [ey] at q1
          exact nI_ge (by omega) (by omega) q1
        have w2 : ix n ≤ hi := by
          apply Classical.byContradiction
          intro y
          have q2 := q.2
          rw [ey] at q2
          exact nI_ge (by omega) ly q2
        refine ⟨ix n, Mx2, n, Mm2, ?_, ?_, Or.inl ⟨_, o1⟩, f1, g1, w1, w2, fun _ => ⟨h2, ey⟩⟩
        · rw [if_neg (i32_nlt.mpr q.1), if_pos q.2, if_neg (fun y => y h2), x1, bnd_some, ← ey]
        · rw [m_isIn_T q.1 q.2, if_pos ne10]
          unfold j_X10_figure_42 j_X10_figure_58
          rw [if_neg (fun y => y (wr0 h3)), m1, bnd_some, e13]
      · obtain ⟨Mx2, Mm2, x1, m1, o1, f1, g1⟩ := p_fail h 2 (by decide)
        refine ⟨l, Mx2, Mm2 0 13, Mm2, ?_, ?_, Or.inr o1, f1, g1, Nat.le_refl _, hl, fun y => absurd y o1.2.1⟩
        · by_cases q1 : n < nI l
          · rw [if_pos q1, x1, bnd_some]
          · rw [if_neg q1, if_neg (fun y => q ⟨i32_nlt.mp q1, y⟩), x1, bnd_some]
        · rw [m_isIn_F q, if_neg nn00, m1, bnd_some]
          unfold j_X10_figure_42 j_X10_figure_58
          rw [if_pos o1.w]
    · obtain ⟨Mx2, Mm2, x1, m1, o1, f1, g1⟩ := p_fail h 1 (by decide)
      refine ⟨l, Mx2, Mm2 0 13, Mm2, ?_, ?_, Or.inr o1, f1, g1, Nat.le_refl _, hl, fun y => absurd y o1.2.1⟩
      · rw [if_neg (show ¬ nI (kd T L b) = 28 from fun y => z ((nI_kd (by omega)).mp (show nI (kd T L b) = nI 28 from y))), x1, bnd_some]
      · rw [if_neg (show ¬ nI (srt T L b) = 2 from fun y => z (s3.mp ((nI_eq (by omega) (by omega)).mp (show nI (srt T L b) = nI 2 from y)))), m1, bnd_some]
        unfold j_X10_figure_42 j_X10_figure_58
        rw [if_pos o1.w]
  · rw [if_neg h.w]
    refine ⟨l, Mx, nI l, Mm, ?_, rfl, Or.inr h, FrP.refl _, FrQ.refl _, Nat.le_refl _, hl, fun y => ⟨y, rfl⟩⟩
    by_cases z : Mx 2 3 = 28
    · rw [if_pos z]
      by_cases z1 : Mx 6 k < nI l
      · rw [if_pos z1, (p_fail2 h 2 (Mx 2 4)).1, bnd_some]
      · rw [if_neg z1]
        by_cases z2 : Mx 6 k ≤ nI hi
        · rw [if_pos z2, if_pos h.2.1]
        · rw [if_neg z2, (p_fail2 h 2 (Mx 2 4)).1, bnd_some]
    · rw [if_neg z, (p_fail2 h 1 (Mx 2 4)).1, bnd_some]
end PRM
