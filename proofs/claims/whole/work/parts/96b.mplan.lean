/-! ===== the reference's search ===== -/
noncomputable abbrev olP (p : Nat → Int32) (qb : Nat → Nat) (Q n : Nat) (S : Nat → Bool) (a : Nat → Int32) : Int32 × (Nat → Nat) := ol (qC p qb) (fun q x => spBatch p (qb q) x) (spLat (ix (p 0)) 255) Q n S a
noncomputable abbrev olkP (p : Nat → Int32) (qb : Nat → Nat) (Q n : Nat) (S : Nat → Bool) (a : Nat → Int32) (k : Nat) : Int32 × (Nat → Nat) := olk (qC p qb) (fun q x => spBatch p (qb q) x) (spLat (ix (p 0)) 255) Q n S a k
def CT (p : Nat → Int32) (qb : Nat → Nat) (Q : Nat) : Prop := WFs p ∧ WFt p ∧ Q ≤ 6 ∧ (∀ k, k < Q → WFb p (qb k)) ∧ ∀ k, k < Q → ∀ (a b : Nat → Int32) (N : Nat), WFn N a → N + 480 < 2147483648 → (∀ j, j < 160 → a j = b j) → ∀ j, j < 160 → spBatch p (qb k) a j = spBatch p (qb k) b j
def JJ (p : Nat → Int32) (n : Nat) (a : Nat → Int32) : Prop := n ≤ 6 ∧ WFn (245760 + 480 * (6 - n)) a ∧ TB (353280000 + 690000 * (6 - n)) a ∧ ZB (ix (p 0)) a
theorem JJ_s {p : Nat → Int32} {qb : Nat → Nat} {Q n q : Nat} {a : Nat → Int32} (h : CT p qb Q) (hJ : JJ p (n + 1) a) (hq : q < Q) : JJ p n (spBatch p (qb q) a) ∧ spLat (ix (p 0)) 255 a ≤ spLat (ix (p 0)) 255 (spBatch p (qb q) a) := by
  obtain ⟨hs, ht, h6, hw, -⟩ := h
  obtain ⟨j1, j2, j3, j4⟩ := hJ
  have e1 : 245760 + 480 * (6 - n) = 245760 + 480 * (6 - (n + 1)) + 480 := by omega
  have e2 : 353280000 + 690000 * (6 - n) = 353280000 + 690000 * (6 - (n + 1)) + 690000 := by omega
  have b1 : 245760 + 480 * (6 - (n + 1)) + 480 < 2147483648 := by omega
  have b2 : 353280000 + 690000 * (6 - (n + 1)) + 690000 < 2147483648 := by omega
  unfold JJ
  rw [e1, e2]
  generalize 245760 + 480 * (6 - (n + 1)) = N at j2 b1
  generalize 353280000 + 690000 * (6 - (n + 1)) = K at j3 b2
  have t := spBatch_tb hs ht (hw q hq) j3 b2
  exact ⟨⟨by omega, spBatch_n hs (hw q hq) j2 b1, t.1, spBatch_z hs (hw q hq) j4⟩, spLat_mono hs.2.2.1 t.2⟩
theorem JJ_lt {p : Nat → Int32} {n : Nat} {a : Nat → Int32} (hs : WFs p) (hJ : JJ p n a) : spLat (ix (p 0)) 255 a < 2147483647 ∧ 0 ≤ spLat (ix (p 0)) 255 a := by
  obtain ⟨j1, j2, j3, j4⟩ := hJ
  refine ⟨?_, spLat_nn _ _ _⟩
  obtain ⟨y, hy, e⟩ := spLat_tm (s := 255) hs.2.2.1 j3
  rw [e]
  exact nI_lt (b := 2147483647) (by omega) (by omega)
/-- what the reference's search has found -/
def RBm (Q : Nat) (M : Mem) (w : Int32 × (Nat → Nat)) : Prop := 0 ≤ w.1 ∧ ((w.1 = 2147483647 ∧ M 0 24 = -1) ∨ (w.1 < 2147483647 ∧ M 0 24 = w.1 ∧ ∀ i, i < Q → M 11 i = nI (w.2 i)))
theorem RBm.of {Q : Nat} {M M2 : Mem} {w : Int32 × (Nat → Nat)} (h : RBm Q M w) (e0 : M2 0 24 = M 0 24) (e1 : M2 11 = M 11) : RBm Q M2 w := by
  unfold RBm
  rw [e0, e1]
  exact h
theorem m_lv71 {M : Mem} {d : Nat} {rec : Int32 → Int32 → Mem → Option (Int32 × Mem)} {x2 : Int32} (hd : d < 6) : loopC (l_X10_tries_71 rec (nI d) x2) fuelL (0, M) = loopC (l_X10_tries_104 rec (nI d) x2) fuelL (0, upA M 12 (fun j => if 160 * d ≤ j ∧ j < 160 * d + 160 then M 1 (j - 160 * d) else M 12 j)) := by
  refine loop_run 160 (fun k => (nI k, upA M 12 (fun j => if 160 * d ≤ j ∧ j < 160 * d + k then M 1 (j - 160 * d) else M 12 j))) ?_ (by omega) (fun k hk K => ?_) (fun K => ?_)
  · have : (fun j => if 160 * d ≤ j ∧ j < 160 * d + 0 then M 1 (j - 160 * d) else M 12 j) = M 12 := by
      funext j
      rw [if_neg (by omega)]
    show (0, M) = (nI 0, upA M 12 (fun j => if 160 * d ≤ j ∧ j < 160 * d + 0 then M 1 (j - 160 * d) else M 12 j))
    rw [this, upA_self]
    rfl
  · simp only [l_X10_tries_71]
    rw [if_neg (show ¬ (160 : Int32) ≤ nI k from nI_ge (b := 160) hk (by omega)), show (160 : Int32) = nI 160 from rfl, pk_mul, nI_add, if_pos (of_eq_true (inb_T (by first | omega | (unfold wdP; omega) | (unfold lnP; omega) | (unfold cl; omega)) (by omega))), if_pos (of_eq_true (inb_T (by first | omega | (unfold wdP; omega) | (unfold lnP; omega) | (unfold cl; omega)) (by omega))), ix_nI (by omega), ix_nI (by omega), wrt_def, nI_1, up_upA, upA_ne _ _ (by decide)]
    refine congrArg (fun z => K (nI (k + 1), upA M 12 z)) ?_
    funext j
    by_cases z : j = 160 * d + k
    · rw [z, upd_eq, if_pos (by omega), show 160 * d + k - 160 * d = k by omega]
    · rw [upd_ne _ _ z]
      by_cases z2 : 160 * d ≤ j ∧ j < 160 * d + k
      · rw [if_pos z2, if_pos (by omega)]
      · rw [if_neg z2, if_neg (by omega)]
  · simp only [l_X10_tries_71]
    rw [if_pos (show (160 : Int32) ≤ nI 160 from Int32.le_refl _)]
theorem m_lv176 {M : Mem} {d q : Nat} {rec : Int32 → Int32 → Mem → Option (Int32 × Mem)} {x2 : Int32} {K104 : Int32 × Mem → Option (Int32 × Mem)} (hd : d < 6) : loopC (l_X10_tries_176 rec (nI d) x2 (nI q) K104) fuelL (0, M) = K104 (nI (q + 1), upA M 1 (fun j => if j < 160 then M 12 (160 * d + j) else M 1 j)) := by
  refine loop_run 160 (fun k => (nI k, upA M 1 (fun j => if j < k then M 12 (160 * d + j) else M 1 j))) ?_ (by omega) (fun k hk K => ?_) (fun K => ?_)
  · have : (fun j => if j < 0 then M 12 (160 * d + j) else M 1 j) = M 1 := by
      funext j
      rw [if_neg (by omega)]
    show (0, M) = (nI 0, upA M 1 (fun j => if j < 0 then M 12 (160 * d + j) else M 1 j))
    rw [this, upA_self]
    rfl
  · simp only [l_X10_tries_176]
    rw [if_neg (show ¬ (160 : Int32) ≤ nI k from nI_ge (b := 160) hk (by omega)), show (160 : Int32) = nI 160 from rfl, pk_mul, nI_add, if_pos (of_eq_true (inb_T (by first | omega | (unfold wdP; omega) | (unfold lnP; omega) | (unfold cl; omega)) (by omega))), if_pos (of_eq_true (inb_T (by first | omega | (unfold wdP; omega) | (unfold lnP; omega) | (unfold cl; omega)) (by omega))), ix_nI (by omega), ix_nI (by omega), wrt_def, nI_1, up_upA, upA_ne _ _ (by decide)]
    refine congrArg (fun z => K (nI (k + 1), upA M 1 z)) ?_
    funext j
    by_cases z : j = k
    · rw [z, upd_eq, if_pos (by omega)]
    · rw [upd_ne _ _ z]
      by_cases z2 : j < k
      · rw [if_pos z2, if_pos (by omega)]
      · rw [if_neg z2, if_neg (by omega)]
  · simp only [l_X10_tries_176, j_X10_tries_210]
    rw [if_pos (show (160 : Int32) ≤ nI 160 from Int32.le_refl _), nI_1]
theorem m_lv42 {M : Mem} {d : Nat} {rec : Int32 → Int32 → Mem → Option (Int32 × Mem)} (hd : d ≤ 6) : loopC (l_X10_tries_42 rec (nI d)) fuelL (0, M) = some (0, upA M 11 (fun j => if j < d then M 10 j else M 11 j)) := by
  refine loop_run d (fun k => (nI k, upA M 11 (fun j => if j < k then M 10 j else M 11 j))) ?_ (by omega) (fun k hk K => ?_) (fun K => ?_)
  · have : (fun j => if j < 0 then M 10 j else M 11 j) = M 11 := by
      funext j
      rw [if_neg (by omega)]
    show (0, M) = (nI 0, upA M 11 (fun j => if j < 0 then M 10 j else M 11 j))
    rw [this, upA_self]
    rfl
  · simp only [l_X10_tries_42]
    rw [if_neg (nI_ge hk (by omega)), if_pos (of_eq_true (inb_T (by first | omega | (unfold wdP; omega) | (unfold lnP; omega) | (unfold cl; omega)) (by omega))), if_pos (of_eq_true (inb_T (by first | omega | (unfold wdP; omega) | (unfold lnP; omega) | (unfold cl; omega)) (by omega))), ix_nI (by omega), wrt_def, nI_1, up_upA, upA_ne _ _ (by decide)]
    refine congrArg (fun z => K (nI (k + 1), upA M 11 z)) ?_
    funext j
    by_cases z : j = k
    · rw [z, upd_eq, if_pos (by omega)]
    · rw [upd_ne _ _ z]
      by_cases z2 : j < k
      · rw [if_pos z2, if_pos (by omega)]
      · rw [if_neg z2, if_neg (by omega)]
  · simp only [l_X10_tries_42]
    rw [if_pos (nI_le (Nat.le_refl _) (by omega))]
theorem m_leaf {p : Nat → Int32} {qb : Nat → Nat} {Q k : Nat} {M : Mem} {a : Nat → Int32} {pth : Nat → Nat} {w : Int32 × (Nat → Nat)} {x2 : Int32} {S : Nat → Bool} (hct : CT p qb Q) (h5 : M 5 = p) (hq0 : M 1 1440 = nI Q) (ha : ∀ j, j < 160 → M 1 j = a j) (hJ : JJ p 0 a) (ho : ∀ i, i < Q → M 10 i = nI (pth i)) (hw : RBm Q M w) : ∃ M2, f_X10_tries (k + 1) (nI Q) x2 M = some (0, M2) ∧ RBm Q M2 (mrg w (embP Q pth (olP p qb Q 0 S a))) ∧ M2 1 = M 1 ∧ M2 10 = M 10 ∧ M2 12 = M 12 ∧ (∀ j, j ≠ 24 → M2 0 j = M 0 j) ∧ (∀ c, c ≠ 0 → c ≠ 11 → M2 c = M c) := by
  obtain ⟨hs, -, h6, -⟩ := hct
  obtain ⟨f1, f2⟩ := JJ_lt hs hJ
  show ∃ M2, b_X10_tries (f_X10_tries k) (nI Q) x2 M = some (0, M2) ∧ _
  unfold b_X10_tries
  rw [hq0, if_neg (fun z => z rfl), m_ends (nb := ix (p 0)) (by rw [h5]; exact hs.1) hs.2.2.1, bnd_some]
  have el : spLat (ix (p 0)) 255 (M 1) = spLat (ix (p 0)) 255 a := spLat_congr hs.2.2.1 (fun j hj => ha j (by omega))
  rw [el]
  have eo : olP p qb Q 0 S a = (spLat (ix (p 0)) 255 a, fun _ => 0) := rfl
  rw [eo]
  generalize spLat (ix (p 0)) 255 a = v at *
  have take : ∃ M2, j_X10_tries_34 (f_X10_tries k) (nI Q) v M = some (0, M2) ∧ RBm Q M2 (embP Q pth (v, fun _ => 0)) ∧ M2 1 = M 1 ∧ M2 10 = M 10 ∧ M2 12 = M 12 ∧ (∀ j, j ≠ 24 → M2 0 j = M 0 j) ∧ (∀ c, c ≠ 0 → c ≠ 11 → M2 c = M c) := by
    unfold j_X10_tries_34
    rw [wrt_def, m_lv42 h6]
    refine ⟨_, rfl, ⟨f2, Or.inr ⟨f1, ?_, fun i hi => ?_⟩⟩, ?_, ?_, ?_, fun j hj => ?_, fun c c1 c2 => ?_⟩
    · rw [upA_ne _ _ (by decide), up_eq]; rfl
    · rw [upA_eq, if_pos hi, up_a _ _ _ (by decide), ho i hi]
      show nI (pth i) = nI (embd Q pth (fun _ => 0) i)
      unfold embd
      rw [if_pos hi]
    · rw [upA_ne _ _ (by decide), up_a _ _ _ (by decide)]
    · rw [upA_ne _ _ (by decide), up_a _ _ _ (by decide)]
    · rw [upA_ne _ _ (by decide), up_a _ _ _ (by decide)]
    · rw [upA_ne _ _ (by decide), up_i _ _ hj]
    · rw [upA_ne _ _ c2, up_a _ _ _ c1]
  obtain ⟨w0, hw⟩ := id hw
  rcases hw with ⟨z1, z2⟩ | ⟨z1, z2, z3⟩
  · rw [z2, if_pos rfl]
    have : mrg w (embP Q pth (v, fun _ => 0)) = embP Q pth (v, fun _ => 0) := if_pos (by rw [z1]; exact f1)
    rw [this]
    exact take
  · rw [z2, if_neg (fun y => by rw [y] at w0; exact absurd w0 (by decide))]
    by_cases q : v < w.1
    · rw [if_pos q]
      have : mrg w (embP Q pth (v, fun _ => 0)) = embP Q pth (v, fun _ => 0) := if_pos q
      rw [this]
      exact take
    · rw [if_neg q]
      have : mrg w (embP Q pth (v, fun _ => 0)) = w := if_neg q
      rw [this]
      exact ⟨M, rfl, ⟨w0, Or.inr ⟨z1, z2, z3⟩⟩, rfl, rfl, rfl, fun _ _ => rfl, fun _ _ _ => rfl⟩
theorem m_tries {p : Nat → Int32} {qb : Nat → Nat} {Q : Nat} {f13 : Nat → Int32} (hct : CT p qb Q) (hB : ∀ q, q < Q → MK (f13 q) (bfS (qC p qb) q)) : ∀ n d k M S a pth w x2, d + n = Q → n < k → M 5 = p → M 13 = f13 → M 1 1440 = nI Q → (∀ q, q < Q → M 1 (1441 + q) = nI (qb q)) → (∀ j, j < 160 → M 1 j = a j) → JJ p n a → MK x2 S → (∀ i, i < d → M 10 i = nI (pth i)) → RBm Q M w → ∃ M2, f_X10_tries k (nI d) x2 M = some (0, M2) ∧ RBm Q M2 (mrg w (embP d pth (olP p qb Q n S a))) ∧ M2 1 = M 1 ∧ (∀ i, i < d → M2 10 i = M 10 i) ∧ (∀ j, j < 160 * d → M2 12 j = M 12 j) ∧ (∀ j, j ≠ 24 → M2 0 j = M 0 j) ∧ (∀ c, c ≠ 0 → c ≠ 10 → c ≠ 11 → c ≠ 12 → M2 c = M c) := by
  obtain ⟨hs, ht, h6, hwb, hcg⟩ := id hct
  intro n
  induction n with
  | zero =>
    intro d k M S a pth w x2 hd hk h5 h13 hq0 hq ha hJ hx ho hw
    have e : d = Q := by omega
    subst e
    obtain ⟨k2, rfl⟩ : ∃ k2, k = k2 + 1 := ⟨k - 1, by omega⟩
    obtain ⟨M2, r1, r2, r3, r4, r5, r6, r7⟩ := m_leaf (S := S) hct h5 hq0 ha hJ ho hw (x2 := x2) (k := k2)
    exact ⟨M2, r1, r2, r3, fun i _ => by rw [r4], fun j _ => by rw [r5], r6, fun c c1 c2 c3 c4 => r7 c c1 c3⟩
  | succ n ih =>
    intro d k M S a pth w x2 hd hk h5 h13 hq0 hq ha hJ hx ho hw
    obtain ⟨k2, rfl⟩ : ∃ k2, k = k2 + 1 := ⟨k - 1, by omega⟩
    show ∃ M2, b_X10_tries (f_X10_tries k2) (nI d) x2 M = some (0, M2) ∧ _
    unfold b_X10_tries
    have nd : ¬ nI d = nI Q := fun z => by have := (nI_eq (by omega) (by omega)).mp z; omega
    rw [hq0, if_pos nd, m_lv71 (by omega)]
    have X := loop_inv (body := l_X10_tries_104 (f_X10_tries k2) (nI d) x2) (init := (0, upA M 12 (fun j => if 160 * d ≤ j ∧ j < 160 * d + 160 then M 1 (j - 160 * d) else M 12 j))) (Q := fun res => ∃ M2, res = some (0, M2) ∧ RBm Q M2 (mrg w (embP d pth (olP p qb Q (n + 1) S a))) ∧ M2 1 = M 1 ∧ (∀ i, i < d → M2 10 i = M 10 i) ∧ (∀ j, j < 160 * d → M2 12 j = M 12 j) ∧ (∀ j, j ≠ 24 → M2 0 j = M 0 j) ∧ (∀ c, c ≠ 0 → c ≠ 10 → c ≠ 11 → c ≠ 12 → M2 c = M c)) Q (fun q s => s.1 = nI q ∧ RBm Q s.2 (mrg w (embP d pth (olkP p qb Q n S a q))) ∧ s.2 1 = M 1 ∧ (∀ i, i < d → s.2 10 i = M 10 i) ∧ (∀ j, j < 160 * d → s.2 12 j = M 12 j) ∧ (∀ j, j < 160 → s.2 12 (160 * d + j) = M 1 j) ∧ (∀ j, j ≠ 24 → s.2 0 j = M 0 j) ∧ (∀ c, c ≠ 0 → c ≠ 10 → c ≠ 11 → c ≠ 12 → s.2 c = M c)) ?_ (by omega) ?_ ?_
    · obtain ⟨res, ⟨M2, er, rest⟩, el⟩ := X
      exact ⟨M2, by rw [el, er], rest⟩
    · have e0 : mrg w (embP d pth (olkP p qb Q n S a 0)) = w := mrg_no (i32_top _)
      have o0 : ∀ c, c ≠ 12 → (upA M 12 (fun j => if 160 * d ≤ j ∧ j < 160 * d + 160 then M 1 (j - 160 * d) else M 12 j)) c = M c := fun c hc => upA_ne _ _ hc
      refine ⟨rfl, ?_, o0 1 (by decide), fun i hi => congrFun (o0 10 (by decide)) i, fun j hj => ?_, fun j hj => ?_, fun j hj => congrFun (o0 0 (by decide)) j, fun c c1 c2 c3 c4 => o0 c c4⟩
      · rw [e0]
        exact hw.of (congrFun (o0 0 (by decide)) 24) (o0 11 (by decide))
      · have o12 : (upA M 12 (fun j => if 160 * d ≤ j ∧ j < 160 * d + 160 then M 1 (j - 160 * d) else M 12 j)) 12 j = M 12 j := by rw [upA_eq, if_neg (by omega)]
        exact o12
      · have o12 : (upA M 12 (fun j => if 160 * d ≤ j ∧ j < 160 * d + 160 then M 1 (j - 160 * d) else M 12 j)) 12 (160 * d + j) = M 1 j := by rw [upA_eq, if_pos (by omega), show 160 * d + j - 160 * d = j by omega]
        exact o12
    · rintro q hq2 ⟨y, M1⟩ ⟨hy, W1, A1, O1, L1, L2, Z1, F1⟩
      have hy : y = nI q := hy
      subst hy
      have W1 : RBm Q M1 (mrg w (embP d pth (olkP p qb Q n S a q))) := W1
      have A1 : M1 1 = M 1 := A1
      have O1 : ∀ i, i < d → M1 10 i = M 10 i := O1
      have L1 : ∀ j, j < 160 * d → M1 12 j = M 12 j := L1
      have L2 : ∀ j, j < 160 → M1 12 (160 * d + j) = M 1 j := L2
      have Z1 : ∀ j, j ≠ 24 → M1 0 j = M 0 j := Z1
      have F1 : ∀ c, c ≠ 0 → c ≠ 10 → c ≠ 11 → c ≠ 12 → M1 c = M c := F1
      have e13 : M1 13 = f13 := by rw [F1 13 (by decide) (by decide) (by decide) (by decide)]; exact h13
      have skip : ¬ av (qC p qb) S q = true → (∀ K, l_X10_tries_104 (f_X10_tries k2) (nI d) x2 K (nI q, M1) = K (nI (q + 1), M1)) → ∃ s2 : Int32 × Mem, (s2.1 = nI (q + 1) ∧ RBm Q s2.2 (mrg w (embP d pth (olkP p qb Q n S a (q + 1)))) ∧ s2.2 1 = M 1 ∧ (∀ i, i < d → s2.2 10 i = M 10 i) ∧ (∀ j, j < 160 * d → s2.2 12 j = M 12 j) ∧ (∀ j, j < 160 → s2.2 12 (160 * d + j) = M 1 j) ∧ (∀ j, j ≠ 24 → s2.2 0 j = M 0 j) ∧ (∀ c, c ≠ 0 → c ≠ 10 → c ≠ 11 → c ≠ 12 → s2.2 c = M c)) ∧ ∀ K, l_X10_tries_104 (f_X10_tries k2) (nI d) x2 K (nI q, M1) = K s2 := by
        intro z hz
        refine ⟨(nI (q + 1), M1), ⟨rfl, ?_, A1, O1, L1, L2, Z1, F1⟩, hz⟩
        have : olkP p qb Q n S a (q + 1) = olkP p qb Q n S a q := olk_no (fun y => z y.1)
        rw [this]
        exact W1
      have e40 : M1 1 1440 = nI Q := by rw [A1]; exact hq0
      by_cases hS : S q = true
      · refine skip (fun z => by have := ((bfS_av (by omega)).mp z).1; rw [hS] at this; cases this) (fun K => ?_)
        simp only [l_X10_tries_104, j_X10_tries_210]
        rw [e40, if_neg (nI_ge hq2 (by omega)), if_pos (has_t (by rw [mk_bit hx (by omega)]; exact hS)), nI_1]
      · have hS2 : S q = false := by cases z : S q with
          | false => rfl
          | true => exact absurd z hS
        have hbit : ¬ bit x2 q = true := by rw [mk_bit hx (by omega), hS2]; decide
        have msub := mk_sub hx (hB q hq2)
        by_cases hv : av (qC p qb) S q = true
        · -- the child
          have hz : (f13 q &&& (x2 ^^^ (-1))) = 0 := msub.mpr ((bfS_av (by omega)).mp hv).2
          have w1 : WFn (245760 + 480 * (6 - (n + 1))) (M 1) := hJ.2.1.of (fun b hb => ha _ (by omega))
          have u5 : (up M1 10 d (nI q)) 5 = p := by rw [up_a _ _ _ (by decide), F1 5 (by decide) (by decide) (by decide) (by decide)]; exact h5
          have u1 : (up M1 10 d (nI q)) 1 = M 1 := by rw [up_a _ _ _ (by decide)]; exact A1
          have mt := m_ticks (M := up M1 10 d (nI q)) (bt := qb q) (N := 245760 + 480 * (6 - (n + 1))) (by rw [u5]; exact hs) (by rw [u5]; exact hwb q hq2) (by rw [u1]; exact w1) (by omega)
          rw [u5, u1] at mt
          have hcgq := hcg q hq2 (M 1) a _ w1 (by omega) ha
          have sp : ∀ j, 160 ≤ j → spBatch p (qb q) (M 1) j = M 1 j := fun j hj => spBatch_hi hs (hwb q hq2) hj
          obtain ⟨M3, r1, r2, r3, r4, r5, r6, r7⟩ := ih (d + 1) k2 (upA (up M1 10 d (nI q)) 1 (spBatch p (qb q) (M 1))) (ins S q) (spBatch p (qb q) a) (pset pth d q) (mrg w (embP d pth (olkP p qb Q n S a q))) (x2 ||| (1 <<< (nI q &&& 31))) (by omega) (by omega) (by rw [upA_ne _ _ (by decide)]; exact u5) (by rw [upA_ne _ _ (by decide), up_a _ _ _ (by decide)]; exact e13) (by rw [upA_eq, sp _ (by omega)]; exact hq0) (fun i hi => by rw [upA_eq, sp _ (by omega)]; exact hq i hi) (fun j hj => by rw [upA_eq]; exact hcgq j hj) (JJ_s hct hJ hq2).1 (mk_or hx (by omega)) (fun i hi => by
            rw [upA_ne _ _ (by decide)]
            unfold pset
            by_cases z : i = d
            · rw [z, up_eq, if_pos rfl]
            · rw [up_i _ _ z, if_neg z, O1 i (by omega)]; exact ho i (by omega)) (W1.of (by rw [upA_ne _ _ (by decide), up_a _ _ _ (by decide)]) (by rw [upA_ne _ _ (by decide), up_a _ _ _ (by decide)]))
          have b1 : ∀ j, j < 160 → M3 12 (160 * d + j) = M 1 j := fun j hj => by rw [r5 _ (by omega), upA_ne _ _ (by decide), up_a _ _ _ (by decide)]; exact L2 j hj
          have eA : (fun j => if j < 160 then M3 12 (160 * d + j) else M3 1 j) = M 1 := by
            funext j
            by_cases z : j < 160
            · rw [if_pos z]; exact b1 j z
            · rw [if_neg z, r3, upA_eq, sp _ (by omega)]
          have g : ∀ c, c ≠ 1 → (upA M3 1 (M 1)) c = M3 c := fun c hc => upA_ne _ _ hc
          refine ⟨(nI (q + 1), upA M3 1 (M 1)), ⟨rfl, ?_, upA_eq M3 1 (M 1), fun i hi => ?_, fun j hj => ?_, fun j hj => ?_, fun j hj => ?_, fun c c1 c2 c3 c4 => ?_⟩, fun K => ?_⟩
          · have cs := child_s (C := qC p qb) (stp := fun q x => spBatch p (qb q) x) (fin := spLat (ix (p 0)) 255) (Q := Q) (n := n) (a := a) (d := d) (pth := pth) (w := w) hv
            have r2' := r2
            rw [show (olP p qb Q n (ins S q) (spBatch p (qb q) a)) = ol (qC p qb) (fun q x => spBatch p (qb q) x) (spLat (ix (p 0)) 255) Q n (ins S q) ((fun q x => spBatch p (qb q) x) q a) from rfl, show mrg (mrg w (embP d pth (olkP p qb Q n S a q))) (embP (d + 1) (pset pth d q) (ol (qC p qb) (fun q x => spBatch p (qb q) x) (spLat (ix (p 0)) 255) Q n (ins S q) ((fun q x => spBatch p (qb q) x) q a))) = _ from cs] at r2'
            exact r2'.of (congrFun (g 0 (by decide)) 24) (g 11 (by decide))
          · refine (congrFun (g 10 (by decide)) i).trans ?_
            rw [r4 i (by omega), upA_ne _ _ (by decide), up_i _ _ (by omega)]; exact O1 i hi
          · refine (congrFun (g 12 (by decide)) j).trans ?_
            rw [r5 _ (by omega), upA_ne _ _ (by decide), up_a _ _ _ (by decide)]; exact L1 j hj
          · exact (congrFun (g 12 (by decide)) _).trans (b1 j hj)
          · refine (congrFun (g 0 (by decide)) j).trans ?_
            rw [r6 j hj, upA_ne _ _ (by decide), up_a _ _ _ (by decide)]; exact Z1 j hj
          · by_cases z : c = 1
            · rw [z]; exact upA_eq M3 1 (M 1)
            · refine (g c z).trans ?_
              rw [r7 c c1 c2 c3 c4, upA_ne _ _ z, up_a _ _ _ c2]; exact F1 c c1 c2 c3 c4
          · simp only [l_X10_tries_104]
            have e41 : (up M1 10 d (nI q)) 1 (1441 + q) = nI (qb q) := by rw [u1]; exact hq q hq2
            rw [e40, if_neg (nI_ge hq2 (by omega)), if_neg (has_f hbit), if_pos (of_eq_true (inb_T (by first | omega | (unfold wdP; omega) | (unfold lnP; omega) | (unfold cl; omega)) (by omega))), ix_nI (by omega), e13, if_pos hz, if_pos (of_eq_true (inb_T (by first | omega | (unfold wdP; omega) | (unfold lnP; omega) | (unfold cl; omega)) (by omega))), ix_nI (by omega), wrt_def, n1441, nI_add, if_pos (of_eq_true (inb_T (by first | omega | (unfold wdP; omega) | (unfold lnP; omega) | (unfold cl; omega)) (by omega))), ix_nI (by omega), e41, mt, bnd_some, nI_1, r1, bnd_some, m_lv176 (by omega), eA]
        · have hz : ¬ (f13 q &&& (x2 ^^^ (-1))) = 0 := fun y => hv ((bfS_av (by omega)).mpr ⟨hS2, msub.mp y⟩)
          refine skip hv (fun K => ?_)
          simp only [l_X10_tries_104, j_X10_tries_210]
          rw [e40, if_neg (nI_ge hq2 (by omega)), if_neg (has_f hbit), if_pos (of_eq_true (inb_T (by first | omega | (unfold wdP; omega) | (unfold lnP; omega) | (unfold cl; omega)) (by omega))), ix_nI (by omega), e13, if_neg hz, nI_1]
    · rintro ⟨y, M1⟩ ⟨hy, W1, A1, O1, L1, L2, Z1, F1⟩
      have hy : y = nI Q := hy
      subst hy
      refine ⟨_, ⟨M1, rfl, W1, A1, O1, L1, Z1, F1⟩, fun K => ?_⟩
      have A1 : M1 1 = M 1 := A1
      simp only [l_X10_tries_104]
      rw [A1, hq0, if_pos (nI_le (Nat.le_refl _) (by omega))]
