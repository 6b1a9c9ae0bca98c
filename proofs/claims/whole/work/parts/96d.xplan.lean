/-! ===== the class's search ===== -/
def RBx (Q : Nat) (M : Mem) (w : Int32 × (Nat → Nat)) : Prop := M 114 1 = w.1 ∧ (w.1 < 2147483647 → ∀ i, i < Q → M 115 i = nI (w.2 i))
/-- the same batch, or a conflict -/
noncomputable def qD (p : Nat → Int32) (qb : Nat → Nat) (o q : Nat) : Bool := decide (qb o = qb q) || qC p qb o q
def CX (p : Nat → Int32) (qb : Nat → Nat) (Q pr : Nat) (M : Mem) : Prop := ((¬ M 114 9 < 0 ∧ blkD KSx (ix (M 114 9)) blk4) ∧ ix (M 114 9) = pr) ∧ ((¬ M 114 10 < 0 ∧ blkD KSx (ix (M 114 10)) blk0) ∧ ix (M 114 10) = 50) ∧ M 50 1 = nI Q ∧ (∀ q, q < Q → M 51 q = nI (qb q)) ∧ pr + 12 < 33 ∧ PRs M pr p ∧ M (pr + 1) 5 = p 9 ∧ (∀ q, q < Q → PBt M pr p (qb q)) ∧ ∀ q, q < Q → MK (M 117 q) (bfS (qD p qb) q)
theorem CX.of {p : Nat → Int32} {qb : Nat → Nat} {Q pr : Nat} {M M2 : Mem} (h : CX p qb Q pr M) (h114 : ∀ j, j ≠ 1 → j ≠ 4 → M2 114 j = M 114 j) (hlo : ∀ c, c < 114 → M2 c = M c) (h117 : M2 117 = M 117) : CX p qb Q pr M2 := by
  obtain ⟨h1, h2, h3, h4, h5, h6, h7, h8, h9⟩ := h
  have pk : ∀ k, k ≤ 12 → M2 (pr + k) = M (pr + k) := fun k hk => hlo _ (by omega)
  refine ⟨?_, ?_, by rw [hlo 50 (by omega)]; exact h3, fun q hq => by rw [hlo 51 (by omega)]; exact h4 q hq, h5, h6.of pk, by rw [pk 1 (by omega)]; exact h7, fun q hq => (h8 q hq).of pk, fun q hq => by rw [h117]; exact h9 q hq⟩
  · rw [h114 9 (by omega) (by omega)]; exact h1
  · rw [h114 10 (by omega) (by omega)]; exact h2
theorem cpOk66 {Q : Nat} (h : Q ≤ 6) : cpOk 6 6 0 0 (nI Q) := ⟨by decide, by decide, nI_pos (by omega), by rw [ix_nI (by omega)]; show 0 + Q ≤ 6; omega, by rw [ix_nI (by omega)]; show 0 + Q ≤ 6; omega⟩
theorem x_leaf {p : Nat → Int32} {qb : Nat → Nat} {Q pr k : Nat} {M : Mem} {a : Nat → Int32} {pth : Nat → Nat} {w : Int32 × (Nat → Nat)} {S : Nat → Bool} (hct : CT p qb Q) (hx : CX p qb Q pr M) (hT : M = setT M (120 + (1 + 8 * Q)) a) (hJ : JJ p 0 a) (ho : ∀ i, i < Q → M 116 i = nI (pth i)) (hf : spLat (ix (p 0)) 255 a < w.1) : ∃ M2, f_X3_extend (k + 1) (nI Q) M = some (0, M2) ∧ RBx Q M2 (mrg w (embP Q pth (olP p qb Q 0 S a))) ∧ (∀ j, j ≠ 1 → M2 114 j = M 114 j) ∧ (∀ c, c ≠ 114 → c ≠ 115 → M2 c = M c) := by
  obtain ⟨hs, -, h6, -⟩ := hct
  obtain ⟨-, h2, h3, -⟩ := hx
  have eo : olP p qb Q 0 S a = (spLat (ix (p 0)) 255 a, fun _ => 0) := rfl
  have em : mrg w (embP Q pth (spLat (ix (p 0)) 255 a, fun _ => 0)) = embP Q pth (spLat (ix (p 0)) 255 a, fun _ => 0) := if_pos hf
  rw [eo, em]
  show ∃ M2, b_X3_extend (f_X3_extend k) (nI Q) M = some (0, M2) ∧ _
  unfold b_X3_extend j_X3_extend_17 f_X3_keepOrder
  have xl := x_latest M (120 + (1 + 8 * Q)) a 255
  rw [← hT, spLat_z hs.2.2.1 hJ.2.2.2] at xl
  have xl' : f_X6_latest (120 + (1 + 8 * ix (nI Q))) 255 M = some (spLat (ix (p 0)) 255 a, M) := by rw [ix_nI (by omega)]; exact xl
  rw [if_pos h2.1, h2.2, h3, if_pos (nI_le (Nat.le_refl _) (by omega)), if_pos (of_eq_true (inb_T (by first | omega | (unfold wdP; omega) | (unfold lnP; omega) | (unfold cl; omega)) (by omega))), xl', bnd_some, wrt_def, if_pos (cpOk66 h6), wrt_def, bnd_some]
  refine ⟨_, rfl, ⟨?_, fun _ i hi => ?_⟩, fun j hj => ?_, fun c c1 c2 => ?_⟩
  · rw [cpy_ne _ _ _ _ (by decide), up_eq]; rfl
  · rw [cpy_eq _ _ _ (n := Q) (ix_nI (by omega)), if_pos hi, up_a _ _ _ (by decide), ho i hi]
    show nI (pth i) = nI (embd Q pth (fun _ => 0) i)
    unfold embd
    rw [if_pos hi]
  · rw [cpy_ne _ _ _ _ (by decide), up_i _ _ hj]
  · rw [cpy_ne _ _ _ _ c2, up_a _ _ _ c1]
theorem x_extend {p : Nat → Int32} {qb : Nat → Nat} {Q pr : Nat} (hct : CT p qb Q) : ∀ n d k M S a pth w, d + n = Q → n < k → CX p qb Q pr M → M = setT M (120 + (1 + 8 * d)) a → JJ p n a → MK (M 114 4) S → (∀ i, i < d → M 116 i = nI (pth i)) → RBx Q M w → spLat (ix (p 0)) 255 a < w.1 → ∃ M2, f_X3_extend k (nI d) M = some (0, M2) ∧ RBx Q M2 (mrg w (embP d pth (olP p qb Q n S a))) ∧ (∀ j, j ≠ 1 → M2 114 j = M 114 j) ∧ (∀ i, i < d → M2 116 i = M 116 i) ∧ (∀ c, c < 114 ∨ (117 ≤ c ∧ c ≤ 128 + 8 * d) → M2 c = M c) := by
  obtain ⟨hs, ht, h6, hwb, hcg⟩ := id hct
  intro n
  induction n with
  | zero =>
    intro d k M S a pth w hd hk hx hT hJ hmk ho hw hf
    have e : d = Q := by omega
    subst e
    obtain ⟨k2, rfl⟩ : ∃ k2, k = k2 + 1 := ⟨k - 1, by omega⟩
    obtain ⟨M2, r1, r2, r3, r4⟩ := x_leaf (S := S) (k := k2) hct hx hT hJ ho hf
    exact ⟨M2, r1, r2, r3, fun i _ => by rw [r4 116 (by omega) (by omega)], fun c hc => r4 c (by omega) (by omega)⟩
  | succ n ih =>
    intro d k M S a pth w hd hk hx hT hJ hmk ho hw hf
    obtain ⟨k2, rfl⟩ : ∃ k2, k = k2 + 1 := ⟨k - 1, by omega⟩
    show ∃ M2, b_X3_extend (f_X3_extend k2) (nI d) M = some (0, M2) ∧ _
    unfold b_X3_extend
    obtain ⟨-, c2, c3, -⟩ := id hx
    rw [if_pos c2.1, c2.2, c3, if_neg (nI_ge (by omega) (by omega)), if_pos (show nI d < 6 from nI_lt (b := 6) (by omega) (by omega))]
    have X := loop_inv (body := l_X3_extend_25 (f_X3_extend k2) (nI d)) (init := (0, M)) (Q := fun res => ∃ M2, res = some (0, M2) ∧ RBx Q M2 (mrg w (embP d pth (olP p qb Q (n + 1) S a))) ∧ (∀ j, j ≠ 1 → M2 114 j = M 114 j) ∧ (∀ i, i < d → M2 116 i = M 116 i) ∧ (∀ c, c < 114 ∨ (117 ≤ c ∧ c ≤ 128 + 8 * d) → M2 c = M c)) Q (fun q s => s.1 = nI q ∧ RBx Q s.2 (mrg w (embP d pth (olkP p qb Q n S a q))) ∧ (∀ j, j ≠ 1 → s.2 114 j = M 114 j) ∧ (∀ i, i < d → s.2 116 i = M 116 i) ∧ (∀ c, c < 114 ∨ (117 ≤ c ∧ c ≤ 128 + 8 * d) → s.2 c = M c)) ?_ (by omega) ?_ ?_
    · obtain ⟨res, ⟨M2, er, rest⟩, el⟩ := X
      exact ⟨M2, by rw [el, er], rest⟩
    · have e0 : mrg w (embP d pth (olkP p qb Q n S a 0)) = w := mrg_no (i32_top _)
      refine ⟨rfl, ?_, fun _ _ => rfl, fun _ _ => rfl, fun _ _ => rfl⟩
      rw [e0]
      exact hw
    · rintro q hq2 ⟨y, M1⟩ ⟨hy, W1, Z1, O1, F1⟩
      have hy : y = nI q := hy
      subst hy
      have W1 : RBx Q M1 (mrg w (embP d pth (olkP p qb Q n S a q))) := W1
      have Z1 : ∀ j, j ≠ 1 → M1 114 j = M 114 j := Z1
      have O1 : ∀ i, i < d → M1 116 i = M 116 i := O1
      have F1 : ∀ c, c < 114 ∨ (117 ≤ c ∧ c ≤ 128 + 8 * d) → M1 c = M c := F1
      have hx1 : CX p qb Q pr M1 := hx.of (fun j j1 j4 => Z1 j j1) (fun c hc => F1 c (Or.inl hc)) (F1 117 (by omega))
      obtain ⟨g1, g2, g3, g4, g5, g6, g7, g8, g9⟩ := id hx1
      have hT1 : M1 = setT M1 (120 + (1 + 8 * d)) a := setT_of hT (fun c h1 h2 => F1 c (by omega))
      have e4 : M1 114 4 = M 114 4 := Z1 4 (by omega)
      have skip : ¬ (av (qC p qb) S q = true ∧ (olP p qb Q n (ins S q) (spBatch p (qb q) a)).1 < (olkP p qb Q n S a q).1) → (∀ K, l_X3_extend_25 (f_X3_extend k2) (nI d) K (nI q, M1) = K (nI (q + 1), M1)) → ∃ s2 : Int32 × Mem, (s2.1 = nI (q + 1) ∧ RBx Q s2.2 (mrg w (embP d pth (olkP p qb Q n S a (q + 1)))) ∧ (∀ j, j ≠ 1 → s2.2 114 j = M 114 j) ∧ (∀ i, i < d → s2.2 116 i = M 116 i) ∧ (∀ c, c < 114 ∨ (117 ≤ c ∧ c ≤ 128 + 8 * d) → s2.2 c = M c)) ∧ ∀ K, l_X3_extend_25 (f_X3_extend k2) (nI d) K (nI q, M1) = K s2 := by
        intro z hz
        refine ⟨(nI (q + 1), M1), ⟨rfl, ?_, Z1, O1, F1⟩, hz⟩
        have : olkP p qb Q n S a (q + 1) = olkP p qb Q n S a q := olk_no z
        rw [this]
        exact W1
      by_cases hS : S q = true
      · refine skip (fun z => by have := ((bfS_av (by omega)).mp z.1).1; rw [hS] at this; cases this) (fun K => ?_)
        have hb : ¬ ((M 114 4) >>> (nI q &&& 31)) &&& 1 = 0 := bit_ne.mp (by rw [mk_bit hmk (by omega)]; exact hS)
        simp only [l_X3_extend_25, j_X3_extend_79]
        rw [if_pos g2.1, g2.2, g3, if_neg (nI_ge hq2 (by omega)), e4, if_neg hb, if_pos (by decide), nI_1]
      · have hS2 : S q = false := by cases z : S q with
          | false => rfl
          | true => exact absurd z hS
        have hb : ((M 114 4) >>> (nI q &&& 31)) &&& 1 = 0 := Classical.not_not.mp (fun y => by
          have := bit_ne.mpr y
          rw [mk_bit hmk (by omega), hS2] at this
          cases this)
        have msub := mk_sub hmk (g9 q hq2)
        have head : ∀ K, l_X3_extend_25 (f_X3_extend k2) (nI d) K (nI q, M1) = if ¬ ((M1 117 q) &&& ((M 114 4) ^^^ (-1))) = 0 then K (nI (q + 1), M1) else bnd (b_X3_place (f_X3_extend k2) (nI q) (nI d) M1) (fun _ M13 => K (nI (q + 1), M13)) := by
          intro K
          simp only [l_X3_extend_25, j_X3_extend_79]
          rw [if_pos g2.1, g2.2, g3, if_neg (nI_ge hq2 (by omega)), e4, if_pos hb, if_neg (fun z => z rfl), if_pos (of_eq_true (inb_T (by first | omega | (unfold wdP; omega) | (unfold lnP; omega) | (unfold cl; omega)) (by omega))), ix_nI (by omega), nI_1]
        by_cases hz : ((M1 117 q) &&& ((M 114 4) ^^^ (-1))) = 0
        · -- it may come next
          have hsub := msub.mp hz
          have hv : av (qC p qb) S q = true := by
            refine (bfS_av (by omega)).mpr ⟨hS2, fun o ho hb2 => hsub o ho ?_⟩
            unfold bfS at hb2 ⊢
            rw [Bool.and_eq_true] at hb2 ⊢
            refine ⟨hb2.1, ?_⟩
            unfold qD
            rw [hb2.2, Bool.or_true]
          have w1 : WFn (245760 + 480 * (6 - (n + 1))) a := hJ.2.1
          obtain ⟨hJ2, hfin⟩ := JJ_s hct hJ hq2
          have cs := child_s (C := qC p qb) (stp := fun q x => spBatch p (qb q) x) (fin := spLat (ix (p 0)) 255) (Q := Q) (n := n) (a := a) (d := d) (pth := pth) (w := w) hv
          have hfc : spLat (ix (p 0)) 255 (spBatch p (qb q) a) ≤ (olP p qb Q n (ins S q) (spBatch p (qb q) a)).1 := ol_fin (J := JJ p) (C := qC p qb) (stp := fun q x => spBatch p (qb q) x) (fun n2 q2 x2 hq3 hj => JJ_s hct hj hq3) n (ins S q) (spBatch p (qb q) a) hJ2
          -- the row of times behind
          have xc := x_copyT (M := M1) (t0 := 120 + (1 + 8 * (d + 1))) (t1 := 120 + (1 + 8 * d)) (a := a) (Or.inr (by omega)) hT1
          have s0 : ∀ A c, c < 114 ∨ (114 ≤ c ∧ c ≤ 129 + 8 * d) → (setT M1 (120 + (1 + 8 * (d + 1))) A) c = M1 c := fun A c hc => sTn _ _ (by omega)
          have xr := x_runBatch (M := M1) (t := 120 + (1 + 8 * (d + 1))) (pr := pr) (p := p) (a := a) (bt := qb q) (by omega) hs (hwb q hq2) (g8 q hq2) g6 w1 (by omega)
          have xl := x_latest M1 (120 + (1 + 8 * (d + 1))) (spBatch p (qb q) a) 255
          rw [spLat_z hs.2.2.1 hJ2.2.2.2] at xl
          have place : ∃ M2, b_X3_place (f_X3_extend k2) (nI q) (nI d) M1 = some (0, M2) ∧ RBx Q M2 (mrg w (embP d pth (olkP p qb Q n S a (q + 1)))) ∧ (∀ j, j ≠ 1 → M2 114 j = M 114 j) ∧ (∀ i, i < d → M2 116 i = M 116 i) ∧ (∀ c, c < 114 ∨ (117 ≤ c ∧ c ≤ 128 + 8 * d) → M2 c = M c) := by
            have pl : b_X3_place (f_X3_extend k2) (nI q) (nI d) M1 = if spLat (ix (p 0)) 255 (spBatch p (qb q) a) < (mrg w (embP d pth (olkP p qb Q n S a q))).1 then wrt (up (setT M1 (120 + (1 + 8 * (d + 1))) (spBatch p (qb q) a)) 116 d (nI q)) (fun M15 => wrt (up M15 114 4 ((M15 114 4) ||| (1 <<< (nI q &&& 31)))) (fun M16 => bnd (f_X3_extend k2 (nI (d + 1)) M16) (fun _ M18 => wrt (up M18 114 4 ((M18 114 4) &&& ((1 <<< (nI q &&& 31)) ^^^ (-1)))) (fun M19 => some (0, M19))))) else some (0, setT M1 (120 + (1 + 8 * (d + 1))) (spBatch p (qb q) a)) := by
              unfold b_X3_place
              have q1 : ∀ A, (setT M1 (120 + (1 + 8 * (d + 1))) A) 114 = M1 114 := fun A => s0 A 114 (by omega)
              have i1 : ix (nI (d + 1)) = d + 1 := ix_nI (by omega)
              have i0 : ix (nI d) = d := ix_nI (by omega)
              have xc' : f_X6_copyFrom (120 + (1 + 8 * ix (nI (d + 1)))) (120 + (1 + 8 * ix (nI d))) M1 = some (0, setT M1 (120 + (1 + 8 * (d + 1))) a) := by rw [i1, i0]; exact xc
              have xr' : f_X6_runBatch (120 + (1 + 8 * ix (nI (d + 1)))) pr (nI (qb q)) (p 9) (setT M1 (120 + (1 + 8 * (d + 1))) a) = some (0, setT M1 (120 + (1 + 8 * (d + 1))) (spBatch p (qb q) a)) := by rw [i1]; exact xr
              have xl' : f_X6_latest (120 + (1 + 8 * ix (nI (d + 1)))) 255 (setT M1 (120 + (1 + 8 * (d + 1))) (spBatch p (qb q) a)) = some (spLat (ix (p 0)) 255 (spBatch p (qb q) a), setT M1 (120 + (1 + 8 * (d + 1))) (spBatch p (qb q) a)) := by rw [i1]; exact xl
              have g4' : (setT M1 (120 + (1 + 8 * (d + 1))) a) (50 + 1) (ix (nI q)) = nI (qb q) := by rw [s0 a (50 + 1) (by omega), ix_nI (by omega)]; exact g4 q hq2
              have g7' : (setT M1 (120 + (1 + 8 * (d + 1))) a) (pr + 1) 5 = p 9 := by rw [s0 a (pr + 1) (by omega)]; exact g7
              rw [nI_1, if_pos (of_eq_true (inb_T (by first | omega | (unfold wdP; omega) | (unfold lnP; omega) | (unfold cl; omega)) (by omega))), if_pos (of_eq_true (inb_T (by first | omega | (unfold wdP; omega) | (unfold lnP; omega) | (unfold cl; omega)) (by omega))), xc', bnd_some, q1, if_pos g1.1, if_pos g2.1, if_pos (of_eq_true (inb_T (by first | omega | (unfold wdP; omega) | (unfold lnP; omega) | (unfold cl; omega)) (by omega))), if_pos g1.1, g1.2, g2.2, g4', g7', xr', bnd_some, xl', bnd_some, q1, W1.1, if_pos (of_eq_true (inb_T (by first | omega | (unfold wdP; omega) | (unfold lnP; omega) | (unfold cl; omega)) (by omega))), i0]
            rw [pl]
            by_cases hlt : spLat (ix (p 0)) 255 (spBatch p (qb q) a) < (mrg w (embP d pth (olkP p qb Q n S a q))).1
            · rw [if_pos hlt, wrt_def, wrt_def]
              have v4 : (up (setT M1 (120 + (1 + 8 * (d + 1))) (spBatch p (qb q) a)) 116 d (nI q)) 114 4 = M 114 4 := by rw [up_a _ _ _ (by decide), s0 _ 114 (by omega)]; exact e4
              rw [v4]
              let MM : Mem := up (up (setT M1 (120 + (1 + 8 * (d + 1))) (spBatch p (qb q) a)) 116 d (nI q)) 114 4 ((M 114 4) ||| (1 <<< (nI q &&& 31)))
              have mm1 : ∀ c, c ≠ 114 → c ≠ 116 → MM c = (setT M1 (120 + (1 + 8 * (d + 1))) (spBatch p (qb q) a)) c := fun c z1 z2 => by
                show up (up _ 116 _ _) 114 _ _ c = _
                rw [up_a _ _ _ z1, up_a _ _ _ z2]
              have mm4 : MM 114 4 = (M 114 4) ||| (1 <<< (nI q &&& 31)) := up_eq _ _ _ _
              have mmj : ∀ j, j ≠ 4 → MM 114 j = M1 114 j := fun j hj => by
                show up (up _ 116 _ _) 114 _ _ 114 j = _
                rw [up_i _ _ hj, up_a _ _ _ (by decide), s0 _ 114 (by omega)]
              have mmp : ∀ i, MM 116 i = if i = d then nI q else M1 116 i := fun i => by
                show up (up _ 116 _ _) 114 _ _ 116 i = _
                rw [up_a _ _ _ (by decide)]
                by_cases z : i = d
                · rw [z, up_eq, if_pos rfl]
                · rw [up_i _ _ z, if_neg z, s0 _ 116 (by omega)]
              have mmlo : ∀ c, c < 114 ∨ (117 ≤ c ∧ c ≤ 129 + 8 * d) → MM c = M1 c := fun c hc => by rw [mm1 c (by omega) (by omega)]; exact s0 _ c (by omega)
              have mm5 : MM 115 = M1 115 := by rw [mm1 115 (by omega) (by omega)]; exact s0 _ 115 (by omega)
              obtain ⟨M3, r1, r2, r3, r4, r5⟩ := ih (d + 1) k2 MM (ins S q) (spBatch p (qb q) a) (pset pth d q) (mrg w (embP d pth (olkP p qb Q n S a q))) (by omega) (by omega) (hx1.of (fun j j1 j4 => mmj j j4) (fun c hc => mmlo c (Or.inl hc)) (mmlo 117 (by omega))) (setT_of (t := 120 + (1 + 8 * (d + 1))) (setT_setT M1 _ _ _).symm (fun c h1 h2 => mm1 c (by omega) (by omega))) hJ2 (by rw [mm4]; exact mk_or hmk (by omega)) (fun i hi => by
                rw [mmp]
                unfold pset
                by_cases z : i = d
                · rw [if_pos z, if_pos z]
                · rw [if_neg z, if_neg z, O1 i (by omega)]; exact ho i (by omega)) ⟨by rw [mmj 1 (by decide)]; exact W1.1, fun hh i hi => by rw [mm5]; exact W1.2 hh i hi⟩ hlt
              have r1 : f_X3_extend k2 (nI (d + 1)) (up (up (setT M1 (120 + (1 + 8 * (d + 1))) (spBatch p (qb q) a)) 116 d (nI q)) 114 4 ((M 114 4) ||| (1 <<< (nI q &&& 31)))) = some (0, M3) := r1
              have m34 : M3 114 4 = (M 114 4) ||| (1 <<< (nI q &&& 31)) := by rw [r3 4 (by decide)]; exact mm4
              rw [r1, bnd_some, wrt_def, m34, mk_clr hmk (by omega) hS2]
              refine ⟨_, rfl, ?_, fun j hj => ?_, fun i hi => ?_, fun c hc => ?_⟩
              · have r2' := r2
                rw [show (olP p qb Q n (ins S q) (spBatch p (qb q) a)) = ol (qC p qb) (fun q x => spBatch p (qb q) x) (spLat (ix (p 0)) 255) Q n (ins S q) ((fun q x => spBatch p (qb q) x) q a) from rfl, show mrg (mrg w (embP d pth (olkP p qb Q n S a q))) (embP (d + 1) (pset pth d q) (ol (qC p qb) (fun q x => spBatch p (qb q) x) (spLat (ix (p 0)) 255) Q n (ins S q) ((fun q x => spBatch p (qb q) x) q a))) = _ from cs] at r2'
                exact ⟨by rw [up_i _ _ (by decide)]; exact r2'.1, fun hh i hi => by rw [up_a _ _ _ (by decide)]; exact r2'.2 hh i hi⟩
              · by_cases z : j = 4
                · rw [z, up_eq]
                · rw [up_i _ _ z, r3 j hj, mmj j z]; exact Z1 j hj
              · rw [up_a _ _ _ (by decide), r4 i (by omega), mmp, if_neg (by omega)]; exact O1 i hi
              · rw [up_a _ _ _ (by omega), r5 c (by omega), mmlo c (by omega)]; exact F1 c hc
            · rw [if_neg hlt]
              refine ⟨_, rfl, ?_, fun j hj => ?_, fun i hi => ?_, fun c hc => ?_⟩
              · have no : mrg (mrg w (embP d pth (olkP p qb Q n S a q))) (embP (d + 1) (pset pth d q) (olP p qb Q n (ins S q) (spBatch p (qb q) a))) = mrg w (embP d pth (olkP p qb Q n S a q)) := mrg_no (Int32.le_trans (i32_nlt.mp hlt) hfc)
                have ee : mrg w (embP d pth (olkP p qb Q n S a (q + 1))) = mrg w (embP d pth (olkP p qb Q n S a q)) := cs.symm.trans no
                rw [ee]
                exact ⟨by rw [s0 _ 114 (by omega)]; exact W1.1, fun hh i hi => by rw [s0 _ 115 (by omega)]; exact W1.2 hh i hi⟩
              · rw [s0 _ 114 (by omega)]; exact Z1 j hj
              · rw [s0 _ 116 (by omega)]; exact O1 i hi
              · rw [s0 _ c (by omega)]; exact F1 c hc
          obtain ⟨M2, p1, p2, p3, p4, p5⟩ := place
          exact ⟨(nI (q + 1), M2), ⟨rfl, p2, p3, p4, p5⟩, fun K => by rw [head, if_neg (fun z => z hz), p1, bnd_some]⟩
        · -- something has to come before it, or the same batch
          refine skip (fun ⟨hv, hlt⟩ => ?_) (fun K => by rw [head, if_pos hz])
          have ex : ∃ o, o < 6 ∧ bfS (qD p qb) q o = true ∧ ¬ S o = true := by
            apply Classical.byContradiction
            intro no
            exact hz (msub.mpr (fun o ho hb2 => Classical.byContradiction (fun y => no ⟨o, ho, hb2, y⟩)))
          obtain ⟨o, ho6, hb2, hSo⟩ := ex
          unfold bfS at hb2
          rw [Bool.and_eq_true] at hb2
          have hoq : o < q := of_decide_eq_true hb2.1
          have hSo2 : S o = false := by cases z : S o with
            | false => rfl
            | true => exact absurd z hSo
          have hd2 := hb2.2
          unfold qD at hd2
          rw [Bool.or_eq_true] at hd2
          rcases hd2 with hsame | hc
          · have hsame : qb o = qb q := of_decide_eq_true hsame
            have sk := ol_skip (C := qC p qb) (stp := fun q x => spBatch p (qb q) x) (fin := spLat (ix (p 0)) 255) (Q := Q) hoq hq2 (fun x => by show spBatch p (qb o) x = spBatch p (qb q) x; rw [hsame]) (fun k => by unfold qC; rw [hsame]) (fun k => by unfold qC; rw [hsame]) (n := n) (a := a) hSo2 hv
            have le := olk_le (C := qC p qb) (stp := fun q x => spBatch p (qb q) x) (fin := spLat (ix (p 0)) 255) (Q := Q) n S a hoq sk.1
            exact Int32.lt_irrefl (Int32.lt_of_lt_of_le hlt (Int32.le_trans le sk.2))
          · have := (av_iff.mp hv).2 o hoq hc
            rw [hSo2] at this
            cases this
    · rintro ⟨y, M1⟩ ⟨hy, W1, Z1, O1, F1⟩
      have hy : y = nI Q := hy
      subst hy
      refine ⟨_, ⟨M1, rfl, W1, Z1, O1, F1⟩, fun K => ?_⟩
      have Z1 : ∀ j, j ≠ 1 → M1 114 j = M 114 j := Z1
      have F1 : ∀ c, c < 114 ∨ (117 ≤ c ∧ c ≤ 128 + 8 * d) → M1 c = M c := F1
      simp only [l_X3_extend_25]
      rw [Z1 10 (by decide), if_pos c2.1, c2.2, F1 50 (by omega), c3, if_pos (nI_le (Nat.le_refl _) (by omega))]
