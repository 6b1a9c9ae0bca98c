/-- BEFORE A BATCH, under automatic coherence -/
theorem c_before {Mx Mm : Mem} {v pr nc n bt : Nat} {l : Nat → Nat} {T : Nat} (hv : isV v) (hpr : pr + 12 < v) (hs : WFs (Mm 5)) (hnc : nc ≤ 8) (h2 : Mm 5 2 = nI nc) (hw : WFb (Mm 5) bt) (hu : PUs Mx pr (Mm 5) bt) (hR : RV nc Mx v (Mm 1)) (hC : RC nc Mx (v + 11) (Mm 1) n l T) : ∃ M2 a2, f_X1_writeBackAccessed (v + 11) pr (nI bt) v Mx = some (0, M2) ∧ f_X10_meetsLines (nI bt) 0 Mm = some (0, upA Mm 1 a2) ∧ RV nc M2 v a2 ∧ RC nc M2 (v + 11) a2 n l T ∧ FrC v Mx M2 ∧ FrA (Mm 1) a2 := by
  obtain ⟨hD, hK⟩ := hC.keys
  obtain ⟨M2, L, e1, hL, hR2, hC2, hF⟩ := x_before hv hpr hnc h2 hw hu hR hC
  obtain ⟨K, e2, hK2⟩ := m_before hs hw hnc h2 hD hC.cnt (fun i hi => (hK i hi).1)
  have hLn : ∀ j, j ∈ L → j < n := fun j hj => ((hL j).mp hj).1
  have hKn : ∀ j, j ∈ K → j < n := fun j hj => ((hK2 j).mp hj).1
  have e := cnL_same hD hnc hLn hKn (fun j _ => by rw [hL j, hK2 j]) (Mm 1)
  rw [e] at hR2 hC2
  exact ⟨M2, _, e1, e2, hR2, hC2, hF, fun j hj => cnL_keep hD hnc (Or.inr (by omega)) K hKn _⟩
/-! ===== behind a batch: lines of the rows that it stores go ===== -/
noncomputable def rmv (S : Nat → Prop) (f : Nat → Int32) (n : Nat) : Nat → Int32 := fun j => @ite _ (j < n ∧ ¬ f j = -1 ∧ S (ix (f j))) (Classical.propDecidable _) (-1) (f j)
theorem rmv_t {S : Nat → Prop} {f : Nat → Int32} {n j : Nat} (h : j < n) (h1 : ¬ f j = -1) (h2 : S (ix (f j))) : rmv S f n j = -1 := by unfold rmv; rw [if_pos ⟨h, h1, h2⟩]
theorem rmv_f {S : Nat → Prop} {f : Nat → Int32} {n j : Nat} (h : ¬ (j < n ∧ ¬ f j = -1 ∧ S (ix (f j)))) : rmv S f n j = f j := by unfold rmv; rw [if_neg h]
theorem rmv_ext {S S2 : Nat → Prop} {f : Nat → Int32} {n : Nat} (h : ∀ j, j < n → ¬ f j = -1 → (S (ix (f j)) ↔ S2 (ix (f j)))) : rmv S f n = rmv S2 f n := by
  funext j
  by_cases q : j < n ∧ ¬ f j = -1 ∧ S (ix (f j))
  · rw [rmv_t q.1 q.2.1 q.2.2, rmv_t q.1 q.2.1 ((h j q.1 q.2.1).mp q.2.2)]
  · rw [rmv_f q, rmv_f (fun z => q ⟨z.1, z.2.1, (h j z.1 z.2.1).mpr z.2.2⟩)]
/-- keys that a batch stores -/
def stoK (p : Nat → Int32) (bt : Nat) (y : Nat) : Prop := stoR p bt (y / 16) (y % 16)
theorem x_after {Mx : Mem} {v pr bt : Nat} {p : Nat → Int32} (hpr : pr + 12 < v) (hw : WFb p bt) (hu : PUs Mx pr p bt) (hk : ∀ j, j < 8 → ¬ Mx (v + 11 + 1) j = -1 → ∃ y, y < 128 ∧ Mx (v + 11 + 1) j = nI y) : f_X1_removeStored (v + 11) pr (nI bt) Mx = some (0, upA Mx (v + 11 + 1) (rmv (stoK p bt) (Mx (v + 11 + 1)) 8)) := by
  unfold f_X1_removeStored
  generalize hf : Mx (v + 11 + 1) = f at hk
  refine loop_run 8 (fun j => (nI j, upA Mx (v + 11 + 1) (rmv (stoK p bt) f j))) ?_ (by omega) (fun j hj K => ?_) (fun K => ?_)
  · have : rmv (stoK p bt) f 0 = f := by funext j; exact rmv_f (by omega)
    rw [this, ← hf, upA_self]; rfl
  · simp only [l_X1_removeStored_2]
    have hin := inb_T hj (show 8 < 2147483648 by decide)
    have hix : ix (nI j) = j := ix_nI (by omega)
    have ea : nI j + 1 = nI (j + 1) := by rw [n1, nI_add]
    have ej : rmv (stoK p bt) f j j = f j := rmv_f (by omega)
    rw [if_neg (show ¬ (8 : Int32) ≤ nI j from nI_ge (b := 8) hj (by decide)), if_pos (of_eq_true hin), hix, upA_eq, ej]
    unfold j_X1_removeStored_46
    rw [ea]
    by_cases z : f j = -1
    · rw [if_pos z]
      have : rmv (stoK p bt) f (j + 1) = rmv (stoK p bt) f j := by
        funext k
        by_cases q : k = j
        · subst q; rw [rmv_f (fun y => y.2.1 z), rmv_f (by omega)]
        · unfold rmv
          by_cases y : k < j ∧ ¬ f k = -1 ∧ stoK p bt (ix (f k))
          · rw [if_pos y, if_pos ⟨by omega, y.2⟩]
          · rw [if_neg y, if_neg (fun w => y ⟨by omega, w.2⟩)]
      rw [this]
    · rw [if_neg z]
      obtain ⟨y, hy, ey⟩ := hk j hj z
      have ed : nI y / 16 = nI (y / 16) := div_nI (d := 16) (by omega) (by decide) (by decide)
      have er : jrem (nI y) 16 = nI (y % 16) := rem_nI (d := 16) (by omega) (by decide) (by decide)
      have hix2 : ix (f j) = y := by rw [ey]; exact ix_nI (by omega)
      have hst := x_stores (M := upA Mx (v + 11 + 1) (rmv (stoK p bt) f j)) (pr := pr) (b := y / 16) (R := y % 16) hw (hu.of (fun k hk2 => upA_ne _ _ (by omega))) (by omega) (by omega)
      rw [ey, ed, er]
      have other : ∀ k, k ≠ j → rmv (stoK p bt) f (j + 1) k = rmv (stoK p bt) f j k := by
        intro k hkj
        unfold rmv
        by_cases w : k < j ∧ ¬ f k = -1 ∧ stoK p bt (ix (f k))
        · rw [if_pos w, if_pos ⟨by omega, w.2⟩]
        · rw [if_neg w, if_neg (fun w2 => w ⟨by omega, w2.2⟩)]
      by_cases q : stoR p bt (y / 16) (y % 16)
      · rw [hst.1 q, bnd_some, if_neg (by decide)]
        unfold f_X1_removeLine
        rw [if_pos (ne_m1 (by omega)), if_pos (of_eq_true hin), hix, wrt_def, bnd_some, up_upA]
        have : upd (rmv (stoK p bt) f j) j (-1) = rmv (stoK p bt) f (j + 1) := by
          funext k
          by_cases w : k = j
          · subst w; rw [upd_eq, rmv_t (by omega) z (by rw [hix2]; exact q)]
          · rw [upd_ne _ _ w, other k w]
        rw [this]
      · rw [hst.2 q, bnd_some, if_pos rfl]
        have : rmv (stoK p bt) f (j + 1) = rmv (stoK p bt) f j := by
          funext k
          by_cases w : k = j
          · subst w; rw [rmv_f (fun w2 => q (by have := w2.2.2; rw [hix2] at this; exact this)), rmv_f (by omega)]
          · exact other k w
        rw [this]
  · simp only [l_X1_removeStored_2]
    rw [if_pos (show (8 : Int32) ≤ nI 8 from nI_le (a := 8) (Nat.le_refl 8) (by decide))]
