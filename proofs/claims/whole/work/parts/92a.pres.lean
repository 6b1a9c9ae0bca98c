/-! ===== what a computation keeps ===== -/
def Pres {ρ : Type} (P : Mem → Prop) (o : Option (ρ × Mem)) : Prop := ∀ r M2, o = some (r, M2) → P M2
theorem pres_none {ρ : Type} {P : Mem → Prop} : Pres (ρ := ρ) P none := fun _ _ h => by cases h
theorem pres_some {ρ : Type} {P : Mem → Prop} {r : ρ} {M : Mem} (h : P M) : Pres P (some (r, M)) := fun _ _ e => by cases e; exact h
theorem pres_wrt {ρ : Type} {P : Mem → Prop} {M : Mem} {k : Mem → Option (ρ × Mem)} (h : Pres P (k M)) : Pres P (wrt M k) := h
theorem pres_bnd {ρ : Type} {P : Mem → Prop} {o : Option (Int32 × Mem)} {k : Int32 → Mem → Option (ρ × Mem)} (h : Pres P o) (hk : ∀ v M, P M → Pres P (k v M)) : Pres P (bnd o k) := by
  intro r M2 e
  cases o with
  | none => cases e
  | some q => exact hk q.1 q.2 (h q.1 q.2 rfl) r M2 e
theorem pres_loop {σ ρ : Type} {P : Mem → Prop} {body : (σ → Option (ρ × Mem)) → σ → Option (ρ × Mem)} (I : σ → Prop) (h : ∀ K s, (∀ t, I t → Pres P (K t)) → I s → Pres P (body K s)) : ∀ n s, I s → Pres P (loopC body n s) := by
  intro n
  induction n with
  | zero => intro s _; exact pres_none
  | succ n ih => intro s hs; exact h (loopC body n) s (fun t ht => ih t ht) hs
/-- booleans in the first eight places of a cell -/
def dB (q : Nat) (M : Mem) : Prop := ∀ j, j < 8 → isB (M q j)
theorem dB_up {q c i : Nat} {M : Mem} {x : Int32} (hc : q ≠ c) (h : dB q M) : dB q (up M c i x) := fun j hj => by rw [up_a _ _ _ hc]; exact h j hj
theorem dB_upA {q c : Nat} {M : Mem} {f : Nat → Int32} (hc : q ≠ c) (h : dB q M) : dB q (upA M c f) := fun j hj => by rw [upA_ne _ _ hc]; exact h j hj
theorem dB_cpy {q a b : Nat} {M : Mem} {x y z : Int32} (hc : q ≠ b) (h : dB q M) : dB q (cpy M a x b y z) := dB_upA hc h
theorem dB_up0 {q i : Nat} {M : Mem} (h : dB q M) : dB q (up M q i 0) := fun j hj => by
  by_cases e : j = i
  · subst e; rw [up_eq]; exact Or.inl rfl
  · rw [up_i _ _ e]; exact h j hj
theorem dB_up1 {q i : Nat} {M : Mem} (h : dB q M) : dB q (up M q i 1) := fun j hj => by
  by_cases e : j = i
  · subst e; rw [up_eq]; exact Or.inr rfl
  · rw [up_i _ _ e]; exact h j hj
theorem dB_of {q : Nat} {M M2 : Mem} (h : dB q M) (e : M2 q = M q) : dB q M2 := fun j hj => by rw [e]; exact h j hj
theorem pres_wb {q v : Nat} {x : Int32} {M : Mem} (hv : q + 2 ≠ v + 1) (h : dB (q + 2) M) : Pres (dB (q + 2)) (f_X1_writeBack q x v M) := by
  unfold f_X1_writeBack j_X1_writeBack_24 f_X9_copyWords
  repeat' (first | exact pres_none | exact pres_some (by assumption) | refine pres_some ?_ | refine pres_wrt ?_ | refine pres_bnd ?_ (fun _ _ _ => ?_) | split | assumption | exact dB_up0 (by assumption) | refine dB_up0 ?_ | (refine dB_up (by omega) ?_) | (refine dB_cpy (by omega) ?_) | (refine dB_upA (by omega) ?_))
theorem pres_rm {q : Nat} {x : Int32} {M : Mem} (h : dB (q + 2) M) : Pres (dB (q + 2)) (f_X1_removeLine q x M) := by
  unfold f_X1_removeLine
  repeat' (first | exact pres_none | exact pres_some (by assumption) | refine pres_some ?_ | refine pres_wrt ?_ | refine pres_bnd ?_ (fun _ _ _ => ?_) | split | assumption | exact dB_up0 (by assumption) | refine dB_up0 ?_ | (refine dB_up (by omega) ?_) | (refine dB_cpy (by omega) ?_) | (refine dB_upA (by omega) ?_))
theorem pres_wba {q v pr : Nat} {x : Int32} {M : Mem} (hv : q + 2 ≠ v + 1) (h : dB (q + 2) M) : Pres (dB (q + 2)) (f_X1_writeBackAccessed q pr x v M) := by
  unfold f_X1_writeBackAccessed
  refine pres_loop (fun s => dB (q + 2) s.2) (fun K s hK hs => ?_) _ _ h
  obtain ⟨y, M1⟩ := s
  simp only [l_X1_writeBackAccessed_3, j_X1_writeBackAccessed_51, f_X4_accessesRow]
  repeat' (first | exact pres_none | exact pres_some (by assumption) | exact pres_wb hv (by assumption) | exact hK _ (by assumption) | refine pres_some ?_ | refine pres_wrt ?_ | refine pres_bnd ?_ (fun _ _ _ => ?_) | split | assumption | exact dB_up0 (by assumption) | refine dB_up0 ?_ | (refine dB_up (by omega) ?_) | (refine dB_cpy (by omega) ?_) | (refine dB_upA (by omega) ?_))
theorem pres_rms {q pr : Nat} {x : Int32} {M : Mem} (h : dB (q + 2) M) : Pres (dB (q + 2)) (f_X1_removeStored q pr x M) := by
  unfold f_X1_removeStored
  refine pres_loop (fun s => dB (q + 2) s.2) (fun K s hK hs => ?_) _ _ h
  obtain ⟨y, M1⟩ := s
  simp only [l_X1_removeStored_2, j_X1_removeStored_46, f_X4_storesRow]
  repeat' (first | exact pres_none | exact pres_some (by assumption) | exact pres_rm (by assumption) | exact hK _ (by assumption) | refine pres_some ?_ | refine pres_wrt ?_ | refine pres_bnd ?_ (fun _ _ _ => ?_) | split | assumption | exact dB_up0 (by assumption) | refine dB_up0 ?_ | (refine dB_up (by omega) ?_) | (refine dB_cpy (by omega) ?_) | (refine dB_upA (by omega) ?_))
theorem pres_low {q : Nat} {x : Int32} {M : Mem} (h : dB q M) : Pres (dB q) (f_X9_lowestBank x M) := by
  unfold f_X9_lowestBank
  refine pres_loop (fun s => dB q s.2) (fun K s hK hs => ?_) _ _ h
  obtain ⟨y, M1⟩ := s
  simp only [l_X9_lowestBank_2, j_X9_lowestBank_22]
  repeat' (first | exact pres_none | exact pres_some (by assumption) | exact hK _ (by assumption) | refine pres_some ?_ | refine pres_wrt ?_ | refine pres_bnd ?_ (fun _ _ _ => ?_) | split | assumption | exact dB_up0 (by assumption) | refine dB_up0 ?_ | (refine dB_up (by omega) ?_) | (refine dB_cpy (by omega) ?_) | (refine dB_upA (by omega) ?_))
theorem pres_sl {q v : Nat} {x y : Int32} {M : Mem} (hv : q ≠ v + 2) (h : dB q M) : Pres (dB q) (f_X8_setLanes v x y M) := by
  unfold f_X8_setLanes
  refine pres_loop (fun s => dB q s.2) (fun K s hK hs => ?_) _ _ h
  obtain ⟨z, M1⟩ := s
  simp only [l_X8_setLanes_2]
  repeat' (first | exact pres_none | exact pres_some (by assumption) | exact hK _ (dB_up hv (by assumption)) | refine pres_some ?_ | refine pres_wrt ?_ | refine pres_bnd ?_ (fun _ _ _ => ?_) | split | assumption | exact dB_up0 (by assumption) | refine dB_up0 ?_ | (refine dB_up (by omega) ?_) | (refine dB_cpy (by omega) ?_) | (refine dB_upA (by omega) ?_))
theorem pres_cr {q v pr : Nat} {x y z w : Int32} {M : Mem} (hv : q ≠ v + 2) (h : dB q M) : Pres (dB q) (f_X8_combineRegisters v pr x y z w M) := by
  unfold f_X8_combineRegisters
  split
  · refine pres_loop (fun s => dB q s.2) (fun K s hK hs => ?_) _ _ h
    obtain ⟨z, M1⟩ := s
    simp only [l_X8_combineRegisters_11]
    repeat' (first | exact pres_none | exact pres_some (by assumption) | exact hK _ (dB_up hv (by assumption)) | refine pres_some ?_ | refine pres_wrt ?_ | refine pres_bnd ?_ (fun _ _ _ => ?_) | split | assumption | exact dB_up0 (by assumption) | refine dB_up0 ?_ | (refine dB_up (by omega) ?_) | (refine dB_cpy (by omega) ?_) | (refine dB_upA (by omega) ?_))
  · exact pres_none
theorem pres_cl {q v pr : Nat} {x y : Int32} {M : Mem} (hv : q ≠ v + 2) (h : dB q M) : Pres (dB q) (f_X8_combineLanes v pr x y M) := by
  unfold f_X8_combineLanes
  split
  · refine pres_loop (fun s => dB q s.2) (fun K s hK hs => ?_) _ _ h
    obtain ⟨z, M1⟩ := s
    simp only [l_X8_combineLanes_11]
    repeat' (first | exact pres_none | exact pres_some (by assumption) | exact hK _ (dB_up hv (by assumption)) | refine pres_some ?_ | refine pres_wrt ?_ | refine pres_bnd ?_ (fun _ _ _ => ?_) | split | assumption | exact dB_up0 (by assumption) | refine dB_up0 ?_ | (refine dB_up (by omega) ?_) | (refine dB_cpy (by omega) ?_) | (refine dB_upA (by omega) ?_))
  · exact pres_none
theorem pres_cw {q t0 t2 : Nat} {x y : Int32} {M : Mem} (hv : q ≠ t2) (h : dB q M) : Pres (dB q) (f_X9_copyWords t0 x t2 y M) := by
  unfold f_X9_copyWords
  repeat' (first | exact pres_none | exact pres_some (by assumption) | refine pres_some ?_ | refine pres_wrt ?_ | refine pres_bnd ?_ (fun _ _ _ => ?_) | split | assumption | exact dB_up0 (by assumption) | refine dB_up0 ?_ | (refine dB_up (by omega) ?_) | (refine dB_cpy (by omega) ?_) | (refine dB_upA (by omega) ?_))
theorem pres_ite {ρ : Type} {P : Mem → Prop} {c : Prop} {d : Decidable c} {A B : Option (ρ × Mem)} (h1 : Pres P A) (h2 : Pres P B) : Pres P (@ite _ c d A B) := by
  split
  · exact h1
  · exact h2
theorem pres_ex {q v pr : Nat} {x y z : Int32} {M : Mem} (hv : q ≠ v + 1) (hv2 : q ≠ v + 2) (h : dB q M) : Pres (dB q) (f_X8_execute v pr x y z M) := by
  unfold f_X8_execute j_X8_execute_244
  exact pres_ite (pres_ite (pres_ite (pres_ite (pres_ite (pres_ite (pres_some h) (pres_bnd (pres_cr hv2 h) (fun _ _ h => pres_some h))) (pres_ite (pres_bnd (pres_cw hv2 h) (fun _ _ h => pres_some h)) (pres_ite (pres_bnd (pres_cw hv h) (fun _ _ h => pres_some h)) (pres_ite (pres_bnd (pres_sl hv2 h) (fun _ _ h => pres_some h)) (pres_ite (pres_bnd (pres_cl hv2 h) (fun _ _ h => pres_some h)) (pres_ite (pres_bnd (pres_cw hv2 h) (fun _ _ h => pres_some h)) (pres_ite (pres_ite (pres_bnd (pres_cr hv2 h) (fun _ _ h => pres_some h)) pres_none) (pres_some h)))))))) pres_none) pres_none) pres_none) pres_none
theorem pres_vr {q v pr : Nat} {x : Int32} {M : Mem} (hv : q ≠ v + 1) (hv2 : q ≠ v + 2) (h : dB q M) : Pres (dB q) (f_X8_runBatch v pr x M) := by
  unfold f_X8_runBatch
  refine pres_ite (pres_bnd (pres_low h) (fun w M1 h1 => pres_ite ?_ pres_none)) pres_none
  refine pres_loop (fun s => dB q s.2) (fun K s hK hs => ?_) _ _ h1
  obtain ⟨z, M2⟩ := s
  simp only [l_X8_runBatch_21]
  refine pres_ite (pres_ite (pres_some hs) ?_) pres_none
  refine pres_loop (fun s => dB q s.2) (fun K2 s2 hK2 hs2 => ?_) _ _ hs
  obtain ⟨z2, M3⟩ := s2
  simp only [l_X8_runBatch_36, j_X8_runBatch_63]
  exact pres_ite (hK _ hs2) (pres_ite (hK2 _ hs2) (pres_bnd (pres_ex hv hv2 hs2) (fun _ _ h => hK2 _ h)))
theorem pres_comp {st pr : Nat} {x : Int32} {M : Mem} (h : dB (st + 14) M) : Pres (dB (st + 14)) (f_X5_computeBatch st pr x M) := by
  have j20 : ∀ M1, dB (st + 14) M1 → Pres (dB (st + 14)) (j_X5_computeBatch_20 st pr x M1) := by
    intro M1 h1
    unfold j_X5_computeBatch_20 j_X5_computeBatch_45
    exact pres_bnd (pres_vr (by omega) (by omega) h1) (fun _ _ h => pres_ite (pres_some h) (pres_bnd (pres_rms (q := st + 12) h) (fun _ _ h => pres_some h)))
  unfold f_X5_computeBatch
  exact pres_ite (j20 _ h) (pres_bnd (pres_wba (q := st + 12) (v := st + 1) (by omega) h) (fun _ _ h => j20 _ h))
theorem pres_use {q v : Nat} {x y z : Int32} {M : Mem} (hv : q + 2 ≠ v + 1) (h : dB (q + 2) M) : Pres (dB (q + 2)) (f_X1_useLine q x y z v M) := by
  have lw : ∀ X M1, dB (q + 2) M1 → Pres (dB (q + 2)) (f_X1_lineWith q X M1) := by
    intro X M1 h1
    unfold f_X1_lineWith
    refine pres_loop (fun s => dB (q + 2) s.2) (fun K s hK hs => ?_) _ _ h1
    obtain ⟨w, M2⟩ := s
    simp only [l_X1_lineWith_2]
    repeat' (first | exact pres_none | exact pres_some (by assumption) | exact hK _ (by assumption) | refine pres_some ?_ | refine pres_wrt ?_ | refine pres_bnd ?_ (fun _ _ _ => ?_) | split | assumption | exact dB_up0 (by assumption) | refine dB_up0 ?_ | (refine dB_up (by omega) ?_) | (refine dB_cpy (by omega) ?_) | (refine dB_upA (by omega) ?_))
  have lc : ∀ M1, dB (q + 2) M1 → Pres (dB (q + 2)) (f_X1_lineCount q M1) := by
    intro M1 h1
    unfold f_X1_lineCount
    refine pres_loop (fun s => dB (q + 2) s.2.2) (fun K s hK hs => ?_) _ _ h1
    obtain ⟨w, u, M2⟩ := s
    simp only [l_X1_lineCount_4]
    repeat' (first | exact pres_none | exact pres_some (by assumption) | exact hK _ (by assumption) | refine pres_some ?_ | refine pres_wrt ?_ | refine pres_bnd ?_ (fun _ _ _ => ?_) | split | assumption | exact dB_up0 (by assumption) | refine dB_up0 ?_ | (refine dB_up (by omega) ?_) | (refine dB_cpy (by omega) ?_) | (refine dB_upA (by omega) ?_))
  have lo : ∀ M1, dB (q + 2) M1 → Pres (dB (q + 2)) (f_X1_oldestLine q M1) := by
    intro M1 h1
    unfold f_X1_oldestLine
    refine pres_loop (fun s => dB (q + 2) s.2.2) (fun K s hK hs => ?_) _ _ h1
    obtain ⟨w, u, M2⟩ := s
    simp only [l_X1_oldestLine_4, j_X1_oldestLine_35, j_X1_oldestLine_40]
    repeat' (first | exact pres_none | exact pres_some (by assumption) | exact hK _ (by assumption) | refine pres_some ?_ | refine pres_wrt ?_ | refine pres_bnd ?_ (fun _ _ _ => ?_) | split | assumption | exact dB_up0 (by assumption) | refine dB_up0 ?_ | (refine dB_up (by omega) ?_) | (refine dB_cpy (by omega) ?_) | (refine dB_upA (by omega) ?_))
  have mk : ∀ w M1, dB (q + 2) M1 → Pres (dB (q + 2)) (j_X1_makeLine_20 q ((x * 16) + y) v w M1) := by
    intro w M1 h1
    unfold j_X1_makeLine_20
    exact pres_bnd (pres_wb hv h1) (fun _ _ h => pres_ite (pres_wrt (pres_ite (pres_wrt (pres_bnd (pres_cw (by omega) (dB_up0 (dB_up (by omega) h))) (fun _ _ h => pres_some h))) pres_none)) pres_none)
  have u58 : ∀ w M1, dB (q + 2) M1 → Pres (dB (q + 2)) (j_X1_useLine_58 q w M1) := by
    intro w M1 h1
    unfold j_X1_useLine_58
    exact pres_ite (pres_wrt (pres_some (dB_up (by omega) h1))) pres_none
  unfold f_X1_useLine f_X1_lineOf f_X1_makeLine
  exact pres_bnd (pres_bnd (lw _ _ h) (fun _ _ h => pres_some h)) (fun _ _ h => pres_ite (pres_wrt (pres_ite (pres_bnd (pres_bnd (lc _ (dB_up (by omega) h)) (fun _ _ h => pres_ite (pres_bnd (lo _ h) (fun _ _ h => mk _ _ h)) (pres_bnd (lw _ _ h) (fun _ _ h => mk _ _ h)))) (fun _ _ h => u58 _ _ h)) (pres_some (dB_up (by omega) h)))) (pres_wrt (u58 _ _ (dB_up (by omega) h))))
