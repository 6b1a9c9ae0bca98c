/-! ===== the longest chain ===== -/
noncomputable def chS (p : Nat → Int32) (qb : Nat → Nat) (k o : Nat) (c : Nat → Int32) : Nat → Int32 := if c o < c k then c else if cfI p (qb o) (qb k) = 0 then c else upd c k (c o + 1)
noncomputable def chK (p : Nat → Int32) (qb : Nat → Nat) (k n : Nat) (c : Nat → Int32) : Nat → Int32 := foldN (chS p qb k) n (upd c k 1)
noncomputable def chO (p : Nat → Int32) (qb : Nat → Nat) (n : Nat) (c : Nat → Int32) : Int32 × (Nat → Int32) := foldN (fun k s => (mx s.1 (chK p qb k k s.2 k), chK p qb k k s.2)) n (0, c)
theorem x_chain {M : Mem} {pr g Q : Nat} {p : Nat → Int32} {qb : Nat → Nat} (hpr : pr + 12 < 119) (hg : g + 1 < 119) (hQ : Q ≤ 16) (hq0 : M g 1 = nI Q) (hq : ∀ i, i < Q → M (g + 1) i = nI (qb i) ∧ qb i < 12 ∧ PUs M pr p (qb i)) : f_X3_chainLength pr g M = some ((chO p qb Q (M 119)).1, upA M 119 (chO p qb Q (M 119)).2) := by
  unfold f_X3_chainLength
  have eg : ∀ c, (upA M 119 c) g = M g := fun c => upA_ne _ _ (by omega)
  have eg1 : ∀ c, (upA M 119 c) (g + 1) = M (g + 1) := fun c => upA_ne _ _ (by omega)
  refine loop_run Q (fun k => ((chO p qb k (M 119)).1, nI k, upA M 119 (chO p qb k (M 119)).2)) (by show (0, 0, M) = (0, nI 0, upA M 119 (M 119)); rw [upA_self]; rfl) (by omega) (fun k hk K => ?_) (fun K => ?_)
  · have e1 : (chO p qb (k + 1) (M 119)).1 = mx (chO p qb k (M 119)).1 (chK p qb k k (chO p qb k (M 119)).2 k) := rfl
    have e2 : (chO p qb (k + 1) (M 119)).2 = chK p qb k k (chO p qb k (M 119)).2 := rfl
    rw [e1, e2]
    generalize (chO p qb k (M 119)).1 = w
    generalize (chO p qb k (M 119)).2 = c
    simp only [l_X3_chainLength_5]
    rw [eg, hq0, if_neg (nI_ge hk (by omega)), if_pos (of_eq_true (inb_T (show k < 16 by omega) (by decide))), ix_nI (by omega), wrt_def, up_upA]
    refine loop_run k (fun o => (nI o, upA M 119 (chK p qb k o c))) rfl (by omega) (fun o ho K2 => ?_) (fun K2 => ?_)
    · simp only [l_X3_chainLength_25]
      have e3 : chK p qb k (o + 1) c = chS p qb k o (chK p qb k o c) := rfl
      rw [e3]
      generalize chK p qb k o c = d
      have io := inb_T (k := o) (n := 16) (by omega) (by decide)
      have ik := inb_T (k := k) (n := 16) (by omega) (by decide)
      have xo : ix (nI o) = o := ix_nI (by omega)
      have xk : ix (nI k) = k := ix_nI (by omega)
      have hc := x_conf (M := upA M 119 d) (pr := pr) (p := p) (x := qb o) (y := qb k) (hq o (by omega)).2.1 (hq k hk).2.1 ((hq o (by omega)).2.2.of (fun j hj => upA_ne _ _ (by omega))) ((hq k hk).2.2.of (fun j hj => upA_ne _ _ (by omega)))
      rw [if_neg (nI_ge ho (by omega))]
      simp only [↓reduceIte, io, ik, xo, xk, upA_eq, eg1, (hq o (by omega)).1, (hq k hk).1]
      unfold j_X3_chainLength_86 chS
      rw [hc, bnd_some, nI_1]
      by_cases z : d o < d k
      · rw [if_pos z, if_pos z]
      · rw [if_neg z, if_neg z]
        by_cases y : cfI p (qb o) (qb k) = 0
        · rw [if_pos y, if_pos y]
        · rw [if_neg y, if_neg y, wrt_def, up_upA, upA_eq]
    · simp only [l_X3_chainLength_25]
      rw [if_pos (nI_le (Nat.le_refl _) (by omega)), if_pos (of_eq_true (inb_T (show k < 16 by omega) (by decide))), ix_nI (by omega), upA_eq, imax_mx, nI_1]
  · simp only [l_X3_chainLength_5]
    rw [eg, hq0, if_pos (nI_le (Nat.le_refl _) (by omega))]
theorem chO_eq {p : Nat → Int32} {qb : Nat → Nat} {n : Nat} (c d : Nat → Int32) : (chO p qb n c).1 = (chO p qb n d).1 ∧ ∀ i, i < n → (chO p qb n c).2 i = (chO p qb n d).2 i := by
  induction n with
  | zero => exact ⟨rfl, fun i hi => by omega⟩
  | succ n ih =>
    obtain ⟨h1, h2⟩ := ih
    have e1 : ∀ c, (chO p qb (n + 1) c).1 = mx (chO p qb n c).1 (chK p qb n n (chO p qb n c).2 n) := fun c => rfl
    have e2 : ∀ c, (chO p qb (n + 1) c).2 = chK p qb n n (chO p qb n c).2 := fun c => rfl
    have key : ∀ i, i < n + 1 → chK p qb n n (chO p qb n c).2 i = chK p qb n n (chO p qb n d).2 i := by
      unfold chK
      refine foldN_rel (fun (x y : Nat → Int32) => ∀ i, i < n + 1 → x i = y i) (fun i hi => ?_) (fun o ho x y hxy i hi => ?_)
      · by_cases q : i = n
        · subst q; rw [upd_eq, upd_eq]
        · rw [upd_ne _ _ q, upd_ne _ _ q]; exact h2 i (by omega)
      · unfold chS
        rw [hxy o (by omega), hxy n (by omega)]
        split
        · exact hxy i hi
        · split
          · exact hxy i hi
          · by_cases q : i = n
            · subst q; rw [upd_eq, upd_eq]
            · rw [upd_ne _ _ q, upd_ne _ _ q]; exact hxy i hi
    refine ⟨by rw [e1, e1, h1, key n (by omega)], fun i hi => by rw [e2, e2]; exact key i hi⟩
