/-! ===== before a batch: lines of the rows that it takes are written back ===== -/
def bK (a : Nat → Int32) (i : Nat) : Nat := ix (a (cl i 0))
def rK (a : Nat → Int32) (i : Nat) : Nat := ix (a (cl i 1))
theorem isL_K {a : Nat → Int32} {b r i : Nat} (hb : b < 8) (hr : r < 16) (h : isL a b r i) : bK a i = b ∧ rK a i = r := by
  unfold bK rK
  rw [h.1, h.2, ix_nI (by omega), ix_nI (by omega)]
  exact ⟨rfl, rfl⟩
theorem RC.keys {nc : Nat} {M : Mem} {q : Nat} {a : Nat → Int32} {n : Nat} {l : Nat → Nat} {T : Nat} (h : RC nc M q a n l T) : DK n (bK a) (rK a) ∧ ∀ i, i < n → isL a (bK a i) (rK a i) i ∧ M (q + 1) (l i) = nI (16 * bK a i + rK a i) := by
  have key : ∀ i, i < n → bK a i < 8 ∧ rK a i < 16 ∧ isL a (bK a i) (rK a i) i ∧ M (q + 1) (l i) = nI (16 * bK a i + rK a i) := by
    intro i hi
    obtain ⟨b, r, hb, hr, hL, e, -⟩ := h.line i hi
    obtain ⟨e1, e2⟩ := isL_K hb hr hL
    rw [e1, e2]
    exact ⟨hb, hr, hL, e⟩
  refine ⟨⟨h.n8, fun i hi => ⟨(key i hi).1, (key i hi).2.1⟩, fun i j hi hj hne z => ?_⟩, fun i hi => (key i hi).2.2⟩
  have e : M (q + 1) (l i) = M (q + 1) (l j) := by rw [(key i hi).2.2.2, (key j hj).2.2.2, z.1, z.2]
  rcases Nat.lt_trichotomy i j with y | y | y
  · exact h.dist i j y hj e
  · exact hne y
  · exact h.dist j i y hi e.symm
theorem m_cn {Mm : Mem} {A : Nat → Int32} {B R : Nat → Nat} {nc n i : Nat} (hD : DK n B R) (hi : i < n) (hnc : nc ≤ 8) (h2 : Mm 5 2 = nI nc) (hL : isL A (B i) (R i) i) : ∃ d, f_X10_cleans (nI i) (upA Mm 1 A) = some (d, upA Mm 1 (cn B R nc i A)) := by
  have h8 := hD.1
  have bi := hD.2.1 i hi
  by_cases z : A (cl i 2) = 0
  · exact ⟨0, by rw [cn_0 z]; exact m_clean0 (by omega) (by rw [upA_eq]; exact z)⟩
  · refine ⟨1, ?_⟩
    have e5 : (upA Mm 1 A) 5 = Mm 5 := upA_ne _ _ (by decide)
    have := m_cleans (M := upA Mm 1 A) (i := i) (b := B i) (r := R i) (nc := nc) (by omega) bi.1 bi.2 (by rw [upA_eq]; exact hL) (by rw [e5]; exact h2) hnc (by rw [upA_eq]; exact z)
    rw [upA_upA, upA_eq] at this
    rw [this]
    unfold cn
    rw [if_neg z]
theorem upA_inj {M : Mem} {c : Nat} {f g : Nat → Int32} (h : upA M c f = upA M c g) : f = g := by
  have := congrFun h c
  rw [upA_eq, upA_eq] at this
  exact this
theorem PUs.of {M M2 : Mem} {pr bt : Nat} {p : Nat → Int32} (h : PUs M pr p bt) (e : ∀ k, k ≤ 12 → M2 (pr + k) = M (pr + k)) : PUs M2 pr p bt := by
  intro b hb
  rw [e 11 (by omega), e 12 (by omega)]
  exact h b hb
theorem FrC.pr {v pr : Nat} {M M2 : Mem} (h : FrC v M M2) (hpr : pr + 12 < v) : ∀ k, k ≤ 12 → M2 (pr + k) = M (pr + k) := fun k hk => h _ (by omega) (by omega)
theorem x_before {Mx Mm : Mem} {v pr nc n bt : Nat} {p : Nat → Int32} {l : Nat → Nat} {T : Nat} (hv : isV v) (hpr : pr + 12 < v) (hnc : nc ≤ 8) (h2 : Mm 5 2 = nI nc) (hw : WFb p bt) (hu : PUs Mx pr p bt) (hR : RV nc Mx v (Mm 1)) (hC : RC nc Mx (v + 11) (Mm 1) n l T) : ∃ M2 L, f_X1_writeBackAccessed (v + 11) pr (nI bt) v Mx = some (0, M2) ∧ (∀ i, i ∈ L ↔ i < n ∧ accR p bt (bK (Mm 1) i) (rK (Mm 1) i)) ∧ RV nc M2 v (cnL (bK (Mm 1)) (rK (Mm 1)) nc L (Mm 1)) ∧ RC nc M2 (v + 11) (cnL (bK (Mm 1)) (rK (Mm 1)) nc L (Mm 1)) n l T ∧ FrC v Mx M2 := by
  obtain ⟨hD, hK⟩ := hC.keys
  have h8 := hC.n8
  generalize bK (Mm 1) = B at hD hK
  generalize rK (Mm 1) = R at hD hK
  generalize Mm 1 = a at *
  unfold f_X1_writeBackAccessed
  refine Exists.elim (loop_inv (body := l_X1_writeBackAccessed_3 (v + 11) pr (nI bt) v) (init := (0, Mx)) (Q := fun res => ∃ M2 L, res = some (0, M2) ∧ (∀ i, i ∈ L ↔ i < n ∧ accR p bt (B i) (R i)) ∧ RV nc M2 v (cnL B R nc L a) ∧ RC nc M2 (v + 11) (cnL B R nc L a) n l T ∧ FrC v Mx M2) 8 (fun j st => st.1 = nI j ∧ ∃ L, (∀ i, i ∈ L ↔ i < n ∧ l i < j ∧ accR p bt (B i) (R i)) ∧ RV nc st.2 v (cnL B R nc L a) ∧ RC nc st.2 (v + 11) (cnL B R nc L a) n l T ∧ FrC v Mx st.2 ∧ st.2 (v + 11 + 1) = Mx (v + 11 + 1)) ⟨rfl, [], fun i => ⟨fun z => absurd z List.not_mem_nil, fun z => by omega⟩, hR, hC, FrC.refl v Mx, rfl⟩ (by omega) ?_ ?_) (fun res hres => ?_)
  · rintro j hj ⟨x4, M1⟩ ⟨rfl, L, hL, hR1, hC1, hF1, hr1⟩
    have hR1 : RV nc M1 v (cnL B R nc L a) := hR1
    have hC1 : RC nc M1 (v + 11) (cnL B R nc L a) n l T := hC1
    have hF1 : FrC v Mx M1 := hF1
    have hr1 : M1 (v + 11 + 1) = Mx (v + 11 + 1) := hr1
    have hLn : ∀ j, j ∈ L → j < n := fun j hj => ((hL j).mp hj).1
    have hin := inb_T hj (show 8 < 2147483648 by decide)
    have hix : ix (nI j) = j := ix_nI (by omega)
    have hlt : ¬ (8 : Int32) ≤ nI j := nI_ge (b := 8) hj (by decide)
    have ea : nI j + 1 = nI (j + 1) := by rw [n1, nI_add]
    by_cases hz : M1 (v + 11 + 1) j = -1
    · refine ⟨(nI (j + 1), M1), ⟨rfl, L, fun i => ?_, hR1, hC1, hF1, hr1⟩, fun K => ?_⟩
      · rw [hL i]
        refine ⟨fun z => ⟨z.1, by omega, z.2.2⟩, fun z => ⟨z.1, ?_, z.2.2⟩⟩
        apply Classical.byContradiction
        intro y
        have e : l i = j := by omega
        exact (hC1.line i z.1).used (by rw [e]; exact hz)
      · simp only [l_X1_writeBackAccessed_3]
        rw [if_neg hlt, if_pos (of_eq_true hin), hix, if_pos hz]
        unfold j_X1_writeBackAccessed_51
        rw [ea]
    · obtain ⟨i, hi, hli⟩ := hC1.cov j hj hz
      have bi := hD.2.1 i hi
      obtain ⟨hKL, hKr⟩ := hK i hi
      rw [hli] at hKr
      have hrow : M1 (v + 11 + 1) j = nI (16 * B i + R i) := by rw [hr1]; exact hKr
      have ed : nI (16 * B i + R i) / 16 = nI (B i) := by
        rw [show (16 : Int32) = nI 16 from rfl, div_nI (by omega) (by omega) (by omega)]; congr 1; omega
      have er : jrem (nI (16 * B i + R i)) 16 = nI (R i) := by
        rw [show (16 : Int32) = nI 16 from rfl, rem_nI (by omega) (by omega) (by omega)]; congr 1; omega
      have hacc := x_accesses (M := M1) (pr := pr) (b := B i) (R := R i) hw (hu.of (hF1.pr hpr)) bi.1 bi.2
      have key : ∀ K, l_X1_writeBackAccessed_3 (v + 11) pr (nI bt) v K (nI j, M1) = bnd (f_X4_accessesRow pr (nI bt) (nI (B i)) (nI (R i)) M1) (fun v4 M5 => if v4 = 0 then K (nI (j + 1), M5) else bnd (f_X1_writeBack (v + 11) (nI j) v M5) (fun v7 M8 => K (nI (j + 1), M8))) := by
        intro K
        simp only [l_X1_writeBackAccessed_3]
        rw [if_neg hlt, if_pos (of_eq_true hin), hix, hrow, if_neg (ne_m1 (by omega)), ed, er]
        unfold j_X1_writeBackAccessed_51
        rw [ea]
      by_cases q : accR p bt (B i) (R i)
      · have e1 : (upA Mm 1 (cnL B R nc L a)) 1 = cnL B R nc L a := upA_eq _ _ _
        have e5 : (upA Mm 1 (cnL B R nc L a)) 5 = Mm 5 := upA_ne _ _ (by decide)
        obtain ⟨d, M3, a3, xw, mc, -, R3, C3, F3, -, row3, -⟩ := c_clean (Mx := M1) (Mm := upA Mm 1 (cnL B R nc L a)) (i := i) hv hnc (by rw [e5]; exact h2) (by rw [e1]; exact hR1) (by rw [e1]; exact hC1) hi
        rw [upA_upA] at mc
        rw [hli] at xw
        have kp : ∀ k, k < 11 → k ≠ 2 → cnL B R nc L a (cl i k) = a (cl i k) := fun k hk hk2 => cnL_keep hD hnc (Or.inl ⟨i, k, by omega, hk, hk2, rfl⟩) L hLn a
        obtain ⟨d2, mc2⟩ := m_cn (Mm := Mm) (A := cnL B R nc L a) hD hi hnc h2 ⟨by rw [kp 0 (by omega) (by omega)]; exact hKL.1, by rw [kp 1 (by omega) (by omega)]; exact hKL.2⟩
        have ea3 : a3 = cnL B R nc (L ++ [i]) a := by
          rw [cnL_app]
          rw [mc2] at mc
          exact (upA_inj (Prod.mk.inj (Option.some.inj mc)).2).symm
        refine ⟨(nI (j + 1), M3), ⟨rfl, L ++ [i], fun k => ?_, by rw [← ea3]; exact R3, by rw [← ea3]; exact C3, hF1.trans F3, by show M3 (v + 11 + 1) = _; rw [row3]; exact hr1⟩, fun K => ?_⟩
        · rw [List.mem_append, hL k, List.mem_singleton]
          constructor
          · rintro (z | z)
            · exact ⟨z.1, by omega, z.2.2⟩
            · subst z; exact ⟨hi, by omega, q⟩
          · rintro ⟨z1, z2, z3⟩
            by_cases y : l k < j
            · exact Or.inl ⟨z1, y, z3⟩
            · exact Or.inr (hC1.inj z1 hi (by omega))
        · rw [key, hacc.1 q, bnd_some, if_neg (by decide), xw, bnd_some]
      · refine ⟨(nI (j + 1), M1), ⟨rfl, L, fun k => ?_, hR1, hC1, hF1, hr1⟩, fun K => ?_⟩
        · rw [hL k]
          refine ⟨fun z => ⟨z.1, by omega, z.2.2⟩, fun z => ⟨z.1, ?_, z.2.2⟩⟩
          apply Classical.byContradiction
          intro y
          have e : k = i := hC1.inj z.1 hi (by omega)
          rw [e] at z
          exact q z.2.2
        · rw [key, hacc.2 q, bnd_some, if_pos rfl]
  · rintro ⟨x4, M1⟩ ⟨rfl, L, hL, hR1, hC1, hF1, hr1⟩
    refine ⟨_, ⟨M1, L, rfl, fun i => ?_, hR1, hC1, hF1⟩, fun K => ?_⟩
    · rw [hL i]
      exact ⟨fun z => ⟨z.1, z.2.2⟩, fun z => ⟨z.1, hC.l8 i z.1, z.2⟩⟩
    · simp only [l_X1_writeBackAccessed_3]
      rw [if_pos (show (8 : Int32) ≤ nI 8 from nI_le (a := 8) (Nat.le_refl 8) (by decide))]
  · obtain ⟨⟨M2, L, e, h⟩, e2⟩ := hres
    exact ⟨M2, L, by rw [e2, e], h⟩
