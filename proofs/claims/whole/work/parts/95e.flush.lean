/-! ===== flushAll, fill, line ===== -/
section FL
variable {Mx Mm : Mem} {m : Nat}
theorem x_wbc {q v : Nat} {x d : Int32} {M M2 : Mem} (hv : q ≠ v + 1) (h : f_X1_writeBack q x v M = some (d, M2)) : M2 q 6 = M q 6 + d := by
  have key : Pres (fun _ => True) (f_X1_writeBack q x v M) := fun _ _ _ => trivial
  unfold f_X1_writeBack j_X1_writeBack_24 f_X9_copyWords at h
  have z0 : ∀ y : Int32, y = y + 0 := fun y => (Int32.add_zero y).symm
  by_cases h1 : x = -1
  · rw [if_pos h1] at h; cases h; exact z0 _
  · rw [if_neg h1] at h
    by_cases h2 : inb x 8
    · rw [if_pos h2, if_pos h2, if_pos h2] at h
      by_cases h3 : M (q + 1) (ix x) = -1
      · rw [if_pos h3] at h; cases h; exact z0 _
      · rw [if_neg h3] at h
        by_cases h4 : M (q + 2) (ix x) = 0
        · rw [if_neg (fun y => y h4)] at h; cases h; exact z0 _
        · rw [if_pos h4] at h
          split at h
          · rw [wrt_def, bnd_some, wrt_def, wrt_def] at h
            cases h
            rw [up_eq, up_a _ _ _ (by omega)]
            unfold cpy
            rw [upA_ne _ _ hv]
          · cases h
    · rw [if_neg h2] at h; cases h
theorem m_cn2 {A : Nat → Int32} {B R : Nat → Nat} {nc n i : Nat} (hD : DK n B R) (hi : i < n) (hnc : nc ≤ 8) (h2 : Mm 5 2 = nI nc) (hL : isL A (B i) (R i) i) : ∃ d, (d = 0 ∨ d = 1) ∧ f_X10_cleans (nI i) (upA Mm 1 A) = some (d, upA Mm 1 (cn B R nc i A)) ∧ cn B R nc i A 1669 = A 1669 + d := by
  have bi := hD.2.1 i hi
  have h8 := hD.1
  have e5 : (upA Mm 1 A) 5 = Mm 5 := upA_ne _ _ (by decide)
  by_cases z : A (cl i 2) = 0
  · refine ⟨0, Or.inl rfl, ?_, by rw [cn_0 z]; exact (Int32.add_zero _).symm⟩
    rw [cn_0 z]
    unfold f_X10_cleans
    rw [m_cell2, if_pos (of_eq_true (inb_T (by first | omega | (unfold wdP; omega) | (unfold lnP; omega) | (unfold cl; omega)) (by omega))), ix_nI (by unfold cl; omega), upA_eq, if_neg (fun y => y z)]
  · have := m_cleans (M := upA Mm 1 A) (i := i) (b := B i) (r := R i) (nc := nc) (by omega) bi.1 bi.2 (by rw [upA_eq]; exact hL) (by rw [e5]; exact h2) hnc (by rw [upA_eq]; exact z)
    rw [upA_upA, upA_eq] at this
    have ec : cn B R nc i A = clA A i (B i) (R i) nc := by unfold cn; rw [if_neg z]
    exact ⟨1, Or.inr rfl, by rw [ec]; exact this, by rw [ec]; exact ca_69⟩
theorem m_flushAll {B R : Nat → Nat} {nc n : Nat} (hnc : nc ≤ 8) (h2 : Mm 5 2 = nI nc) (hD : DK n B R) (hn : Mm 1 1578 = nI n) (hK : ∀ i, i < n → isL (Mm 1) (B i) (R i) i) : loopC l_X10_flushAll_9 fuelL (0, 0, Mm) = some (cnL B R nc (List.range n) (Mm 1) 1669 - Mm 1 1669, upA Mm 1 (cnL B R nc (List.range n) (Mm 1))) := by
  have h8 := hD.1
  refine loop_run n (fun i => (cnL B R nc (List.range i) (Mm 1) 1669 - Mm 1 1669, nI i, upA Mm 1 (cnL B R nc (List.range i) (Mm 1)))) ?_ (by omega) (fun i hi K => ?_) (fun K => ?_)
  · show (0, 0, Mm) = (Mm 1 1669 - Mm 1 1669, nI 0, upA Mm 1 (Mm 1))
    rw [upA_self, Int32.sub_self]
    rfl
  · have hLn : ∀ j, j ∈ List.range i → j < n := fun j hj => by have := List.mem_range.mp hj; omega
    have kp : ∀ x, (∃ i k, i < 8 ∧ k < 11 ∧ k ≠ 2 ∧ x = cl i k) ∨ x < 160 ∨ (1184 ≤ x ∧ x < 1579) ∨ 1670 ≤ x → cnL B R nc (List.range i) (Mm 1) x = Mm 1 x := fun x hx => cnL_keep hD hnc hx _ hLn _
    obtain ⟨d, hd, e, e69⟩ := m_cn2 (Mm := Mm) (A := cnL B R nc (List.range i) (Mm 1)) hD hi hnc h2 ⟨by rw [kp _ (Or.inl ⟨i, 0, by omega, by omega, by omega, rfl⟩)]; exact (hK i hi).1, by rw [kp _ (Or.inl ⟨i, 1, by omega, by omega, by omega, rfl⟩)]; exact (hK i hi).2⟩
    simp only [l_X10_flushAll_9]
    have e78 : (upA Mm 1 (cnL B R nc (List.range i) (Mm 1))) 1 1578 = nI n := by rw [upA_eq, kp _ (Or.inr (by omega))]; exact hn
    rw [e78, if_neg (nI_ge hi (by omega)), e, bnd_some, List.range_succ, cnL_app, e69, nI_1]
    refine congrArg (fun z => K (z, nI (i + 1), upA Mm 1 (cn B R nc i (cnL B R nc (List.range i) (Mm 1))))) ?_
    have ed : (if d = 0 then (0 : Int32) else 1) = d := by rcases hd with z | z <;> rw [z] <;> rfl
    rw [ed, Int32.sub_eq_add_neg, Int32.sub_eq_add_neg, Int32.add_assoc, Int32.add_assoc, Int32.add_comm (- Mm 1 1669) d]
  · have hLn : ∀ j, j ∈ List.range n → j < n := fun j hj => List.mem_range.mp hj
    simp only [l_X10_flushAll_9]
    have e78 : (upA Mm 1 (cnL B R nc (List.range n) (Mm 1))) 1 1578 = nI n := by rw [upA_eq, cnL_keep hD hnc (Or.inr (by omega)) _ hLn]; exact hn
    rw [e78, if_pos (nI_le (Nat.le_refl _) (by omega))]
theorem x_flushAll {nc n : Nat} {l : Nat → Nat} {T : Nat} (hnc : nc ≤ 8) (h2 : Mm 5 2 = nI nc) (hR : RV nc Mx 34 (Mm 1)) (hC : RC nc Mx 45 (Mm 1) n l T) (hd : dB 47 Mx) : ∃ M2 L, f_X9_flushAll Mx = some (M2 45 6 - Mx 45 6, M2) ∧ (∀ i, i ∈ L ↔ i < n) ∧ RV nc M2 34 (cnL (bK (Mm 1)) (rK (Mm 1)) nc L (Mm 1)) ∧ RC nc M2 45 (cnL (bK (Mm 1)) (rK (Mm 1)) nc L (Mm 1)) n l T ∧ FrC 34 Mx M2 ∧ dB 47 M2 := by
  obtain ⟨hD, hK⟩ := hC.keys
  have h8 := hC.n8
  generalize bK (Mm 1) = B at hD hK
  generalize rK (Mm 1) = R at hD hK
  generalize Mm 1 = a at *
  unfold f_X9_flushAll
  refine Exists.elim (loop_inv (body := l_X9_flushAll_4) (init := (0, 0, Mx)) (Q := fun res => ∃ M2 L, res = some (M2 45 6 - Mx 45 6, M2) ∧ (∀ i, i ∈ L ↔ i < n) ∧ RV nc M2 34 (cnL B R nc L a) ∧ RC nc M2 45 (cnL B R nc L a) n l T ∧ FrC 34 Mx M2 ∧ dB 47 M2) 8 (fun j st => st.1 = st.2.2 45 6 - Mx 45 6 ∧ st.2.1 = nI j ∧ ∃ L, (∀ i, i ∈ L ↔ i < n ∧ l i < j) ∧ RV nc st.2.2 34 (cnL B R nc L a) ∧ RC nc st.2.2 45 (cnL B R nc L a) n l T ∧ FrC 34 Mx st.2.2 ∧ dB 47 st.2.2) ⟨(Int32.sub_self _).symm, rfl, [], fun i => ⟨fun z => absurd z List.not_mem_nil, fun z => by omega⟩, hR, hC, FrC.refl 34 Mx, hd⟩ (by omega) ?_ ?_) (fun res hres => ?_)
  · rintro j hj ⟨x1, x2, M1⟩ ⟨hx1, hx2, L, hL, hR1, hC1, hF1, hd1⟩
    have hx1 : x1 = M1 45 6 - Mx 45 6 := hx1
    have hx2 : x2 = nI j := hx2
    subst hx1
    subst hx2
    have hR1 : RV nc M1 34 (cnL B R nc L a) := hR1
    have hC1 : RC nc M1 45 (cnL B R nc L a) n l T := hC1
    have hF1 : FrC 34 Mx M1 := hF1
    have hd1 : dB 47 M1 := hd1
    have hLn : ∀ j, j ∈ L → j < n := fun j hj => ((hL j).mp hj).1
    have hlt : ¬ (8 : Int32) ≤ nI j := nI_ge (b := 8) hj (by decide)
    have step : ∀ K : Int32 × Int32 × Mem → Option (Int32 × Mem), l_X9_flushAll_4 K (M1 45 6 - Mx 45 6, nI j, M1) = bnd (f_X1_writeBack 45 (nI j) 34 M1) (fun v2 M3 => K ((if v2 = 0 then M1 45 6 - Mx 45 6 else M1 45 6 - Mx 45 6 + 1), nI (j + 1), M3)) := by
      intro K
      simp only [l_X9_flushAll_4]
      rw [if_neg hlt, nI_1]
    by_cases hz : M1 46 j = -1
    · have xw : f_X1_writeBack 45 (nI j) 34 M1 = some (0, M1) := x_wbfree (v := 34) hj hz
      refine ⟨(M1 45 6 - Mx 45 6, nI (j + 1), M1), ⟨rfl, rfl, L, fun i => ?_, hR1, hC1, hF1, hd1⟩, fun K => ?_⟩
      · rw [hL i]
        refine ⟨fun z => ⟨z.1, by omega⟩, fun z => ⟨z.1, ?_⟩⟩
        apply Classical.byContradiction
        intro y
        have e : l i = j := by omega
        exact (hC1.line i z.1).used (by rw [e]; exact hz)
      · rw [step, xw, bnd_some, if_pos rfl]
    · obtain ⟨i, hi, hli⟩ := hC1.cov j hj hz
      obtain ⟨hKL, -⟩ := hK i hi
      have e1 : (upA Mm 1 (cnL B R nc L a)) 1 = cnL B R nc L a := upA_eq _ _ _
      have e5 : (upA Mm 1 (cnL B R nc L a)) 5 = Mm 5 := upA_ne _ _ (by decide)
      obtain ⟨d, M3, a3, xw, mc, hd01, R3, C3, F3, -⟩ := c_clean (v := 34) (Mx := M1) (Mm := upA Mm 1 (cnL B R nc L a)) (i := i) (Or.inl rfl) hnc (by rw [e5]; exact h2) (by rw [e1]; exact hR1) (by rw [e1]; exact hC1) hi
      rw [upA_upA] at mc
      rw [hli] at xw
      have xw : f_X1_writeBack 45 (nI j) 34 M1 = some (d, M3) := xw
      have kp : ∀ k, k < 11 → k ≠ 2 → cnL B R nc L a (cl i k) = a (cl i k) := fun k hk hk2 => cnL_keep hD hnc (Or.inl ⟨i, k, by omega, hk, hk2, rfl⟩) L hLn a
      obtain ⟨d2, mc2⟩ := m_cn (Mm := Mm) (A := cnL B R nc L a) hD hi hnc h2 ⟨by rw [kp 0 (by omega) (by omega)]; exact hKL.1, by rw [kp 1 (by omega) (by omega)]; exact hKL.2⟩
      have ea3 : a3 = cnL B R nc (L ++ [i]) a := by
        rw [cnL_app]
        rw [mc2] at mc
        exact (upA_inj (Prod.mk.inj (Option.some.inj mc)).2).symm
      have e6 := x_wbc (q := 45) (v := 34) (by omega) xw
      refine ⟨(M3 45 6 - Mx 45 6, nI (j + 1), M3), ⟨rfl, rfl, L ++ [i], fun k => ?_, by rw [← ea3]; exact R3, by rw [← ea3]; exact C3, hF1.trans F3, pres_wb (q := 45) (v := 34) (by omega) hd1 _ _ xw⟩, fun K => ?_⟩
      · rw [List.mem_append, hL k, List.mem_singleton]
        constructor
        · rintro (z | z)
          · exact ⟨z.1, by omega⟩
          · subst z; exact ⟨hi, by omega⟩
        · rintro ⟨z1, z2⟩
          by_cases y : l k < j
          · exact Or.inl ⟨z1, y⟩
          · exact Or.inr (hC1.inj z1 hi (by omega))
      · rw [step, xw, bnd_some, e6]
        refine congrArg (fun z => K (z, nI (j + 1), M3)) ?_
        rcases hd01 with z | z
        · rw [z, if_pos rfl, Int32.add_zero]
        · rw [z, if_neg (by decide), Int32.sub_eq_add_neg, Int32.sub_eq_add_neg, Int32.add_assoc, Int32.add_assoc, Int32.add_comm (- Mx 45 6) 1]
  · rintro ⟨x1, x2, M1⟩ ⟨hx1, hx2, L, hL, hR1, hC1, hF1, hd1⟩
    have hx1 : x1 = M1 45 6 - Mx 45 6 := hx1
    have hx2 : x2 = nI 8 := hx2
    subst hx1
    subst hx2
    refine ⟨_, ⟨M1, L, rfl, fun i => ?_, hR1, hC1, hF1, hd1⟩, fun K => ?_⟩
    · rw [hL i]
      exact ⟨fun z => z.1, fun z => ⟨z, hC.l8 i z⟩⟩
    · simp only [l_X9_flushAll_4]
      rw [if_pos (show (8 : Int32) ≤ nI 8 from nI_le (a := 8) (Nat.le_refl 8) (by decide))]
  · obtain ⟨⟨M2, L, h1, h2, h3⟩, h4⟩ := hres
    exact ⟨M2, L, h4.trans h1, h2, h3⟩
theorem s_flushAll (h : Inv m Mx Mm) : CallN m (f_X9_flushAll Mx) (f_X10_flushAll Mm) := by
  obtain ⟨M1, e1, t0, hI⟩ := inv_0 h
  obtain ⟨pr, nB, hP, hS, -⟩ := id hI
  obtain ⟨n, l, T, hT, hn, hR, hC, -⟩ := hS.c
  unfold f_X10_flushAll
  rw [wrt_def, e1]
  obtain ⟨hD, hK⟩ := hC.keys
  have h2 := hP.ws.2.2.2.2.2.2.1
  have mf := m_flushAll (Mm := M1) hP.c8 h2 hD hC.cnt (fun i hi => (hK i hi).1)
  obtain ⟨M2, L, xf, hL, R2, C2, F2, d2⟩ := x_flushAll (Mm := M1) hP.c8 h2 hR hC hS.dirty
  have e := cnL_same hD hP.c8 (fun j hj => (hL j).mp hj) (fun j hj => List.mem_range.mp hj) (fun j hj => ⟨fun _ => List.mem_range.mpr hj, fun _ => (hL j).mpr hj⟩) (M1 1)
  rw [e] at R2 C2
  refine ⟨_, M2, _, xf, ?_, hI.cach F2 ?_ R2 C2 hn (by omega) d2 (upA_eq _ _ _) (fun c hc => upA_ne _ _ (by omega))⟩
  · rw [mf, C2.wrb, hC.wrb]
  · exact fun j hj => cnL_keep hD hP.c8 (Or.inr (by omega)) _ (fun j hj => List.mem_range.mp hj) _
theorem s_fill (h : Inv m Mx Mm) (x y u w : Int32) : CallR m [eIO] (f_X9_fill x y u w Mx) (f_X10_fill x y u w Mm) := by
  obtain ⟨M1, e1, t0, hI⟩ := inv_0 h
  obtain ⟨pr, nB, hP, hS, -⟩ := id hI
  unfold f_X10_fill f_X9_fill
  rw [wrt_def, e1]
  by_cases hx : okR (M1 5) x y
  · obtain ⟨⟨b, hb, rfl⟩, ⟨r, hr, rfl⟩⟩ := id hx
    have h0 := hP.n0
    have h1 := hP.n1
    have h2 := hP.n2
    obtain ⟨n, l, T, hT, hn, hR, hC, hau, hau2⟩ := hS.c
    rw [mRw_T hP hx, may_T t0, bnd_some, if_pos ne10, rqRw_T hP hx, bX_ok]
    -- the row is filled
    generalize hnc : ix (M1 5 2) = nc at *
    have hpr : pr ≠ 35 := by rcases hP.2.1 with z | z <;> omega
    have hnc2 : M1 5 2 = nI nc := by rw [← hnc]; exact hP.ws.2.2.2.2.2.2.1
    have hd2 : Mx pr 2 = nI nc := by rw [← hnc]; exact hP.d2
    let fX : Nat → Nat → Int32 := fun k i => if 8 * (16 * b + r) ≤ i ∧ i < 8 * (16 * b + r) + k then u + nI (i - 8 * (16 * b + r)) * w else Mx 35 i
    let fA : Nat → Nat → Int32 := fun k i => if wdP b r 0 ≤ i ∧ i < wdP b r 0 + k then u + nI (i - wdP b r 0) * w else M1 1 i
    have X0 : ∀ k c, c ≠ 35 → (upA Mx 35 (fX k)) c = Mx c := fun k c hc => upA_ne _ _ hc
    have A0 : ∀ k c, c ≠ 1 → (upA M1 1 (fA k)) c = M1 c := fun k c hc => upA_ne _ _ hc
    have fAo : ∀ k j, k ≤ 8 → (j < 160 ∨ 1184 ≤ j) → fA k j = M1 1 j := fun k j hk hj => by
      show (if _ then _ else _) = _
      rw [if_neg (by unfold wdP; omega)]
    have RV1 : RV nc (upA Mx 35 (fX nc)) 34 (fA nc) := by
      constructor
      · intro i hi hc
        have e := hR.1 i hi hc
        have e : Mx 35 i = M1 1 (160 + i) := e
        show (upA Mx 35 (fX nc)) 35 i = fA nc (160 + i)
        rw [upA_eq]
        show (if _ then _ else _) = (if _ then _ else _)
        by_cases z : 8 * (16 * b + r) ≤ i ∧ i < 8 * (16 * b + r) + nc
        · rw [if_pos z, if_pos (by unfold wdP; omega), show 160 + i - wdP b r 0 = i - 8 * (16 * b + r) by unfold wdP; omega]
        · rw [if_neg z, if_neg (by unfold wdP; omega)]; exact e
      · intro i hi hc
        rw [X0 _ _ (by omega), fAo _ _ (by omega) (by omega)]
        exact hR.2 i hi hc
    have RC1 : RC nc (upA Mx 35 (fX nc)) 45 (fA nc) n l T := hC.of (fun c c1 c2 => X0 _ _ (by omega)) (fun j j1 j2 => fAo _ _ (by omega) (by omega)) (by omega)
    have F1 : FrC 34 Mx (upA Mx 35 (fX nc)) := fun c c1 c2 => X0 _ _ (by omega)
    have FA1 : FrA (M1 1) (fA nc) := fun j hj => fAo _ _ (by omega) (by omega)
    have d1 : dB 47 (upA Mx 35 (fX nc)) := dB_of hS.dirty (X0 _ _ (by omega))
    have last : fA nc (wdP b r (nc - 1)) = u + nI (nc - 1) * w := by
      show (if _ then _ else _) = _
      rw [if_pos (by unfold wdP; omega), show wdP b r (nc - 1) - wdP b r 0 = nc - 1 by unfold wdP; omega]
    have xbody : ∀ k, k < nc → ∀ K, l_X9_fill_9 (nI b) (nI r) u w K (nI k, upA Mx 35 (fX k)) = K (nI (k + 1), upA Mx 35 (fX (k + 1))) := by
      intro k hk K
      simp only [l_X9_fill_9]
      rw [X0 _ _ (by omega), if_pos hP.pp, hP.ixp, X0 _ _ hpr, hd2, if_neg (nI_ge hk (by omega)), x_wordP, if_pos (of_eq_true (inb_T (by first | omega | (unfold wdP; omega) | (unfold lnP; omega) | (unfold cl; omega)) (by omega))), ix_nI (by omega), wrt_def, nI_1, up_upA]
      refine congrArg (fun z => K (nI (k + 1), upA Mx 35 z)) ?_
      funext i
      show upd (fX k) _ _ i = (if _ then _ else _)
      by_cases z : i = 8 * (16 * b + r) + k
      · rw [z, upd_eq, if_pos (by omega), show 8 * (16 * b + r) + k - 8 * (16 * b + r) = k by omega]
      · rw [upd_ne _ _ z]
        show (if _ then _ else _) = _
        by_cases z2 : 8 * (16 * b + r) ≤ i ∧ i < 8 * (16 * b + r) + k
        · rw [if_pos z2, if_pos (by omega)]
        · rw [if_neg z2, if_neg (by omega)]
    have mbody : ∀ k, k < nc → ∀ K, l_X10_fill_24 (nI b) (nI r) u w K (nI k, upA M1 1 (fA k)) = K (nI (k + 1), upA M1 1 (fA (k + 1))) := by
      intro k hk K
      simp only [l_X10_fill_24]
      rw [A0 _ _ (by omega), hnc2, if_neg (nI_ge hk (by omega)), m_word, if_pos (of_eq_true (inb_T (by first | omega | (unfold wdP; omega) | (unfold lnP; omega) | (unfold cl; omega)) (by omega))), ix_nI (by unfold wdP; omega), wrt_def, nI_1, up_upA]
      refine congrArg (fun z => K (nI (k + 1), upA M1 1 z)) ?_
      funext i
      show upd (fA k) _ _ i = (if _ then _ else _)
      by_cases z : i = wdP b r k
      · rw [z, upd_eq, if_pos (by unfold wdP; omega), show wdP b r k - wdP b r 0 = k by unfold wdP; omega]
      · rw [upd_ne _ _ z]
        show (if _ then _ else _) = _
        by_cases z2 : wdP b r 0 ≤ i ∧ i < wdP b r 0 + k
        · rw [if_pos z2, if_pos (by omega)]
        · rw [if_neg z2, if_neg (by unfold wdP at *; omega)]
    have x0 : upA Mx 35 (fX 0) = Mx := by
      have : fX 0 = Mx 35 := by
        funext i
        show (if _ then _ else _) = _
        rw [if_neg (by omega)]
      rw [this, upA_self]
    have a0 : upA M1 1 (fA 0) = M1 := by
      have : fA 0 = M1 1 := by
        funext i
        show (if _ then _ else _) = _
        rw [if_neg (by omega)]
      rw [this, upA_self]
    -- what the calls do behind it
    have fin : ∃ M2 a2 n2 l2, (∀ K, l_X9_fill_9 (nI b) (nI r) u w K (nI nc, upA Mx 35 (fX nc)) = some (rOk (u + nI (nc - 1) * w), M2)) ∧ (∀ K, l_X10_fill_24 (nI b) (nI r) u w K (nI nc, upA M1 1 (fA nc)) = some (u + nI (nc - 1) * w, upA M1 1 a2)) ∧ RV nc M2 34 a2 ∧ RC nc M2 45 a2 n2 l2 T ∧ n2 ≤ n ∧ FrC 34 Mx M2 ∧ FrA (M1 1) a2 ∧ dB 47 M2 := by
      have xj : ∀ M2, M2 0 = Mx 0 → M2 pr = Mx pr → j_X9_fill_85 u w M2 = some (rOk (u + nI (nc - 1) * w), M2) := by
        intro M2 q1 q2
        unfold j_X9_fill_85
        rw [q1, if_pos hP.pp, hP.ixp, q2, hd2, show nI nc - 1 = nI (nc - 1) from ss (a := nc) (b := 1) (by omega)]
      have mj : ∀ a2 : Nat → Int32, a2 (wdP b r (nc - 1)) = u + nI (nc - 1) * w → j_X10_fill_92 (nI b) (nI r) (upA M1 1 a2) = some (u + nI (nc - 1) * w, upA M1 1 a2) := by
        intro a2 q
        unfold j_X10_fill_92
        rw [upA_ne _ _ (by omega), hnc2, show nI nc - 1 = nI (nc - 1) from ss (a := nc) (b := 1) (by omega), m_word, if_pos (of_eq_true (inb_T (by first | omega | (unfold wdP; omega) | (unfold lnP; omega) | (unfold cl; omega)) (by omega))), ix_nI (by unfold wdP; omega), upA_eq, q]
      have xb : ∀ K, l_X9_fill_9 (nI b) (nI r) u w K (nI nc, upA Mx 35 (fX nc)) = if M1 1 1670 = 0 then j_X9_fill_85 u w (upA Mx 35 (fX nc)) else bnd (f_X1_lineOf 45 (nI b) (nI r) (upA Mx 35 (fX nc))) (fun v7 M8 => bnd (f_X1_removeLine 45 v7 M8) (fun v9 M10 => j_X9_fill_85 u w M10)) := by
        intro K
        simp only [l_X9_fill_9]
        rw [X0 nc 0 (by omega), if_pos hP.pp, hP.ixp, X0 nc pr hpr, hd2, if_pos (nI_le (Nat.le_refl _) (by omega)), X0 nc 33 (by omega), hau]
      have mb : ∀ K, l_X10_fill_24 (nI b) (nI r) u w K (nI nc, upA M1 1 (fA nc)) = bnd (f_X10_lineOf (nI b) (nI r) (upA M1 1 (fA nc))) (fun v6 M7 => if ¬ (M7 1 1670) = 1 then j_X10_fill_92 (nI b) (nI r) M7 else if v6 = (-1) then j_X10_fill_92 (nI b) (nI r) M7 else bnd (f_X10_goes v6 M7) (fun _ M12 => j_X10_fill_92 (nI b) (nI r) M12)) := by
        intro K
        simp only [l_X10_fill_24]
        rw [A0 nc 5 (by omega), hnc2, if_pos (nI_le (Nat.le_refl _) (by omega))]
      have a70 : (upA M1 1 (fA nc)) 1 1670 = M1 1 1670 := by rw [upA_eq]; exact fAo _ _ (by omega) (by omega)
      have eA : (upA M1 1 (fA nc)) 1 = fA nc := upA_eq _ _ _
      by_cases q : ∃ i, i < n ∧ isL (fA nc) b r i
      · obtain ⟨i, hi, hL⟩ := q
        have n8 := hC.n8
        obtain ⟨x1, m1⟩ := (RC.found (Mm := upA M1 1 (fA nc)) (b := b) (r := r) (by rw [eA]; exact RC1)) hi (by omega) (by omega) (by rw [eA]; exact hL)
        rcases hau2 with z | z
        · refine ⟨upA Mx 35 (fX nc), fA nc, n, l, fun K => ?_, fun K => ?_, RV1, RC1, Nat.le_refl _, F1, FA1, d1⟩
          · rw [xb, if_pos z]; exact xj _ (X0 _ _ (by omega)) (X0 _ _ hpr)
          · rw [mb, m1, bnd_some, a70, if_pos (by rw [z]; decide)]; exact mj _ last
        · obtain ⟨x2, m2, R2, C2, F2, FA2⟩ := c_remove (v := 34) (nc := nc) (Mx := upA Mx 35 (fX nc)) (Mm := upA M1 1 (fA nc)) (by omega) (by rw [eA]; exact RV1) (by rw [eA]; exact RC1) hi
          rw [eA] at m2 R2 C2 FA2
          rw [upA_upA] at m2
          have x2 : f_X1_removeLine 45 (nI (l i)) (upA Mx 35 (fX nc)) = some (1, up (upA Mx 35 (fX nc)) (34 + 11 + 1) (l i) (-1)) := x2
          refine ⟨_, _, n - 1, lGo l i, fun K => ?_, fun K => ?_, R2, C2, by omega, F1.trans F2, FA1.trans FA2, pres_rm (q := 45) d1 _ _ x2⟩
          · rw [xb, if_neg (by rw [z]; decide), x1, bnd_some, x2, bnd_some]
            exact xj _ (by rw [up_a _ _ _ (by omega)]; exact X0 _ _ (by omega)) (by rw [up_a _ _ _ (by rcases hP.2.1 with y | y <;> omega)]; exact X0 _ _ hpr)
          · rw [mb, m1, bnd_some, a70, if_neg (fun y => y z), if_neg (ne_m1 (by omega)), m2, bnd_some]
            refine mj _ ?_
            rw [go_hi hC.n8 hi (by unfold wdP; omega)]
            exact last
      · obtain ⟨x1, m1⟩ := (RC.nofound (Mm := upA M1 1 (fA nc)) (b := b) (r := r) (by rw [eA]; exact RC1)) (by omega) (by omega) (fun i hi z => q ⟨i, hi, by rw [eA] at z; exact z⟩)
        have x2 : f_X1_removeLine 45 (-1) (upA Mx 35 (fX nc)) = some (0, upA Mx 35 (fX nc)) := by
          unfold f_X1_removeLine
          rw [if_neg (fun z => z rfl)]
        refine ⟨upA Mx 35 (fX nc), fA nc, n, l, fun K => ?_, fun K => ?_, RV1, RC1, Nat.le_refl _, F1, FA1, d1⟩
        · rw [xb, x1, bnd_some, x2, bnd_some, xj _ (X0 _ _ (by omega)) (X0 _ _ hpr)]
          split <;> rfl
        · rw [mb, m1, bnd_some, a70, if_pos rfl, mj _ last]
          split <;> rfl
    obtain ⟨M2, a2, n2, l2, xf, mf, R2, C2, hn2, F2, FA2, d2⟩ := fin
    have XL := loop_run (body := l_X9_fill_9 (nI b) (nI r) u w) nc (fun k => (nI k, upA Mx 35 (fX k))) (init := (0, Mx)) (by rw [x0]; rfl) (by omega) (fun k hk K => xbody k hk K) (fun K => xf K)
    have ML := loop_run (body := l_X10_fill_24 (nI b) (nI r) u w) nc (fun k => (nI k, upA M1 1 (fA k))) (init := (0, M1)) (by rw [a0]; rfl) (by omega) (fun k hk K => mbody k hk K) (fun K => mf K)
    rw [XL, ML]
    rw [← hnc] at R2 C2
    exact stp_ok _ M2 _ rfl rfl (by rw [upA_ne _ _ (by omega)]; exact t0) (hI.cach F2 FA2 R2 C2 (by omega) (by omega) d2 (upA_eq _ _ _) (fun c hc => upA_ne _ _ (by omega)))
  · rw [mRw_F hP hx, may_F1 t0, bnd_some, if_neg nn00, rqRw_F hP hx, bX_ex]
    exact stp_ex 0 eIO rfl rfl rfl hI
end FL
