theorem cn_lookup {A a : Nat → Int32} {B R : Nat → Nat} {n b r : Nat} (hD : DK n B R) (hK : ∀ i, i < n → isL A (B i) (R i) i) (hb : b < 8) (hr : r < 16) (i : Nat) (hi : i < n) : isL A b r i ↔ B i = b ∧ R i = r := by
  have bi := hD.2.1 i hi
  constructor
  · intro z
    have e1 : nI (B i) = nI b := (hK i hi).1.symm.trans z.1
    have e2 : nI (R i) = nI r := (hK i hi).2.symm.trans z.2
    exact ⟨(nI_eq (by omega) (by omega)).mp e1, (nI_eq (by omega) (by omega)).mp e2⟩
  · rintro ⟨rfl, rfl⟩
    exact hK i hi
theorem m_before {Mm : Mem} {nc n bt : Nat} {B R : Nat → Nat} (hs : WFs (Mm 5)) (hw : WFb (Mm 5) bt) (hnc : nc ≤ 8) (h2 : Mm 5 2 = nI nc) (hD : DK n B R) (hn : Mm 1 1578 = nI n) (hK : ∀ i, i < n → isL (Mm 1) (B i) (R i) i) : ∃ L, f_X10_meetsLines (nI bt) 0 Mm = some (0, upA Mm 1 (cnL B R nc L (Mm 1))) ∧ ∀ i, i ∈ L ↔ i < n ∧ accR (Mm 5) bt (B i) (R i) := by
  obtain ⟨h12, hset, hno, hf, hl, hr60, hr⟩ := id hw
  obtain ⟨h0, h01, h08, -⟩ := id hs
  have h8 := hD.1
  unfold f_X10_meetsLines accR
  rw [m_firstOf _ h12, bnd_some, hf]
  have hbk := m_banksOf (b := bt)
  have e5 : ∀ A, (upA Mm 1 A) 5 = Mm 5 := fun A => upA_ne _ _ (by decide)
  have hbo : ∀ A, f_X10_banksOf (nI bt) (upA Mm 1 A) = some (setN (Mm 5) bt, upA Mm 1 A) := fun A => by rw [m_banksOf _ h12, e5]; rfl
  have hE : ∀ A, f_X10_endOf (nI bt) (upA Mm 1 A) = some (nI (fstN (Mm 5) bt + lenN (Mm 5) bt), upA Mm 1 A) := fun A => by rw [m_endOf _ h12, e5, hf, hl, nI_add]
  generalize setN (Mm 5) bt = s at *
  generalize fstN (Mm 5) bt = f at *
  generalize lenN (Mm 5) bt = m at *
  generalize hnb : ix (Mm 5 0) = nb at *
  generalize ha : Mm 1 = a at *
  have hkeep : ∀ L : List Nat, (∀ j, j ∈ L → j < n) → (cnL B R nc L a 1578 = nI n ∧ ∀ i, i < n → isL (cnL B R nc L a) (B i) (R i) i) := by
    intro L hL
    refine ⟨by rw [cnL_keep hD hnc (Or.inr (Or.inr (Or.inl (by omega)))) L hL a]; exact hn, fun i hi => ⟨?_, ?_⟩⟩
    · rw [cnL_keep hD hnc (Or.inl ⟨i, 0, by omega, by omega, by omega, rfl⟩) L hL a]; exact (hK i hi).1
    · rw [cnL_keep hD hnc (Or.inl ⟨i, 1, by omega, by omega, by omega, rfl⟩) L hL a]; exact (hK i hi).2
  -- the banks of a command
  have inner : ∀ (c : Nat) (L : List Nat), f ≤ c → c < f + m → kdN (Mm 5) c ≤ 1 → (∀ i, i ∈ L → i < n) → ∃ t : Int32 × Mem, (t.1 = nI (c + 1) ∧ ∃ L2, t.2 = upA Mm 1 (cnL B R nc L2 a) ∧ ∀ i, i ∈ L2 ↔ i ∈ L ∨ (i < n ∧ R i = x2N (Mm 5) c ∧ bit s (B i) = true)) ∧ ∀ K6 : Int32 × Mem → Option (Int32 × Mem), j_X10_meetsLines_39 (nI bt) 0 (nI c) K6 (upA Mm 1 (cnL B R nc L a)) = K6 t := by
    intro c L hc1 hc2 hk1 hLn
    have hc := hr c hc1 hc2
    obtain ⟨q2, q2l⟩ := hc.2.2.2.2.2 hk1
    have c60 : c < 60 := by omega
    refine Exists.elim (loop_invK (B := fun K1 => l_X10_meetsLines_42 (nI bt) 0 (nI c) K1) (init := (0, upA Mm 1 (cnL B R nc L a))) (Q := fun (t : Int32 × Mem) => t.1 = nI (c + 1) ∧ ∃ L2, t.2 = upA Mm 1 (cnL B R nc L2 a) ∧ ∀ i, i ∈ L2 ↔ i ∈ L ∨ (i < n ∧ R i = x2N (Mm 5) c ∧ bit s (B i) = true)) nb (fun b st => st.1 = nI b ∧ ∃ L2, st.2 = upA Mm 1 (cnL B R nc L2 a) ∧ ∀ i, i ∈ L2 ↔ i ∈ L ∨ (i < n ∧ R i = x2N (Mm 5) c ∧ bit s (B i) = true ∧ B i < b)) ⟨rfl, L, rfl, fun i => ⟨fun z => Or.inl z, fun z => by rcases z with z | z; exact z; omega⟩⟩ (by omega) ?_ ?_) (fun t ht => ⟨t, ht.1, fun K6 => ht.2 K6⟩)
    · rintro b hb ⟨x4, M1⟩ ⟨rfl, L2, hM1, hL2⟩
      have hM1 : M1 = upA Mm 1 (cnL B R nc L2 a) := hM1
      subst hM1
      have hL2n : ∀ i, i ∈ L2 → i < n := fun i hi => by rcases (hL2 i).mp hi with z | z; exact hLn i z; exact z.1
      obtain ⟨k78, kL⟩ := hkeep L2 hL2n
      have ea : nI b + 1 = nI (b + 1) := by rw [n1, nI_add]
      have hlt : ¬ nI nb ≤ nI b := nI_ge hb (by omega)
      have t2 : f_X10_told (nI c) 2 (upA Mm 1 (cnL B R nc L2 a)) = some (nI (x2N (Mm 5) c), upA Mm 1 (cnL B R nc L2 a)) := by rw [m_told2 _ c60, e5, q2]
      by_cases qb : bit s b = true
      · by_cases qi : ∃ i, i < n ∧ B i = b ∧ R i = x2N (Mm 5) c
        · obtain ⟨i, hi, hBi, hRi⟩ := qi
          have hlo : f_X10_lineOf (nI b) (nI (x2N (Mm 5) c)) (upA Mm 1 (cnL B R nc L2 a)) = some (nI i, upA Mm 1 (cnL B R nc L2 a)) := by
            refine m_lineOf (by rw [upA_eq]; exact k78) h8 hi (by rw [upA_eq, ← hBi, ← hRi]; exact kL i hi) (fun j hj z => ?_)
            rw [upA_eq] at z
            have := (cn_lookup (a := a) hD kL (by omega) q2l j (by omega)).mp z
            exact hD.2.2 j i (by omega) hi (by omega) ⟨by rw [this.1, hBi], by rw [this.2, hRi]⟩
          obtain ⟨d, hcl⟩ := m_cn (Mm := Mm) (A := cnL B R nc L2 a) hD hi hnc h2 (kL i hi)
          refine ⟨(nI (b + 1), upA Mm 1 (cnL B R nc (L2 ++ [i]) a)), ⟨rfl, L2 ++ [i], rfl, fun k => ?_⟩, fun K1 K => ?_⟩
          · rw [List.mem_append, List.mem_singleton, hL2 k]
            constructor
            · rintro ((z | z) | z)
              · exact Or.inl z
              · exact Or.inr ⟨z.1, z.2.1, z.2.2.1, by omega⟩
              · subst z; exact Or.inr ⟨hi, hRi, by rw [hBi]; exact qb, by omega⟩
            · rintro (z | z)
              · exact Or.inl (Or.inl z)
              · by_cases y : B k < b
                · exact Or.inl (Or.inr ⟨z.1, z.2.1, z.2.2.1, y⟩)
                · refine Or.inr ?_
                  apply Classical.byContradiction
                  intro w
                  exact hD.2.2 k i z.1 hi w ⟨by omega, by rw [z.2.1, hRi]⟩
          · simp only [l_X10_meetsLines_42]
            rw [e5, h0, if_neg hlt, hbo, bnd_some, if_neg (has_t qb), t2, bnd_some, hlo, bnd_some]
            unfold j_X10_meetsLines_82 f_X10_cleansNow j_X10_meetsLines_112
            rw [if_pos (ne_m1 (by omega)), if_pos rfl, hcl, bnd_some, bnd_some, cnL_app, ea]
        · have hlo : f_X10_lineOf (nI b) (nI (x2N (Mm 5) c)) (upA Mm 1 (cnL B R nc L2 a)) = some (-1, upA Mm 1 (cnL B R nc L2 a)) := by
            refine m_lineNo (by rw [upA_eq]; exact k78) h8 (fun j hj z => ?_)
            rw [upA_eq] at z
            have := (cn_lookup (a := a) hD kL (by omega) q2l j hj).mp z
            exact qi ⟨j, hj, this.1, this.2⟩
          refine ⟨(nI (b + 1), upA Mm 1 (cnL B R nc L2 a)), ⟨rfl, L2, rfl, fun k => ?_⟩, fun K1 K => ?_⟩
          · rw [hL2 k]
            constructor
            · rintro (z | z)
              · exact Or.inl z
              · exact Or.inr ⟨z.1, z.2.1, z.2.2.1, by omega⟩
            · rintro (z | z)
              · exact Or.inl z
              · by_cases y : B k < b
                · exact Or.inr ⟨z.1, z.2.1, z.2.2.1, y⟩
                · exact absurd ⟨k, z.1, by omega, z.2.1⟩ qi
          · simp only [l_X10_meetsLines_42]
            rw [e5, h0, if_neg hlt, hbo, bnd_some, if_neg (has_t qb), t2, bnd_some, hlo, bnd_some]
            unfold j_X10_meetsLines_82 j_X10_meetsLines_112
            rw [if_neg (fun z => z rfl), ea]
      · refine ⟨(nI (b + 1), upA Mm 1 (cnL B R nc L2 a)), ⟨rfl, L2, rfl, fun k => ?_⟩, fun K1 K => ?_⟩
        · rw [hL2 k]
          constructor
          · rintro (z | z)
            · exact Or.inl z
            · exact Or.inr ⟨z.1, z.2.1, z.2.2.1, by omega⟩
          · rintro (z | z)
            · exact Or.inl z
            · by_cases y : B k < b
              · exact Or.inr ⟨z.1, z.2.1, z.2.2.1, y⟩
              · have : B k = b := by omega
                exact absurd (by rw [← this]; exact z.2.2.1) qb
        · simp only [l_X10_meetsLines_42]
          rw [e5, h0, if_neg hlt, hbo, bnd_some, if_pos (Classical.not_not.mp (has_f qb))]
          unfold j_X10_meetsLines_82 j_X10_meetsLines_112
          rw [if_neg (fun z => z rfl), ea]
    · rintro ⟨x4, M1⟩ ⟨rfl, L2, hM1, hL2⟩
      have hM1 : M1 = upA Mm 1 (cnL B R nc L2 a) := hM1
      subst hM1
      refine ⟨(nI (c + 1), upA Mm 1 (cnL B R nc L2 a)), ⟨rfl, L2, rfl, fun k => ?_⟩, fun K1 K => ?_⟩
      · rw [hL2 k]
        constructor
        · rintro (z | z)
          · exact Or.inl z
          · exact Or.inr ⟨z.1, z.2.1, z.2.2.1⟩
        · rintro (z | z)
          · exact Or.inl z
          · refine Or.inr ⟨z.1, z.2.1, z.2.2, ?_⟩
            apply Classical.byContradiction
            intro y
            exact hno (B k) (by omega) (hD.2.1 k z.1).1 z.2.2
      · simp only [l_X10_meetsLines_42]
        rw [e5, h0, if_pos (nI_le (Nat.le_refl _) (by omega))]
        unfold j_X10_meetsLines_118
        rw [n1, nI_add]
  -- the commands
  have hM0 : Mm = upA Mm 1 a := by rw [← ha, upA_self]
  refine Exists.elim (loop_inv (body := l_X10_meetsLines_6 (nI bt) 0) (init := (nI f, Mm)) (Q := fun r => ∃ L, r = some (0, upA Mm 1 (cnL B R nc L a)) ∧ ∀ i, i ∈ L ↔ i < n ∧ bit s (B i) = true ∧ ∃ k, k < m ∧ kdN (Mm 5) (f + k) ≤ 1 ∧ x2N (Mm 5) (f + k) = R i) m (fun k st => st.1 = nI (f + k) ∧ ∃ L, st.2 = upA Mm 1 (cnL B R nc L a) ∧ ∀ i, i ∈ L ↔ i < n ∧ bit s (B i) = true ∧ ∃ k2, k2 < k ∧ kdN (Mm 5) (f + k2) ≤ 1 ∧ x2N (Mm 5) (f + k2) = R i) ⟨rfl, [], hM0, fun i => ⟨fun z => absurd z List.not_mem_nil, fun z => by obtain ⟨-, -, k2, hk2, -⟩ := z; omega⟩⟩ (by omega) ?_ ?_) (fun r hres => ?_)
  · rintro k hk ⟨x3, M1⟩ ⟨rfl, L, hM1, hL⟩
    have hM1 : M1 = upA Mm 1 (cnL B R nc L a) := hM1
    subst hM1
    have hLn : ∀ i, i ∈ L → i < n := fun i hi => ((hL i).mp hi).1
    have hc := hr (f + k) (by omega) (by omega)
    have hkl := kd_lt (Mm 5) (f + k)
    have hKd := mm_kindOf (M := upA Mm 1 (cnL B R nc L a)) (c := f + k) (by omega) (by rw [e5]; exact hc)
    rw [e5] at hKd
    have hlt : ¬ nI (f + m) ≤ nI (f + k) := nI_ge (by omega) (by omega)
    by_cases q : kdN (Mm 5) (f + k) ≤ 1
    · obtain ⟨t, ⟨ht1, L2, ht2, hL2⟩, hT⟩ := inner (f + k) L (by omega) (by omega) q hLn
      refine ⟨t, ⟨by rw [ht1, Nat.add_assoc], L2, ht2, fun i => ?_⟩, fun K => ?_⟩
      · rw [hL2 i, hL i]
        constructor
        · rintro (z | z)
          · obtain ⟨z1, z2, k2, z3, z4⟩ := z
            exact ⟨z1, z2, k2, by omega, z4⟩
          · exact ⟨z.1, z.2.2, k, by omega, q, z.2.1.symm⟩
        · rintro ⟨z1, z2, k2, z3, z4, z5⟩
          by_cases y : k2 < k
          · exact Or.inl ⟨z1, z2, k2, y, z4, z5⟩
          · have : k2 = k := by omega
            subst this
            exact Or.inr ⟨z1, z5.symm, z2⟩
      · simp only [l_X10_meetsLines_6]
        rw [hE, bnd_some, if_neg hlt, hKd, bnd_some]
        rcases (show kdN (Mm 5) (f + k) = 0 ∨ kdN (Mm 5) (f + k) = 1 by omega) with y | y
        · rw [y, if_neg (show ¬ nI 0 = 1 by decide), hKd, bnd_some, y, if_neg (show ¬ ¬ nI 0 = 0 from fun z => z rfl), if_pos trivial, hT]
        · rw [y, if_pos (show nI 1 = 1 from rfl), hT]
    · refine ⟨(nI (f + (k + 1)), upA Mm 1 (cnL B R nc L a)), ⟨rfl, L, rfl, fun i => ?_⟩, fun K => ?_⟩
      · rw [hL i]
        constructor
        · rintro ⟨z1, z2, k2, z3, z4⟩
          exact ⟨z1, z2, k2, by omega, z4⟩
        · rintro ⟨z1, z2, k2, z3, z4, z5⟩
          refine ⟨z1, z2, k2, ?_, z4, z5⟩
          apply Classical.byContradiction
          intro y
          have : k2 = k := by omega
          subst this
          exact q z4
      · simp only [l_X10_meetsLines_6]
        have y1 : ¬ nI (kdN (Mm 5) (f + k)) = 1 := fun z => by have := (nI_eq (b := 1) (by omega) (by omega)).mp z; omega
        have y0 : ¬ nI (kdN (Mm 5) (f + k)) = 0 := fun z => by have := (nI_eq (b := 0) (by omega) (by omega)).mp z; omega
        rw [hE, bnd_some, if_neg hlt, hKd, bnd_some, if_neg y1, hKd, bnd_some, if_pos y0]
        unfold j_X10_meetsLines_118
        rw [n1, nI_add, Nat.add_assoc]
  · rintro ⟨x3, M1⟩ ⟨rfl, L, hM1, hL⟩
    have hM1 : M1 = upA Mm 1 (cnL B R nc L a) := hM1
    subst hM1
    refine ⟨_, ⟨L, rfl, hL⟩, fun K => ?_⟩
    simp only [l_X10_meetsLines_6]
    rw [hE, bnd_some, if_pos (nI_le (Nat.le_refl _) (by omega))]
  · obtain ⟨⟨L, e, hL⟩, e2⟩ := hres
    exact ⟨L, by rw [e2, e], hL⟩
