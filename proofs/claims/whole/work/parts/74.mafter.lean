/-- one key is taken away, in the reference and in the class -/
theorem rm_key {Mx Mm : Mem} {A : Nat → Int32} {v nc n b r : Nat} {l : Nat → Nat} {T : Nat} {P : Nat → Prop} {f : Nat → Int32} (hf : Mx (v + 11 + 1) = f) (hnc : nc ≤ 8) (hb : b < 8) (hr : r < 16) (hk : ∀ j, j < 8 → ¬ f j = -1 → ∃ y, y < 128 ∧ f j = nI y) (hR : RV nc (upA Mx (v + 11 + 1) (rmv P f 8)) v A) (hC : RC nc (upA Mx (v + 11 + 1) (rmv P f 8)) (v + 11) A n l T) : (∃ i, i < n ∧ f_X10_lineOf (nI b) (nI r) (upA Mm 1 A) = some (nI i, upA Mm 1 A) ∧ f_X10_goes (nI i) (upA Mm 1 A) = some (0, upA Mm 1 (goA A i n)) ∧ RV nc (upA Mx (v + 11 + 1) (rmv (fun y => P y ∨ y = 16 * b + r) f 8)) v (goA A i n) ∧ RC nc (upA Mx (v + 11 + 1) (rmv (fun y => P y ∨ y = 16 * b + r) f 8)) (v + 11) (goA A i n) (n - 1) (lGo l i) T ∧ FrA A (goA A i n)) ∨ (f_X10_lineOf (nI b) (nI r) (upA Mm 1 A) = some (-1, upA Mm 1 A) ∧ rmv (fun y => P y ∨ y = 16 * b + r) f 8 = rmv P f 8) := by
  have h8 := hC.n8
  have e1 : (upA Mm 1 A) 1 = A := upA_eq _ _ _
  by_cases q : ∃ i, i < n ∧ isL A b r i
  · left
    obtain ⟨i, hi, hL⟩ := q
    have hC' : RC nc (upA Mx (v + 11 + 1) (rmv P f 8)) (v + 11) ((upA Mm 1 A) 1) n l T := by rw [e1]; exact hC
    have hfd := (hC'.found hi hb hr (by rw [e1]; exact hL)).2
    obtain ⟨-, mg, R4, C4, -, FA4⟩ := c_remove (Mx := upA Mx (v + 11 + 1) (rmv P f 8)) (Mm := upA Mm 1 A) (i := i) hnc (by rw [e1]; exact hR) hC' hi
    rw [upA_upA, e1] at mg
    rw [e1] at R4 C4 FA4
    have hli := hC.l8 i hi
    have hkey := (hC.key hi hb hr).mp hL
    rw [upA_eq] at hkey
    have hnP : ¬ (l i < 8 ∧ ¬ f (l i) = -1 ∧ P (ix (f (l i)))) := fun z => by
      rw [rmv_t z.1 z.2.1 z.2.2] at hkey
      exact ne_m1 (show 16 * b + r < 2147483648 by omega) hkey.symm
    rw [rmv_f hnP] at hkey
    have ev : up (upA Mx (v + 11 + 1) (rmv P f 8)) (v + 11 + 1) (l i) (-1) = upA Mx (v + 11 + 1) (rmv (fun y => P y ∨ y = 16 * b + r) f 8) := by
      rw [up_upA]
      congr 1
      funext j
      by_cases y : j = l i
      · subst y
        rw [upd_eq, rmv_t hli (by rw [hkey]; exact ne_m1 (by omega)) (Or.inr (by rw [hkey]; exact ix_nI (by omega)))]
      · rw [upd_ne _ _ y]
        by_cases z : j < 8 ∧ ¬ f j = -1 ∧ P (ix (f j))
        · rw [rmv_t z.1 z.2.1 z.2.2, rmv_t z.1 z.2.1 (Or.inl z.2.2)]
        · rw [rmv_f z, rmv_f]
          rintro ⟨w1, w2, w3 | w3⟩
          · exact z ⟨w1, w2, w3⟩
          · obtain ⟨u, hu, eu⟩ := hk j w1 w2
            have hfj : f j = nI (16 * b + r) := by rw [eu, ix_nI (by omega)] at w3; rw [eu, w3]
            have hused : ¬ (upA Mx (v + 11 + 1) (rmv P f 8)) (v + 11 + 1) j = -1 := by rw [upA_eq, rmv_f z]; exact w2
            obtain ⟨i2, hi2, e2⟩ := hC.cov j w1 hused
            have hne : i2 ≠ i := fun t => y (by rw [← e2, t])
            have hrows : (upA Mx (v + 11 + 1) (rmv P f 8)) (v + 11 + 1) (l i2) = (upA Mx (v + 11 + 1) (rmv P f 8)) (v + 11 + 1) (l i) := by
              rw [upA_eq, e2, rmv_f z, rmv_f hnP, hfj, hkey]
            rcases Nat.lt_trichotomy i2 i with t | t | t
            · exact hC.dist i2 i t hi hrows
            · exact hne t
            · exact hC.dist i i2 t hi2 hrows.symm
    rw [ev] at R4 C4
    exact ⟨i, hi, hfd, mg, R4, C4, FA4⟩
  · right
    have hC' : RC nc (upA Mx (v + 11 + 1) (rmv P f 8)) (v + 11) ((upA Mm 1 A) 1) n l T := by rw [e1]; exact hC
    refine ⟨(hC'.nofound hb hr (by rw [e1]; exact fun i hi z => q ⟨i, hi, z⟩)).2, ?_⟩
    refine rmv_ext (fun j hj hz => ⟨fun w => ?_, fun w => Or.inl w⟩)
    rcases w with w | w
    · exact w
    · apply Classical.byContradiction
      intro hnp
      obtain ⟨u, hu, eu⟩ := hk j hj hz
      have hfj : f j = nI (16 * b + r) := by rw [eu, ix_nI (by omega)] at w; rw [eu, w]
      have hrf : rmv P f 8 j = f j := rmv_f (fun z => hnp z.2.2)
      obtain ⟨i2, hi2, e2⟩ := hC.cov j hj (by rw [upA_eq, hrf]; exact hz)
      exact q ⟨i2, hi2, (hC.key hi2 hb hr).mpr (by rw [upA_eq, e2, hrf, hfj])⟩
/-- BEHIND A BATCH, under automatic coherence -/
theorem c_after {Mx Mm : Mem} {v pr nc n bt : Nat} {l : Nat → Nat} {T : Nat} (hpr : pr + 12 < v) (hs : WFs (Mm 5)) (hnc : nc ≤ 8) (hw : WFb (Mm 5) bt) (hu : PUs Mx pr (Mm 5) bt) (hR : RV nc Mx v (Mm 1)) (hC : RC nc Mx (v + 11) (Mm 1) n l T) : ∃ M2 a2 n2 l2, f_X1_removeStored (v + 11) pr (nI bt) Mx = some (0, M2) ∧ f_X10_meetsLines (nI bt) 1 Mm = some (0, upA Mm 1 a2) ∧ RV nc M2 v a2 ∧ RC nc M2 (v + 11) a2 n2 l2 T ∧ n2 ≤ n ∧ FrC v Mx M2 ∧ FrA (Mm 1) a2 := by
  obtain ⟨h12, hset, hno, hf, hl, hr60, hr⟩ := id hw
  obtain ⟨h0, h01, h08, -⟩ := id hs
  have hk : ∀ j, j < 8 → ¬ Mx (v + 11 + 1) j = -1 → ∃ y, y < 128 ∧ Mx (v + 11 + 1) j = nI y := by
    intro j hj hz
    obtain ⟨i, hi, e⟩ := hC.cov j hj hz
    obtain ⟨b, r, hb, hr, -, e2, -⟩ := hC.line i hi
    rw [e] at e2
    exact ⟨16 * b + r, by omega, e2⟩
  rw [x_after hpr hw hu hk]
  generalize hfr : Mx (v + 11 + 1) = fr at hk
  unfold f_X10_meetsLines
  rw [m_firstOf _ h12, bnd_some, hf]
  have e5 : ∀ A, (upA Mm 1 A) 5 = Mm 5 := fun A => upA_ne _ _ (by decide)
  have hbo : ∀ A, f_X10_banksOf (nI bt) (upA Mm 1 A) = some (setN (Mm 5) bt, upA Mm 1 A) := fun A => by rw [m_banksOf _ h12, e5]; rfl
  have hE : ∀ A, f_X10_endOf (nI bt) (upA Mm 1 A) = some (nI (fstN (Mm 5) bt + lenN (Mm 5) bt), upA Mm 1 A) := fun A => by rw [m_endOf _ h12, e5, hf, hl, nI_add]
  have hst : ∀ y, stoK (Mm 5) bt y ↔ bit (setN (Mm 5) bt) (y / 16) = true ∧ ∃ k, k < lenN (Mm 5) bt ∧ kdN (Mm 5) (fstN (Mm 5) bt + k) = 1 ∧ x2N (Mm 5) (fstN (Mm 5) bt + k) = y % 16 := fun y => Iff.rfl
  generalize setN (Mm 5) bt = s at *
  generalize fstN (Mm 5) bt = f at *
  generalize lenN (Mm 5) bt = m at *
  generalize hnb : ix (Mm 5 0) = nb at *
  -- what holds all the time
  have inner : ∀ (c : Nat) (P : Nat → Prop) (A : Nat → Int32) (n1 : Nat) (l1 : Nat → Nat), f ≤ c → c < f + m → kdN (Mm 5) c = 1 → RV nc (upA Mx (v + 11 + 1) (rmv P fr 8)) v A → RC nc (upA Mx (v + 11 + 1) (rmv P fr 8)) (v + 11) A n1 l1 T → ∃ t : Int32 × Mem, (t.1 = nI (c + 1) ∧ ∃ A2 n2 l2, t.2 = upA Mm 1 A2 ∧ RV nc (upA Mx (v + 11 + 1) (rmv (fun y => P y ∨ y % 16 = x2N (Mm 5) c ∧ bit s (y / 16) = true) fr 8)) v A2 ∧ RC nc (upA Mx (v + 11 + 1) (rmv (fun y => P y ∨ y % 16 = x2N (Mm 5) c ∧ bit s (y / 16) = true) fr 8)) (v + 11) A2 n2 l2 T ∧ n2 ≤ n1 ∧ FrA A A2) ∧ ∀ K6 : Int32 × Mem → Option (Int32 × Mem), j_X10_meetsLines_39 (nI bt) 1 (nI c) K6 (upA Mm 1 A) = K6 t := by
    intro c P A n1 l1 hc1 hc2 hk1 hR1 hC1
    have hc := hr c hc1 hc2
    obtain ⟨q2, q2l⟩ := hc.2.2.2.2.2 (by omega)
    have c60 : c < 60 := by omega
    have pz : rmv (fun y => P y ∨ y % 16 = x2N (Mm 5) c ∧ bit s (y / 16) = true ∧ y / 16 < 0) fr 8 = rmv P fr 8 := rmv_ext (fun j hj hz => ⟨fun w => by rcases w with w | w; exact w; omega, fun w => Or.inl w⟩)
    refine Exists.elim (loop_invK (B := fun K1 => l_X10_meetsLines_42 (nI bt) 1 (nI c) K1) (init := (0, upA Mm 1 A)) (Q := fun (t : Int32 × Mem) => t.1 = nI (c + 1) ∧ ∃ A2 n2 l2, t.2 = upA Mm 1 A2 ∧ RV nc (upA Mx (v + 11 + 1) (rmv (fun y => P y ∨ y % 16 = x2N (Mm 5) c ∧ bit s (y / 16) = true) fr 8)) v A2 ∧ RC nc (upA Mx (v + 11 + 1) (rmv (fun y => P y ∨ y % 16 = x2N (Mm 5) c ∧ bit s (y / 16) = true) fr 8)) (v + 11) A2 n2 l2 T ∧ n2 ≤ n1 ∧ FrA A A2) nb (fun b st => st.1 = nI b ∧ ∃ A2 n2 l2, st.2 = upA Mm 1 A2 ∧ RV nc (upA Mx (v + 11 + 1) (rmv (fun y => P y ∨ y % 16 = x2N (Mm 5) c ∧ bit s (y / 16) = true ∧ y / 16 < b) fr 8)) v A2 ∧ RC nc (upA Mx (v + 11 + 1) (rmv (fun y => P y ∨ y % 16 = x2N (Mm 5) c ∧ bit s (y / 16) = true ∧ y / 16 < b) fr 8)) (v + 11) A2 n2 l2 T ∧ n2 ≤ n1 ∧ FrA A A2) ⟨rfl, A, n1, l1, rfl, by rw [pz]; exact hR1, by rw [pz]; exact hC1, Nat.le_refl _, FrA.refl A⟩ (by omega) ?_ ?_) (fun t ht => ⟨t, ht.1, fun K6 => ht.2 K6⟩)
    · rintro b hb ⟨x4, M1⟩ ⟨rfl, A2, n2, l2, hM1, hR2, hC2, hn2, hA2⟩
      have hM1 : M1 = upA Mm 1 A2 := hM1
      subst hM1
      have ea : nI b + 1 = nI (b + 1) := by rw [nI_1]
      have hlt : ¬ nI nb ≤ nI b := nI_ge hb (by omega)
      have t2 : f_X10_told (nI c) 2 (upA Mm 1 A2) = some (nI (x2N (Mm 5) c), upA Mm 1 A2) := by rw [m_told2 _ c60, e5, q2]
      by_cases qb : bit s b = true
      · have px : rmv (fun y => (P y ∨ y % 16 = x2N (Mm 5) c ∧ bit s (y / 16) = true ∧ y / 16 < b) ∨ y = 16 * b + x2N (Mm 5) c) fr 8 = rmv (fun y => P y ∨ y % 16 = x2N (Mm 5) c ∧ bit s (y / 16) = true ∧ y / 16 < b + 1) fr 8 := by
          refine rmv_ext (fun j hj hz => ⟨fun w => ?_, fun w => ?_⟩)
          · rcases w with (w | w) | w
            · exact Or.inl w
            · exact Or.inr ⟨w.1, w.2.1, by omega⟩
            · have w1 : ix (fr j) / 16 = b := by omega
              refine Or.inr ⟨by omega, by rw [w1]; exact qb, by omega⟩
          · rcases w with w | w
            · exact Or.inl (Or.inl w)
            · by_cases y : ix (fr j) / 16 < b
              · exact Or.inl (Or.inr ⟨w.1, w.2.1, y⟩)
              · exact Or.inr (by omega)
        rcases rm_key (Mm := Mm) (b := b) (r := x2N (Mm 5) c) hfr hnc (by omega) q2l hk hR2 hC2 with ⟨i, hi, hlo, hgo, R4, C4, F4⟩ | ⟨hlo, heq⟩
        · rw [px] at R4 C4
          refine ⟨(nI (b + 1), upA Mm 1 (goA A2 i n2)), ⟨rfl, goA A2 i n2, n2 - 1, lGo l2 i, rfl, R4, C4, by omega, hA2.trans F4⟩, fun K1 K => ?_⟩
          simp only [l_X10_meetsLines_42]
          have h8 := hC2.n8
          rw [e5, h0, if_neg hlt, hbo, bnd_some, if_neg (has_t qb), t2, bnd_some, hlo, bnd_some]
          unfold j_X10_meetsLines_82 j_X10_meetsLines_112
          rw [if_pos (ne_m1 (by omega)), if_neg (by decide), hgo, bnd_some, ea]
        · rw [px] at heq
          refine ⟨(nI (b + 1), upA Mm 1 A2), ⟨rfl, A2, n2, l2, rfl, by rw [heq]; exact hR2, by rw [heq]; exact hC2, hn2, hA2⟩, fun K1 K => ?_⟩
          simp only [l_X10_meetsLines_42]
          rw [e5, h0, if_neg hlt, hbo, bnd_some, if_neg (has_t qb), t2, bnd_some, hlo, bnd_some]
          unfold j_X10_meetsLines_82 j_X10_meetsLines_112
          rw [if_neg (fun z => z rfl), ea]
      · have px : rmv (fun y => P y ∨ y % 16 = x2N (Mm 5) c ∧ bit s (y / 16) = true ∧ y / 16 < b + 1) fr 8 = rmv (fun y => P y ∨ y % 16 = x2N (Mm 5) c ∧ bit s (y / 16) = true ∧ y / 16 < b) fr 8 := by
          refine rmv_ext (fun j hj hz => ⟨fun w => ?_, fun w => ?_⟩)
          · rcases w with w | w
            · exact Or.inl w
            · by_cases y : ix (fr j) / 16 < b
              · exact Or.inr ⟨w.1, w.2.1, y⟩
              · have y2 : ix (fr j) / 16 = b := by omega
                exact absurd (by rw [← y2]; exact w.2.1) qb
          · rcases w with w | w
            · exact Or.inl w
            · exact Or.inr ⟨w.1, w.2.1, by omega⟩
        refine ⟨(nI (b + 1), upA Mm 1 A2), ⟨rfl, A2, n2, l2, rfl, by rw [px]; exact hR2, by rw [px]; exact hC2, hn2, hA2⟩, fun K1 K => ?_⟩
        simp only [l_X10_meetsLines_42]
        rw [e5, h0, if_neg hlt, hbo, bnd_some, if_pos (Classical.not_not.mp (has_f qb))]
        unfold j_X10_meetsLines_82 j_X10_meetsLines_112
        rw [if_neg (fun z => z rfl), ea]
    · rintro ⟨x4, M1⟩ ⟨rfl, A2, n2, l2, hM1, hR2, hC2, hn2, hA2⟩
      have hM1 : M1 = upA Mm 1 A2 := hM1
      subst hM1
      have px : rmv (fun y => P y ∨ y % 16 = x2N (Mm 5) c ∧ bit s (y / 16) = true ∧ y / 16 < nb) fr 8 = rmv (fun y => P y ∨ y % 16 = x2N (Mm 5) c ∧ bit s (y / 16) = true) fr 8 := by
        refine rmv_ext (fun j hj hz => ⟨fun w => ?_, fun w => ?_⟩)
        · rcases w with w | w
          · exact Or.inl w
          · exact Or.inr ⟨w.1, w.2.1⟩
        · rcases w with w | w
          · exact Or.inl w
          · refine Or.inr ⟨w.1, w.2, ?_⟩
            obtain ⟨y, hy, ey⟩ := hk j hj hz
            have hiy : ix (fr j) = y := by rw [ey]; exact ix_nI (by omega)
            apply Classical.byContradiction
            intro u
            exact hno (ix (fr j) / 16) (by omega) (by omega) w.2
      rw [px] at hR2 hC2
      refine ⟨(nI (c + 1), upA Mm 1 A2), ⟨rfl, A2, n2, l2, rfl, hR2, hC2, hn2, hA2⟩, fun K1 K => ?_⟩
      simp only [l_X10_meetsLines_42]
      rw [e5, h0, if_pos (nI_le (Nat.le_refl _) (by omega))]
      unfold j_X10_meetsLines_118
      rw [nI_1]
  have pz : rmv (fun y => bit s (y / 16) = true ∧ ∃ k, k < 0 ∧ kdN (Mm 5) (f + k) = 1 ∧ x2N (Mm 5) (f + k) = y % 16) fr 8 = fr := by
    funext j
    exact rmv_f (fun z => by obtain ⟨-, -, -, k, hk, -⟩ := z; omega)
  have hM0 : Mm = upA Mm 1 (Mm 1) := by rw [upA_self]
  have hX0 : upA Mx (v + 11 + 1) fr = Mx := by rw [← hfr, upA_self]
  have pe : rmv (stoK (Mm 5) bt) fr 8 = rmv (fun y => bit s (y / 16) = true ∧ ∃ k, k < m ∧ kdN (Mm 5) (f + k) = 1 ∧ x2N (Mm 5) (f + k) = y % 16) fr 8 := rmv_ext (fun j hj hz => hst _)
  rw [pe]
  refine Exists.elim (loop_inv (body := l_X10_meetsLines_6 (nI bt) 1) (init := (nI f, Mm)) (Q := fun r => ∃ A2 n2 l2, r = some (0, upA Mm 1 A2) ∧ RV nc (upA Mx (v + 11 + 1) (rmv (fun y => bit s (y / 16) = true ∧ ∃ k, k < m ∧ kdN (Mm 5) (f + k) = 1 ∧ x2N (Mm 5) (f + k) = y % 16) fr 8)) v A2 ∧ RC nc (upA Mx (v + 11 + 1) (rmv (fun y => bit s (y / 16) = true ∧ ∃ k, k < m ∧ kdN (Mm 5) (f + k) = 1 ∧ x2N (Mm 5) (f + k) = y % 16) fr 8)) (v + 11) A2 n2 l2 T ∧ n2 ≤ n ∧ FrA (Mm 1) A2) m (fun k st => st.1 = nI (f + k) ∧ ∃ A2 n2 l2, st.2 = upA Mm 1 A2 ∧ RV nc (upA Mx (v + 11 + 1) (rmv (fun y => bit s (y / 16) = true ∧ ∃ k2, k2 < k ∧ kdN (Mm 5) (f + k2) = 1 ∧ x2N (Mm 5) (f + k2) = y % 16) fr 8)) v A2 ∧ RC nc (upA Mx (v + 11 + 1) (rmv (fun y => bit s (y / 16) = true ∧ ∃ k2, k2 < k ∧ kdN (Mm 5) (f + k2) = 1 ∧ x2N (Mm 5) (f + k2) = y % 16) fr 8)) (v + 11) A2 n2 l2 T ∧ n2 ≤ n ∧ FrA (Mm 1) A2) ⟨rfl, Mm 1, n, l, hM0, by rw [pz, hX0]; exact hR, by rw [pz, hX0]; exact hC, Nat.le_refl _, FrA.refl _⟩ (by omega) ?_ ?_) (fun r hres => ?_)
  · rintro k hk2 ⟨x3, M1⟩ ⟨rfl, A2, n2, l2, hM1, hR2, hC2, hn2, hA2⟩
    have hM1 : M1 = upA Mm 1 A2 := hM1
    subst hM1
    have hc := hr (f + k) (by omega) (by omega)
    have hkl := kd_lt (Mm 5) (f + k)
    have hKd := mm_kindOf (M := upA Mm 1 A2) (c := f + k) (by omega) (by rw [e5]; exact hc)
    rw [e5] at hKd
    have hlt : ¬ nI (f + m) ≤ nI (f + k) := nI_ge (by omega) (by omega)
    by_cases q : kdN (Mm 5) (f + k) = 1
    · obtain ⟨t, ⟨ht1, A3, n3, l3, ht2, R3, C3, hn3, F3⟩, hT⟩ := inner (f + k) _ A2 n2 l2 (by omega) (by omega) q hR2 hC2
      have px : rmv (fun y => (bit s (y / 16) = true ∧ ∃ k2, k2 < k ∧ kdN (Mm 5) (f + k2) = 1 ∧ x2N (Mm 5) (f + k2) = y % 16) ∨ y % 16 = x2N (Mm 5) (f + k) ∧ bit s (y / 16) = true) fr 8 = rmv (fun y => bit s (y / 16) = true ∧ ∃ k2, k2 < k + 1 ∧ kdN (Mm 5) (f + k2) = 1 ∧ x2N (Mm 5) (f + k2) = y % 16) fr 8 := by
        refine rmv_ext (fun j hj hz => ⟨fun w => ?_, fun w => ?_⟩)
        · rcases w with ⟨w1, k2, w2, w3⟩ | w
          · exact ⟨w1, k2, by omega, w3⟩
          · exact ⟨w.2, k, by omega, q, w.1.symm⟩
        · obtain ⟨w1, k2, w2, w3, w4⟩ := w
          by_cases y : k2 < k
          · exact Or.inl ⟨w1, k2, y, w3, w4⟩
          · have : k2 = k := by omega
            subst this
            exact Or.inr ⟨w4.symm, w1⟩
      rw [px] at R3 C3
      refine ⟨t, ⟨by rw [ht1, Nat.add_assoc], A3, n3, l3, ht2, R3, C3, by omega, hA2.trans F3⟩, fun K => ?_⟩
      simp only [l_X10_meetsLines_6]
      rw [hE, bnd_some, if_neg hlt, hKd, bnd_some, q, if_pos (show nI 1 = 1 from rfl), hT]
    · have px : rmv (fun y => bit s (y / 16) = true ∧ ∃ k2, k2 < k + 1 ∧ kdN (Mm 5) (f + k2) = 1 ∧ x2N (Mm 5) (f + k2) = y % 16) fr 8 = rmv (fun y => bit s (y / 16) = true ∧ ∃ k2, k2 < k ∧ kdN (Mm 5) (f + k2) = 1 ∧ x2N (Mm 5) (f + k2) = y % 16) fr 8 := by
        refine rmv_ext (fun j hj hz => ⟨fun w => ?_, fun w => ?_⟩)
        · obtain ⟨w1, k2, w2, w3, w4⟩ := w
          refine ⟨w1, k2, ?_, w3, w4⟩
          apply Classical.byContradiction
          intro y
          have : k2 = k := by omega
          subst this
          exact q w3
        · obtain ⟨w1, k2, w2, w3⟩ := w
          exact ⟨w1, k2, by omega, w3⟩
      refine ⟨(nI (f + (k + 1)), upA Mm 1 A2), ⟨rfl, A2, n2, l2, rfl, by rw [px]; exact hR2, by rw [px]; exact hC2, hn2, hA2⟩, fun K => ?_⟩
      simp only [l_X10_meetsLines_6]
      have y1 : ¬ nI (kdN (Mm 5) (f + k)) = 1 := fun z => by have := (nI_eq (b := 1) (by omega) (by omega)).mp z; omega
      have ek : nI (f + k) + 1 = nI (f + (k + 1)) := by rw [n1, nI_add, Nat.add_assoc]
      rw [hE, bnd_some, if_neg hlt, hKd, bnd_some, if_neg y1, hKd, bnd_some]
      unfold j_X10_meetsLines_118
      rw [if_neg (show ¬ (1 : Int32) = 0 by decide), ek]
      split <;> rfl
  · rintro ⟨x3, M1⟩ ⟨rfl, A2, n2, l2, hM1, hR2, hC2, hn2, hA2⟩
    have hM1 : M1 = upA Mm 1 A2 := hM1
    subst hM1
    refine ⟨_, ⟨A2, n2, l2, rfl, hR2, hC2, hn2, hA2⟩, fun K => ?_⟩
    simp only [l_X10_meetsLines_6]
    rw [hE, bnd_some, if_pos (nI_le (Nat.le_refl _) (by omega))]
  · obtain ⟨⟨A2, n2, l2, e, R2, C2, hn2, F2⟩, e2⟩ := hres
    exact ⟨_, A2, n2, l2, rfl, by rw [e2, e], R2, C2, hn2, (FrC.refl v Mx).upA4 (by omega), F2⟩
