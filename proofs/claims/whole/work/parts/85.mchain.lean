theorem st2_9 (M : Mem) (u w u2 w2 : Int32) (c : Nat → Int32) : st2 (upA (st2 M u w) 9 c) u2 w2 = upA (st2 M u2 w2) 9 c := by
  have e : (upA (st2 M u w) 9 c) 0 = (st2 M u w) 0 := upA_ne _ _ (by decide)
  have h : st2 (upA (st2 M u w) 9 c) u2 w2 = upA (st2 (st2 M u w) u2 w2) 9 c := by
    have h1 : st2 (upA (st2 M u w) 9 c) u2 w2 = upA (upA (st2 M u w) 9 c) 0 (upd (upd ((upA (st2 M u w) 9 c) 0) 17 u2) 18 w2) := rfl
    have h2 : st2 (st2 M u w) u2 w2 = upA (st2 M u w) 0 (upd (upd ((st2 M u w) 0) 17 u2) 18 w2) := rfl
    rw [h1, h2, e, upA_comm _ _ _ (show (9 : Nat) ≠ 0 by decide)]
  rw [h, st2_st2]
theorem m_chain {M : Mem} {Q : Nat} {qb : Nat → Nat} (hs : WFs (M 5)) (hQ : Q ≤ 16) (hq0 : M 1 1440 = nI Q) (hq : ∀ i, i < Q → M 1 (1441 + i) = nI (qb i) ∧ WFb (M 5) (qb i)) : ∃ u w, loopC l_X10_longestChain_9 fuelL (0, 0, M) = some ((chO (M 5) qb Q (M 9)).1, upA (st2 M u w) 9 (chO (M 5) qb Q (M 9)).2) := by
  have e1 : ∀ u w c, (upA (st2 M u w) 9 c) 1 = M 1 := fun u w c => by rw [upA_ne _ _ (by decide), st2_ne _ _ _ (by decide)]
  have e5 : ∀ u w c, (upA (st2 M u w) 9 c) 5 = M 5 := fun u w c => by rw [upA_ne _ _ (by decide), st2_ne _ _ _ (by decide)]
  have hM0 : ∃ u w, M = upA (st2 M u w) 9 (M 9) := by
    refine ⟨M 0 17, M 0 18, ?_⟩
    have h1 : st2 M (M 0 17) (M 0 18) = M := by
      unfold st2
      have : upd (upd (M 0) 17 (M 0 17)) 18 (M 0 18) = M 0 := by
        funext j
        by_cases q : j = 18
        · subst q; rw [upd_eq]
        · rw [upd_ne _ _ q]
          by_cases q2 : j = 17
          · subst q2; rw [upd_eq]
          · rw [upd_ne _ _ q2]
      rw [this, upA_self]
    rw [h1, upA_self]
  refine Exists.elim (loop_inv (body := l_X10_longestChain_9) (init := (0, 0, M)) (Q := fun r => ∃ u w, r = some ((chO (M 5) qb Q (M 9)).1, upA (st2 M u w) 9 (chO (M 5) qb Q (M 9)).2)) Q (fun k st => ∃ u w, st = ((chO (M 5) qb k (M 9)).1, nI k, upA (st2 M u w) 9 (chO (M 5) qb k (M 9)).2)) (by obtain ⟨u, w, e⟩ := hM0; exact ⟨u, w, by show (0, 0, M) = (0, nI 0, upA (st2 M u w) 9 (M 9)); rw [← e]; rfl⟩) (by omega) ?_ ?_) (fun r hr => ?_)
  · rintro k hk s ⟨u, w, rfl⟩
    have c1 : (chO (M 5) qb (k + 1) (M 9)).1 = mx (chO (M 5) qb k (M 9)).1 (chK (M 5) qb k k (chO (M 5) qb k (M 9)).2 k) := rfl
    have c2 : (chO (M 5) qb (k + 1) (M 9)).2 = chK (M 5) qb k k (chO (M 5) qb k (M 9)).2 := rfl
    rw [c1, c2]
    generalize (chO (M 5) qb k (M 9)).1 = v
    generalize (chO (M 5) qb k (M 9)).2 = c
    refine Exists.elim (loop_invK (B := fun K1 => l_X10_longestChain_30 v (nI k) K1) (init := (0, upA (st2 M u w) 9 (upd c k 1))) (Q := fun (t : Int32 × Int32 × Mem) => ∃ u2 w2, t = (mx v (chK (M 5) qb k k c k), nI (k + 1), upA (st2 M u2 w2) 9 (chK (M 5) qb k k c))) k (fun o st => ∃ u2 w2, st = (nI o, upA (st2 M u2 w2) 9 (chK (M 5) qb k o c))) ⟨u, w, rfl⟩ (by omega) ?_ ?_) (fun t ht => ?_)
    · rintro o ho s ⟨u2, w2, rfl⟩
      have c3 : chK (M 5) qb k (o + 1) c = chS (M 5) qb k o (chK (M 5) qb k o c) := rfl
      rw [c3]
      generalize chK (M 5) qb k o c = d
      have hm := m_meets (M := upA (st2 M u2 w2) 9 d) (x := qb o) (y := qb k) (by rw [e5]; exact hs) (by rw [e5]; exact (hq o (by omega)).2) (by rw [e5]; exact (hq k hk).2)
      obtain ⟨u3, w3, hm⟩ := hm
      rw [e5, st2_9] at hm
      have io := inb_T (k := o) (n := 16) (by omega) (by decide)
      have ik := inb_T (k := k) (n := 16) (by omega) (by decide)
      have xo : ix (nI o) = o := ix_nI (by omega)
      have xk : ix (nI k) = k := ix_nI (by omega)
      have ao : (1441 : Int32) + nI o = nI (1441 + o) := by rw [n1441, nI_add]
      have ak : (1441 : Int32) + nI k = nI (1441 + k) := by rw [n1441, nI_add]
      have io2 := inb_T (k := 1441 + o) (n := 1671) (by omega) (by decide)
      have ik2 := inb_T (k := 1441 + k) (n := 1671) (by omega) (by decide)
      have xo2 : ix (nI (1441 + o)) = 1441 + o := ix_nI (by omega)
      have xk2 : ix (nI (1441 + k)) = 1441 + k := ix_nI (by omega)
      have key : ∀ (K1 : Int32 × Int32 × Mem → Option (Int32 × Mem)) (K : Int32 × Mem → Option (Int32 × Mem)), l_X10_longestChain_30 v (nI k) K1 K (nI o, upA (st2 M u2 w2) 9 d) = if d o < d k then K (nI (o + 1), upA (st2 M u2 w2) 9 d) else if cfI (M 5) (qb o) (qb k) = 0 then K (nI (o + 1), upA (st2 M u3 w3) 9 d) else K (nI (o + 1), upA (st2 M u3 w3) 9 (upd d k (d o + 1))) := by
        intro K1 K
        simp only [l_X10_longestChain_30]
        rw [if_neg (nI_ge ho (by omega))]
        simp only [↓reduceIte, io, ik, xo, xk, upA_eq, e1, ao, ak, io2, ik2, xo2, xk2, (hq o (by omega)).1, (hq k hk).1]
        unfold j_X10_longestChain_91
        rw [hm, bnd_some, nI_1, wrt_def, up_upA, upA_eq]
      unfold chS
      by_cases z : d o < d k
      · refine ⟨_, ⟨u2, w2, rfl⟩, fun K1 K => ?_⟩
        rw [key, if_pos z, if_pos z]
      · by_cases y : cfI (M 5) (qb o) (qb k) = 0
        · refine ⟨_, ⟨u3, w3, rfl⟩, fun K1 K => ?_⟩
          rw [key, if_neg z, if_pos y, if_neg z, if_pos y]
        · refine ⟨_, ⟨u3, w3, rfl⟩, fun K1 K => ?_⟩
          rw [key, if_neg z, if_neg y, if_neg z, if_neg y]
    · rintro s ⟨u2, w2, rfl⟩
      refine ⟨_, ⟨u2, w2, rfl⟩, fun K1 K => ?_⟩
      simp only [l_X10_longestChain_30]
      rw [if_pos (nI_le (Nat.le_refl _) (by omega)), if_pos (of_eq_true (inb_T (show k < 16 by omega) (by decide))), ix_nI (by omega), upA_eq, great_mx, nI_1]
    · obtain ⟨⟨u2, w2, rfl⟩, hT⟩ := ht
      refine ⟨_, ⟨u2, w2, rfl⟩, fun K => ?_⟩
      simp only [l_X10_longestChain_9]
      rw [e1, hq0, if_neg (nI_ge hk (by omega)), if_pos (of_eq_true (inb_T (show k < 16 by omega) (by decide))), ix_nI (by omega), wrt_def, up_upA]
      exact hT K
  · rintro s ⟨u, w, rfl⟩
    refine ⟨_, ⟨u, w, rfl⟩, fun K => ?_⟩
    simp only [l_X10_longestChain_9]
    rw [e1, hq0, if_pos (nI_le (Nat.le_refl _) (by omega))]
  · obtain ⟨⟨u, w, e⟩, e2⟩ := hr
    exact ⟨u, w, by rw [e2, e]⟩
