/-! ===== the host uses a line ===== -/
theorem sum1 {x y : Int32} {T : Nat} (h : x + y = nI T) : (x + 1) + y = nI (T + 1) := by
  rw [Int32.add_assoc, Int32.add_comm 1 y, ← Int32.add_assoc, h, n1, nI_add]
theorem sum2 {x y : Int32} {T : Nat} (h : x + y = nI T) : x + (y + 1) = nI (T + 1) := by
  rw [← Int32.add_assoc, h, n1, nI_add]
theorem ltT {x : Int32} {T : Nat} (h : x ≤ nI T) (hT : T + 1 < 2147483648) : x < nI (T + 1) := Int32.lt_of_le_of_lt h (nI_lt (by omega) hT)
theorem rho_lt {i n j : Nat} (hi : i < n) (hj : j < n) : rho i n j < n := by
  unfold rho
  split
  · exact hi
  · split <;> omega
theorem rho_last {i n : Nat} : rho i n (n - 1) = i := by unfold rho; rw [if_pos rfl]
theorem rho_ne {i n j : Nat} (hj : j < n - 1) : rho i n j ≠ i := by
  unfold rho
  rw [if_neg (by omega)]
  split <;> omega
theorem rho_mono {i n j k : Nat} (hj : j < k) (hk : k < n - 1) : rho i n j < rho i n k := by
  unfold rho
  rw [if_neg (show ¬ j = n - 1 by omega), if_neg (show ¬ k = n - 1 by omega)]
  by_cases q : j < i
  · rw [if_pos q]
    by_cases q2 : k < i
    · rw [if_pos q2]; exact hj
    · rw [if_neg q2]; omega
  · rw [if_neg q, if_neg (show ¬ k < i by omega)]; omega
theorem rho_inj {i n j k : Nat} (hi : i < n) (hj : j < k) (hk : k < n) : rho i n j ≠ rho i n k := by
  by_cases q : k = n - 1
  · subst q; rw [rho_last]; exact rho_ne hj
  · have := rho_mono (i := i) (n := n) hj (show k < n - 1 by omega); omega
theorem c_hit {Mx Mm : Mem} {v nc n i b r : Nat} {l : Nat → Nat} {T : Nat} (hnc : nc ≤ 8) (hT : T + 1 < 2147483648) (hR : RV nc Mx v (Mm 1)) (hC : RC nc Mx (v + 11) (Mm 1) n l T) (hi : i < n) (hb : b < 8) (hr : r < 16) (hL : isL (Mm 1) b r i) (C : Int32) : ∃ M2 U a2, f_X1_useLine (v + 11) (nI b) (nI r) C v Mx = some (nI (l i), M2) ∧ f_X10_uses (nI b) (nI r) Mm = some (nI (n - 1), upA (upA Mm 8 U) 1 a2) ∧ RV nc M2 v a2 ∧ RC nc M2 (v + 11) a2 n (fun j => l (rho i n j)) (T + 1) ∧ FrC v Mx M2 ∧ FrA (Mm 1) a2 ∧ l i = l (rho i n (n - 1)) := by
  have hl := hC.l8 i hi
  have hn8 := hC.n8
  obtain ⟨hx, -⟩ := hC.found hi hb hr hL
  have hu : ∀ j, j < i → ¬ isL (Mm 1) b r j := fun j hj z => by
    have h1 := (hC.key (show j < n by omega) hb hr).mp z
    have h2 := (hC.key hi hb hr).mp hL
    exact hC.dist j i hj hi (by rw [h1, h2])
  rw [m_usesHit hC.cnt hC.n8 hi hL hu]
  unfold f_X1_useLine
  rw [hx, bnd_some, if_neg (ne_m1 (by omega)), wrt_def]
  unfold j_X1_useLine_58
  rw [if_pos (of_eq_true (inb_T hl (by decide))), ix_nI (by omega), wrt_def]
  have eT : (up Mx (v + 11) 4 (Mx (v + 11) 4 + 1)) (v + 11) 4 + (up Mx (v + 11) 4 (Mx (v + 11) 4 + 1)) (v + 11) 5 = nI (T + 1) := by
    rw [up_eq, up_i _ _ (by decide), hC.hit, hC.mis]; exact sum1 hC.sum
  rw [eT]
  have ro : ∀ c, c ≠ v + 11 → c ≠ v + 11 + 3 → (up (up Mx (v + 11) 4 (Mx (v + 11) 4 + 1)) (v + 11 + 3) (l i) (nI (T + 1))) c = Mx c := fun c h1 h2 => by rw [up_a _ _ _ h2, up_a _ _ _ h1]
  have r3 : (up (up Mx (v + 11) 4 (Mx (v + 11) 4 + 1)) (v + 11 + 3) (l i) (nI (T + 1))) (v + 11 + 3) = upd (Mx (v + 11 + 3)) (l i) (nI (T + 1)) := by rw [up_row, up_a _ _ _ (by omega)]
  have r0 : (up (up Mx (v + 11) 4 (Mx (v + 11) 4 + 1)) (v + 11 + 3) (l i) (nI (T + 1))) (v + 11) = upd (Mx (v + 11)) 4 (Mx (v + 11) 4 + 1) := by rw [up_a _ _ _ (by omega), up_row]
  have hA : ∀ j, (j < 1579 ∨ 1668 ≤ j) → roA (upd (Mm 1) 1667 (Mm 1 1667 + 1)) i n j = Mm 1 j := fun j hj => by rw [ro_hi hn8 hi (by omega), upd_ne _ _ (by omega)]
  have hA7 : roA (upd (Mm 1) 1667 (Mm 1 1667 + 1)) i n 1667 = Mm 1 1667 + 1 := by rw [ro_hi hn8 hi (by omega), upd_eq]
  have hAc : ∀ j k, j < n → k < 11 → roA (upd (Mm 1) 1667 (Mm 1 1667 + 1)) i n (cl j k) = Mm 1 (cl (rho i n j) k) := fun j k hj hk => by
    have h3 := rho_lt hi hj
    rw [ro_cl hn8 hi hj hk, upd_ne _ _ (by unfold cl; omega)]
  generalize roA (upd (Mm 1) 1667 (Mm 1 1667 + 1)) i n = a2 at hA hA7 hAc
  refine ⟨_, _, a2, rfl, rfl, ?_, ?_, ((FrC.refl v Mx).up (by omega)).up (by omega), fun j hj => hA j (by omega), by rw [rho_last]⟩
  · exact rv_a hR (ro _ (by omega) (by omega)) (ro _ (by omega) (by omega)) (fun j h1 h2 => hA j (by omega))
  · have hne : ∀ j, j < n - 1 → l (rho i n j) ≠ l i := fun j hj z => rho_ne hj (hC.inj (rho_lt hi (by omega)) hi z)
    refine ⟨by rw [hA _ (by omega)]; exact hC.cnt, hC.n8, fun j hj => hC.l8 _ (rho_lt hi hj), fun j hj => ?_, fun j k hj hk => ?_, fun j hj => ?_, fun j hj hz => ?_, fun j k hj hk => ?_, ?_, ?_, ?_, ?_⟩
    · obtain ⟨b2, r2, hb2, hr2, hL2, f1, f2, fd, fw⟩ := hC.line _ (rho_lt hi hj)
      refine ⟨b2, r2, hb2, hr2, ⟨by rw [hAc _ _ hj (by omega)]; exact hL2.1, by rw [hAc _ _ hj (by omega)]; exact hL2.2⟩, by rw [ro _ (by omega) (by omega)]; exact f1, by rw [ro _ (by omega) (by omega), hAc _ _ hj (by omega)]; exact f2, by rw [hAc _ _ hj (by omega)]; exact fd, fun k hk => by rw [ro _ (by omega) (by omega), hAc _ _ hj (by omega)]; exact fw k hk⟩
    · show (up _ _ _ _) (v + 11 + 3) (l (rho i n j)) < (up _ _ _ _) (v + 11 + 3) (l (rho i n k))
      rw [r3, upd_ne _ _ (hne j (by omega))]
      by_cases q : k = n - 1
      · subst q
        rw [rho_last, upd_eq]
        exact ltT (hC.top _ (rho_lt hi (by omega))) hT
      · rw [upd_ne _ _ (hne k (by omega))]
        exact hC.ord _ _ (rho_mono hj (by omega)) (rho_lt hi hk)
    · show (up _ _ _ _) (v + 11 + 3) (l (rho i n j)) ≤ _
      rw [r3]
      by_cases q : j = n - 1
      · subst q
        rw [rho_last, upd_eq]
        exact Int32.le_refl _
      · rw [upd_ne _ _ (hne j (by omega))]
        exact Int32.le_of_lt (ltT (hC.top _ (rho_lt hi hj)) hT)
    · rw [ro _ (by omega) (by omega)] at hz
      obtain ⟨k, hk, e⟩ := hC.cov j hj hz
      by_cases w : k = i
      · exact ⟨n - 1, by omega, by show l (rho i n (n - 1)) = j; rw [rho_last, ← w]; exact e⟩
      · by_cases w2 : k < i
        · exact ⟨k, hk, by show l (rho i n k) = j; unfold rho; rw [if_neg (by omega), if_pos w2]; exact e⟩
        · exact ⟨k - 1, by omega, by show l (rho i n (k - 1)) = j; unfold rho; rw [if_neg (by omega), if_neg (by omega), show k - 1 + 1 = k by omega]; exact e⟩
    · rw [ro _ (by omega) (by omega)]
      have hd := rho_inj (i := i) hi hj hk
      rcases Nat.lt_trichotomy (rho i n j) (rho i n k) with y | y | y
      · exact hC.dist _ _ y (rho_lt hi hk)
      · exact absurd y hd
      · exact fun z => hC.dist _ _ y (rho_lt hi (by omega)) z.symm
    · rw [r0, upd_eq, hA7, hC.hit]
    · rw [r0, upd_ne _ _ (by decide), hA _ (by omega)]; exact hC.mis
    · rw [r0, upd_ne _ _ (by decide), hA _ (by omega)]; exact hC.wrb
    · rw [hA7, hA _ (by omega)]; exact sum1 hC.sum
/-- a miss is counted -/
theorem c_bump {Mx : Mem} {a : Nat → Int32} {v nc n : Nat} {l : Nat → Nat} {T : Nat} (hnc : nc ≤ 8) (hT : T + 1 < 2147483648) (hR : RV nc Mx v a) (hC : RC nc Mx (v + 11) a n l T) : RV nc (up Mx (v + 11) 5 (Mx (v + 11) 5 + 1)) v (upd a 1668 (a 1668 + 1)) ∧ RC nc (up Mx (v + 11) 5 (Mx (v + 11) 5 + 1)) (v + 11) (upd a 1668 (a 1668 + 1)) n l (T + 1) ∧ (∀ i, i < n → (up Mx (v + 11) 5 (Mx (v + 11) 5 + 1)) (v + 11 + 3) (l i) < nI (T + 1)) := by
  have hn8 := hC.n8
  have ro : ∀ c, c ≠ v + 11 → (up Mx (v + 11) 5 (Mx (v + 11) 5 + 1)) c = Mx c := fun c h1 => up_a _ _ _ h1
  have hc : ∀ j k, j < 8 → k < 11 → upd a 1668 (a 1668 + 1) (cl j k) = a (cl j k) := fun j k h1 h2 => upd_ne _ _ (by unfold cl; omega)
  refine ⟨rv_a hR (ro _ (by omega)) (ro _ (by omega)) (fun j h1 h2 => upd_ne _ _ (by omega)), ⟨by rw [upd_ne _ _ (by decide)]; exact hC.cnt, hC.n8, hC.l8, fun j hj => ?_, ?_, ?_, ?_, ?_, ?_, ?_, ?_, ?_⟩, ?_⟩
  · obtain ⟨b2, r2, hb2, hr2, hL2, f1, f2, fd, fw⟩ := hC.line j hj
    refine ⟨b2, r2, hb2, hr2, ⟨by rw [hc _ _ (by omega) (by omega)]; exact hL2.1, by rw [hc _ _ (by omega) (by omega)]; exact hL2.2⟩, by rw [ro _ (by omega)]; exact f1, by rw [ro _ (by omega), hc _ _ (by omega) (by omega)]; exact f2, by rw [hc _ _ (by omega) (by omega)]; exact fd, ?_⟩
    intro k hk
    rw [ro _ (by omega), hc _ _ (by omega) (by omega)]
    exact fw k hk
  · rw [ro _ (by omega)]; exact hC.ord
  · rw [ro _ (by omega)]; exact fun j hj => Int32.le_of_lt (ltT (hC.top j hj) hT)
  · rw [ro _ (by omega)]; exact hC.cov
  · rw [ro _ (by omega)]; exact hC.dist
  · rw [up_i _ _ (by decide), upd_ne _ _ (by decide)]; exact hC.hit
  · rw [up_eq, upd_eq, hC.mis]
  · rw [up_i _ _ (by decide), upd_ne _ _ (by decide)]; exact hC.wrb
  · rw [upd_ne _ _ (by decide), upd_eq]; exact sum2 hC.sum
  · intro i hi
    rw [ro _ (by omega)]
    exact ltT (hC.top i hi) hT
/-- a line comes to a free place -/
theorem c_add {Mx : Mem} {a : Nat → Int32} {v nc n lx b r : Nat} {l : Nat → Nat} {T : Nat} (hv : isV v) (hnc : nc ≤ 8) (hn : n < 8) (hb : b < 8) (hr : r < 16) (hR : RV nc Mx v a) (hC : RC nc Mx (v + 11) a n l T) (hlx : lx < 8) (hf : Mx (v + 11 + 1) lx = -1) (hk : ∀ i, i < n → ¬ isL a b r i) (htop : ∀ i, i < n → Mx (v + 11 + 3) (l i) < nI T) (M2 : Mem) (e1 : M2 (v + 11 + 1) = upd (Mx (v + 11 + 1)) lx (nI (16 * b + r))) (e2 : M2 (v + 11 + 2) = upd (Mx (v + 11 + 2)) lx 0) (e3 : M2 (v + 11 + 3) = upd (Mx (v + 11 + 3)) lx (nI T)) (e4 : M2 (v + 11 + 4) = fun k => if 8 * lx ≤ k ∧ k < 8 * lx + 8 then Mx (v + 1) (8 * (16 * b + r) + (k - 8 * lx)) else Mx (v + 11 + 4) k) (eo : ∀ c, c < v + 11 + 1 → M2 c = Mx c) : RV nc M2 v (coA a n b r nc) ∧ RC nc M2 (v + 11) (coA a n b r nc) (n + 1) (fun j => if j = n then lx else l j) T := by
  obtain ⟨n1', n2', n3', n4', n5'⟩ := co_new (a := a) (b := b) (r := r) hn hnc
  have hne : ∀ i, i < n → l i ≠ lx := fun i hi z => (hC.line i hi).used (by rw [z]; exact hf)
  have hhi : ∀ j, (j < 1578 ∨ 1667 ≤ j) → coA a n b r nc j = a j := fun j hj => co_hi hn hnc hj
  have hcl : ∀ j k, j < n → k < 11 → coA a n b r nc (cl j k) = a (cl j k) := fun j k h1 h2 => co_cl hn hnc h1 h2
  constructor
  · exact rv_a hR (eo _ (by omega)) (eo _ (by omega)) (fun j h1 h2 => hhi j (by omega))
  · refine ⟨n5', by omega, fun j hj => ?_, fun j hj => ?_, fun j k hj hk2 => ?_, fun j hj => ?_, fun j hj hz => ?_, fun j k hj hk2 => ?_, ?_, ?_, ?_, ?_⟩
    · show (if j = n then lx else l j) < 8
      split
      · exact hlx
      · exact hC.l8 j (by omega)
    · show LR nc M2 (v + 11) (if j = n then lx else l j) _ j
      by_cases q : j = n
      · rw [if_pos q, q]
        refine ⟨b, r, hb, hr, ⟨n1', n2'⟩, by rw [e1, upd_eq], by rw [e2, upd_eq, n3'], Or.inl n3', fun k hk2 => ?_⟩
        rw [e4, n4' k hk2]
        show (if _ then _ else _) = _
        rw [if_pos (by omega), hR.1 _ (by omega) (by omega)]
        congr 1; unfold wdP; omega
      · rw [if_neg q]
        obtain ⟨b2, r2, hb2, hr2, hL2, f1, f2, fd, fw⟩ := hC.line j (by omega)
        have hnj := hne j (by omega)
        have hl8 := hC.l8 j (by omega)
        refine ⟨b2, r2, hb2, hr2, ⟨by rw [hcl _ _ (by omega) (by omega)]; exact hL2.1, by rw [hcl _ _ (by omega) (by omega)]; exact hL2.2⟩, by rw [e1, upd_ne _ _ hnj]; exact f1, by rw [e2, upd_ne _ _ hnj, hcl _ _ (by omega) (by omega)]; exact f2, by rw [hcl _ _ (by omega) (by omega)]; exact fd, fun k hk2 => ?_⟩
        rw [e4, hcl _ _ (by omega) (by omega)]
        show (if _ then _ else _) = _
        rw [if_neg (by omega)]
        exact fw k hk2
    · show M2 (v + 11 + 3) (if j = n then lx else l j) < M2 (v + 11 + 3) (if k = n then lx else l k)
      rw [if_neg (show ¬ j = n by omega), e3, upd_ne _ _ (hne j (by omega))]
      by_cases q : k = n
      · rw [if_pos q, upd_eq]; exact htop j (by omega)
      · rw [if_neg q, upd_ne _ _ (hne k (by omega))]; exact hC.ord j k hj (by omega)
    · show M2 (v + 11 + 3) (if j = n then lx else l j) ≤ nI T
      rw [e3]
      by_cases q : j = n
      · rw [if_pos q, upd_eq]; exact Int32.le_refl _
      · rw [if_neg q, upd_ne _ _ (hne j (by omega))]; exact hC.top j (by omega)
    · by_cases q : j = lx
      · exact ⟨n, by omega, by show (if n = n then lx else l n) = j; rw [if_pos rfl, q]⟩
      · rw [e1, upd_ne _ _ q] at hz
        obtain ⟨i, hi, e⟩ := hC.cov j hj hz
        exact ⟨i, by omega, by show (if i = n then lx else l i) = j; rw [if_neg (by omega)]; exact e⟩
    · show ¬ M2 (v + 11 + 1) (if j = n then lx else l j) = M2 (v + 11 + 1) (if k = n then lx else l k)
      rw [if_neg (show ¬ j = n by omega), e1, upd_ne _ _ (hne j (by omega))]
      by_cases q : k = n
      · rw [if_pos q, upd_eq]
        exact fun z => hk j (by omega) ((hC.key (by omega) hb hr).mpr z)
      · rw [if_neg q, upd_ne _ _ (hne k (by omega))]; exact hC.dist j k hj (by omega)
    · rw [eo _ (by omega), hhi _ (by omega)]; exact hC.hit
    · rw [eo _ (by omega), hhi _ (by omega)]; exact hC.mis
    · rw [eo _ (by omega), hhi _ (by omega)]; exact hC.wrb
    · rw [hhi _ (by omega), hhi _ (by omega)]; exact hC.sum
