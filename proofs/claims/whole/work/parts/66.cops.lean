/-! ===== what happens to cache lines, in the class and in the reference ===== -/
def FrC (v : Nat) (M M2 : Mem) : Prop := ∀ c, c ≠ v + 1 → (c < v + 11 ∨ v + 15 < c) → M2 c = M c
theorem FrC.refl (v : Nat) (M : Mem) : FrC v M M := fun _ _ _ => rfl
theorem FrC.trans {v : Nat} {M M2 M3 : Mem} (h : FrC v M M2) (h2 : FrC v M2 M3) : FrC v M M3 := fun c h3 h4 => by rw [h2 c h3 h4, h c h3 h4]
theorem FrC.up {v : Nat} {M M2 : Mem} (h : FrC v M M2) {c j : Nat} {x : Int32} (hc : v + 11 ≤ c ∧ c ≤ v + 15) : FrC v M (up M2 c j x) := fun d h3 h4 => by rw [up_a _ _ _ (by omega)]; exact h d h3 h4
theorem FrC.upA1 {v : Nat} {M M2 : Mem} (h : FrC v M M2) {f : Nat → Int32} : FrC v M (upA M2 (v + 1) f) := fun d h3 h4 => by rw [upA_ne _ _ h3]; exact h d h3 h4
theorem FrC.upA4 {v : Nat} {M M2 : Mem} (h : FrC v M M2) {c : Nat} {f : Nat → Int32} (hc : v + 11 ≤ c ∧ c ≤ v + 15) : FrC v M (upA M2 c f) := fun d h3 h4 => by rw [upA_ne _ _ (by omega)]; exact h d h3 h4
def FrA (a a2 : Nat → Int32) : Prop := ∀ j, (j < 160 ∨ (1184 ≤ j ∧ j < 1578) ∨ 1670 ≤ j) → a2 j = a j
theorem FrA.refl (a : Nat → Int32) : FrA a a := fun _ _ => rfl
theorem FrA.trans {a b c : Nat → Int32} (h : FrA a b) (h2 : FrA b c) : FrA a c := fun j hj => by rw [h2 j hj, h j hj]
theorem len_c {v : Nat} (h : isV v) : lenK KSx (v + 11 + 4) = 64 := by rcases h with rfl | rfl | rfl | rfl <;> rfl
theorem rv_a {nc v : Nat} {M M2 : Mem} {a a2 : Nat → Int32} (h : RV nc M v a) (h1 : M2 (v + 1) = M (v + 1)) (h2 : M2 (v + 2) = M (v + 2)) (h3 : ∀ j, 160 ≤ j → j < 1440 → a2 j = a j) : RV nc M2 v a2 := by
  refine ⟨fun i hi hn => ?_, fun i hi hn => ?_⟩
  · rw [h1, h3 _ (by omega) (by omega)]; exact h.1 i hi hn
  · rw [h2, h3 _ (by omega) (by omega)]; exact h.2 i hi hn
/-- the class's memory behind a line that was written back -/
def wbM (M : Mem) (v lx ky : Nat) : Mem := up (up (upA M (v + 1) (fun k => if 8 * ky ≤ k ∧ k < 8 * ky + 8 then M (v + 11 + 4) (8 * lx + (k - 8 * ky)) else M (v + 1) k)) (v + 11 + 2) lx 0) (v + 11) 6 (M (v + 11) 6 + 1)
theorem x_wb {M : Mem} {v lx ky : Nat} (hv : isV v) (hl : lx < 8) (hk : ky < 128) (e1 : M (v + 11 + 1) lx = nI ky) : (M (v + 11 + 2) lx = 0 → f_X1_writeBack (v + 11) (nI lx) v M = some (0, M)) ∧ (¬ M (v + 11 + 2) lx = 0 → f_X1_writeBack (v + 11) (nI lx) v M = some (1, wbM M v lx ky)) := by
  have hin := inb_T hl (show 8 < 2147483648 by decide)
  have hix : ix (nI lx) = lx := ix_nI (by omega)
  have hm1 : (nI lx = -1) = False := eq_false (ne_m1 (by omega))
  have hm2 : (nI ky = -1) = False := eq_false (ne_m1 (by omega))
  have em : nI lx * 8 = nI (8 * lx) := by rw [n8, pk_mul, Nat.mul_comm]
  have ek : nI ky * 8 = nI (8 * ky) := by rw [n8, pk_mul, Nat.mul_comm]
  have key : f_X1_writeBack (v + 11) (nI lx) v M = if ¬ M (v + 11 + 2) lx = 0 then some (1, wbM M v lx ky) else some (0, M) := by
    unfold f_X1_writeBack
    simp only [↓reduceIte, hin, hix, hm1, hm2, e1, em, ek, if_true, if_false]
    rw [x_copyWords M (len_c hv) (len_w hv) (by omega) (by omega) (by omega) (by omega)]
    simp only [bnd_some, wrt_def]
    have c1 : ∀ F : Nat → Int32, (up (upA M (v + 1) F) (v + 11 + 2) lx 0) (v + 11) = M (v + 11) := fun F => by rw [up_a _ _ _ (by omega), upA_ne _ _ (by omega)]
    rw [c1]
    rfl
  rw [key]
  exact ⟨fun z => if_neg (fun y => y z), fun z => if_pos z⟩
theorem c_clean {Mx Mm : Mem} {v nc n i : Nat} {l : Nat → Nat} {T : Nat} (hv : isV v) (hnc : nc ≤ 8) (h2 : Mm 5 2 = nI nc) (hR : RV nc Mx v (Mm 1)) (hC : RC nc Mx (v + 11) (Mm 1) n l T) (hi : i < n) : ∃ d M2 a2, f_X1_writeBack (v + 11) (nI (l i)) v Mx = some (d, M2) ∧ f_X10_cleans (nI i) Mm = some (d, upA Mm 1 a2) ∧ (d = 0 ∨ d = 1) ∧ RV nc M2 v a2 ∧ RC nc M2 (v + 11) a2 n l T ∧ FrC v Mx M2 ∧ FrA (Mm 1) a2 ∧ M2 (v + 11 + 1) = Mx (v + 11 + 1) ∧ M2 (v + 11 + 3) = Mx (v + 11 + 3) ∧ a2 (cl i 2) = 0 ∧ (∀ j, j < 8 → ∀ k, k < 11 → (j ≠ i ∨ k ≠ 2) → a2 (cl j k) = Mm 1 (cl j k)) := by
  have hl := hC.l8 i hi
  have hn8 := hC.n8
  obtain ⟨b, r, hb, hr, hL, e1, e2, ed, ew⟩ := hC.line i hi
  have xw := x_wb hv hl (show 16 * b + r < 128 by omega) e1
  rw [e2] at xw
  by_cases z : Mm 1 (cl i 2) = 0
  · rw [xw.1 z]
    exact ⟨0, Mx, Mm 1, rfl, by rw [upA_self]; exact m_clean0 (by omega) z, Or.inl rfl, hR, hC, FrC.refl v Mx, FrA.refl _, rfl, rfl, z, fun _ _ _ _ _ => rfl⟩
  · rw [xw.2 z, m_cleans (by omega) hb hr hL h2 hnc z]
    unfold wbM
    generalize hF : (fun k => if 8 * (16 * b + r) ≤ k ∧ k < 8 * (16 * b + r) + 8 then Mx (v + 11 + 4) (8 * l i + (k - 8 * (16 * b + r))) else Mx (v + 1) k) = F
    have c1 : (up (upA Mx (v + 1) F) (v + 11 + 2) (l i) 0) (v + 11) = Mx (v + 11) := by rw [up_a _ _ _ (by omega), upA_ne _ _ (by omega)]
    refine ⟨1, _, _, rfl, rfl, Or.inr rfl, ?_, ?_, ?_, ?_, ?_, ?_, ?_, ?_⟩
    · refine ⟨fun j hj hm => ?_, fun j hj hm => ?_⟩
      · rw [up_a _ _ _ (by omega), up_a _ _ _ (by omega), upA_eq, ca_w (by omega) hj, ← hF]
        show (if _ then _ else _) = _
        by_cases y : 8 * (16 * b + r) ≤ j ∧ j < 8 * (16 * b + r) + 8
        · rw [if_pos y, if_pos (by omega), ew _ (by omega)]
        · rw [if_neg y, if_neg (by omega)]; exact hR.1 j hj hm
      · rw [up_a _ _ _ (by omega), up_a _ _ _ (by omega), upA_ne _ _ (by omega), ca_hi (by omega) hb hr hnc (by omega)]
        exact hR.2 j hj hm
    · have r1 : ∀ f : Nat → Int32, ∀ x y : Int32, (up (up (upA Mx (v + 1) f) (v + 11 + 2) (l i) x) (v + 11) 6 y) (v + 11 + 1) = Mx (v + 11 + 1) := fun f x y => by rw [up_a _ _ _ (by omega), up_a _ _ _ (by omega), upA_ne _ _ (by omega)]
      have r3 : ∀ f : Nat → Int32, ∀ x y : Int32, (up (up (upA Mx (v + 1) f) (v + 11 + 2) (l i) x) (v + 11) 6 y) (v + 11 + 3) = Mx (v + 11 + 3) := fun f x y => by rw [up_a _ _ _ (by omega), up_a _ _ _ (by omega), upA_ne _ _ (by omega)]
      have r4 : ∀ f : Nat → Int32, ∀ x y : Int32, (up (up (upA Mx (v + 1) f) (v + 11 + 2) (l i) x) (v + 11) 6 y) (v + 11 + 4) = Mx (v + 11 + 4) := fun f x y => by rw [up_a _ _ _ (by omega), up_a _ _ _ (by omega), upA_ne _ _ (by omega)]
      refine ⟨?_, hC.n8, hC.l8, fun j hj => ?_, ?_, ?_, ?_, ?_, ?_, ?_, ?_, ?_⟩
      · rw [ca_hi (by omega) hb hr hnc (by omega)]; exact hC.cnt
      · obtain ⟨b2, r2, hb2, hr2, hL2, f1, f2, fd, fw⟩ := hC.line j hj
        have cc : ∀ k, k < 11 → k ≠ 2 → clA (Mm 1) i b r nc (cl j k) = Mm 1 (cl j k) := fun k hk hk2 => by rw [ca_cl hb hr hnc (by omega) hk, if_neg (by omega)]
        refine ⟨b2, r2, hb2, hr2, ⟨by rw [cc 0 (by omega) (by omega)]; exact hL2.1, by rw [cc 1 (by omega) (by omega)]; exact hL2.2⟩, by rw [r1]; exact f1, ?_, ?_, fun k hk => by rw [r4, cc _ (by omega) (by omega)]; exact fw k hk⟩
        · rw [ca_cl hb hr hnc (by omega) (by omega), up_a _ _ _ (by omega)]
          by_cases y : j = i
          · subst y; rw [if_pos ⟨rfl, rfl⟩, up_eq]
          · rw [if_neg (fun w => y w.1), up_i _ _ (fun w => y (hC.inj hj hi w)), upA_ne _ _ (by omega)]; exact f2
        · rw [ca_cl hb hr hnc (by omega) (by omega)]
          split
          · exact Or.inl rfl
          · exact fd
      · rw [r3]; exact hC.ord
      · rw [r3]; exact hC.top
      · rw [r1]; exact hC.cov
      · rw [r1]; exact hC.dist
      · rw [up_i _ _ (by decide), c1, ca_hi (by omega) hb hr hnc (by omega)]; exact hC.hit
      · rw [up_i _ _ (by decide), c1, ca_hi (by omega) hb hr hnc (by omega)]; exact hC.mis
      · rw [up_eq, ca_69, hC.wrb]
      · rw [ca_hi (by omega) hb hr hnc (by omega), ca_hi (by omega) hb hr hnc (by omega)]; exact hC.sum
    · exact (((FrC.refl v Mx).upA1).up (by omega)).up (by omega)
    · intro j hj
      exact ca_hi (by omega) hb hr hnc (by omega)
    · rw [up_a _ _ _ (by omega), up_a _ _ _ (by omega), upA_ne _ _ (by omega)]
    · rw [up_a _ _ _ (by omega), up_a _ _ _ (by omega), upA_ne _ _ (by omega)]
    · rw [ca_cl hb hr hnc (by omega) (by omega), if_pos ⟨rfl, rfl⟩]
    · intro j hj k hk hne
      rw [ca_cl hb hr hnc hj hk, if_neg (by omega)]
/-- the places behind a line that went -/
def lGo (l : Nat → Nat) (i : Nat) : Nat → Nat := fun j => l (if j < i then j else j + 1)
theorem c_remove {Mx Mm : Mem} {v nc n i : Nat} {l : Nat → Nat} {T : Nat} (hnc : nc ≤ 8) (hR : RV nc Mx v (Mm 1)) (hC : RC nc Mx (v + 11) (Mm 1) n l T) (hi : i < n) : f_X1_removeLine (v + 11) (nI (l i)) Mx = some (1, up Mx (v + 11 + 1) (l i) (-1)) ∧ f_X10_goes (nI i) Mm = some (0, upA Mm 1 (goA (Mm 1) i n)) ∧ RV nc (up Mx (v + 11 + 1) (l i) (-1)) v (goA (Mm 1) i n) ∧ RC nc (up Mx (v + 11 + 1) (l i) (-1)) (v + 11) (goA (Mm 1) i n) (n - 1) (lGo l i) T ∧ FrC v Mx (up Mx (v + 11 + 1) (l i) (-1)) ∧ FrA (Mm 1) (goA (Mm 1) i n) := by
  have hl := hC.l8 i hi
  have hn8 := hC.n8
  unfold f_X1_removeLine
  rw [if_pos (ne_m1 (by omega)), if_pos (of_eq_true (inb_T hl (by decide))), ix_nI (by omega), wrt_def, m_goes hC.cnt hC.n8 hi]
  have r1 : (up Mx (v + 11 + 1) (l i) (-1)) (v + 11 + 1) = upd (Mx (v + 11 + 1)) (l i) (-1) := up_row _ _ _ _
  have ro : ∀ c, c ≠ v + 11 + 1 → (up Mx (v + 11 + 1) (l i) (-1)) c = Mx c := fun c hc => up_a _ _ _ hc
  have hs : ∀ j, j < n - 1 → (if j < i then j else j + 1) < n ∧ (if j < i then j else j + 1) ≠ i := fun j hj => by split <;> omega
  have hm : ∀ j k, j < k → (if j < i then j else j + 1) < (if k < i then k else k + 1) := fun j k hj => by split <;> split <;> omega
  have hne : ∀ j, j < n - 1 → lGo l i j ≠ l i := fun j hj z => (hs j hj).2 (hC.inj (hs j hj).1 hi z)
  refine ⟨rfl, rfl, ?_, ?_, (FrC.refl v Mx).up (by omega), fun j hj => go_hi hn8 hi (by omega)⟩
  · exact rv_a hR (ro _ (by omega)) (ro _ (by omega)) (fun j h1 h2 => go_hi hn8 hi (by omega))
  · refine ⟨go_78, by omega, fun j hj => hC.l8 _ (hs j hj).1, fun j hj => ?_, fun j k hj hk => ?_, fun j hj => ?_, fun j hj hz => ?_, fun j k hj hk => ?_, ?_, ?_, ?_, ?_⟩
    · obtain ⟨b2, r2, hb2, hr2, hL2, f1, f2, fd, fw⟩ := hC.line _ (hs j hj).1
      have cc : ∀ k, k < 11 → goA (Mm 1) i n (cl j k) = Mm 1 (cl (if j < i then j else j + 1) k) := fun k hk => go_cl hn8 hi hj hk
      refine ⟨b2, r2, hb2, hr2, ⟨by rw [cc 0 (by omega)]; exact hL2.1, by rw [cc 1 (by omega)]; exact hL2.2⟩, by rw [r1, upd_ne _ _ (hne j hj)]; exact f1, by rw [ro _ (by omega), cc 2 (by omega)]; exact f2, by rw [cc 2 (by omega)]; exact fd, fun k hk => by rw [ro _ (by omega), cc _ (by omega)]; exact fw k hk⟩
    · rw [ro _ (by omega)]; exact hC.ord _ _ (hm j k hj) (hs k hk).1
    · rw [ro _ (by omega)]; exact hC.top _ (hs j hj).1
    · rw [r1] at hz
      by_cases y : j = l i
      · subst y; exact absurd (upd_eq _ _ _) hz
      · rw [upd_ne _ _ y] at hz
        obtain ⟨k, hk, e⟩ := hC.cov j hj hz
        have hki : k ≠ i := fun w => y (by rw [← e, w])
        by_cases w : k < i
        · exact ⟨k, by omega, by unfold lGo; rw [if_pos w]; exact e⟩
        · exact ⟨k - 1, by omega, by unfold lGo; rw [if_neg (by omega), show k - 1 + 1 = k by omega]; exact e⟩
    · rw [r1, upd_ne _ _ (hne j (by omega)), upd_ne _ _ (hne k hk)]
      exact hC.dist _ _ (hm j k hj) (hs k hk).1
    · rw [ro _ (by omega), go_hi hn8 hi (by omega)]; exact hC.hit
    · rw [ro _ (by omega), go_hi hn8 hi (by omega)]; exact hC.mis
    · rw [ro _ (by omega), go_hi hn8 hi (by omega)]; exact hC.wrb
    · rw [go_hi hn8 hi (by omega), go_hi hn8 hi (by omega)]; exact hC.sum
