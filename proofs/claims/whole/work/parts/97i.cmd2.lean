/-! ===== a command's operands, kind by kind ===== -/
section CO
variable {T : Nat → Int32} {L pr : Nat} {Mx Mm : Mem}
/-- what the operands may change -/
def FO (pr c : Nat) (Mx Mx2 : Mem) : Prop := (∀ d, d ≠ 2 → ¬ (pr + 6 ≤ d ∧ d ≤ pr + 9) → Mx2 d = Mx d) ∧ (∀ d i, pr + 6 ≤ d → d ≤ pr + 9 → i ≠ c → Mx2 d i = Mx d i)
def FQ (c : Nat) (Mm Mm2 : Mem) : Prop := FM Mm Mm2 ∧ (∀ j, ¬ (50 + 4 * c ≤ j ∧ j < 54 + 4 * c) → Mm2 6 j = Mm 6 j)
theorem FO.step {c d : Nat} {A B C : Mem} {x : Int32} (h : FO pr c A B) (g : FrP B C) (hp : 7 ≤ pr) (hd : pr + 6 ≤ d ∧ d ≤ pr + 9) : FO pr c A (up C d c x) := by
  constructor
  · intro e e1 e2
    rw [up_a _ _ _ (by omega), g e e1, h.1 e e1 e2]
  · intro e i e1 e2 hi
    by_cases z : e = d
    · rw [z, up_i _ _ hi, g d (by omega), h.2 d i hd.1 hd.2 hi]
    · rw [up_a _ _ _ z, g e (by omega), h.2 e i e1 e2 hi]
theorem FO.fr {c : Nat} {A B C : Mem} (h : FO pr c A B) (g : FrP B C) (hp : 7 ≤ pr) : FO pr c A C := ⟨fun e e1 e2 => by rw [g e e1, h.1 e e1 e2], fun e i e1 e2 hi => by rw [g e (by omega), h.2 e i e1 e2 hi]⟩
theorem FO.refl (c : Nat) (A : Mem) : FO pr c A A := ⟨fun _ _ _ => rfl, fun _ _ _ _ _ => rfl⟩
theorem FQ.step {c k : Nat} {A B C : Mem} {x : Int32} (h : FQ c A B) (g : FrQ B C) (hk : 50 + 4 * c ≤ k ∧ k < 54 + 4 * c) : FQ c A (up C 6 k x) := ⟨(h.1.trans g.m).up6, fun j hj => by rw [up_i _ _ (by omega), g.1 6 (by decide)]; exact h.2 j hj⟩
theorem FQ.fr {c : Nat} {A B C : Mem} (h : FQ c A B) (g : FrQ B C) : FQ c A C := ⟨h.1.trans g.m, fun j hj => by rw [g.1 6 (by decide)]; exact h.2 j hj⟩
theorem FQ.refl (c : Nat) (A : Mem) : FQ c A A := ⟨FM.refl _, fun _ _ => rfl⟩
/-- the operands behind a command's first word: class, reference, and what they leave -/
def OPR (T : Nat → Int32) (L pr c vb kk : Nat) (X M X2 M2 : Mem) : Prop := PS T L pr X2 M2 ∧ FO pr c X X2 ∧ FQ c M M2 ∧ (X2 2 5 = 0 → X 2 5 = 0 ∧ X2 (pr + 5) c = nI vb)
theorem p_o7 {c : Nat} (hc : c < 60) (h : PS T L pr Mx Mm) (hp : pr = 7 ∨ pr = 20) (hv : Mx (pr + 5) c = nI 14) (a : Int32) : f_X2_parseOperands (nI c) Mx = some (0, Mx) ∧ j_X10_command_127 7 a Mm = j_X10_command_247 Mm := by
  have bk := h.blk hp
  constructor
  · unfold f_X2_parseOperands
    rw [if_pos bk.1, bk.2, if_pos (of_eq_true (inb_T (by first | omega | (unfold wdP; omega) | (unfold lnP; omega) | (unfold cl; omega)) (by omega))), ix_nI (by omega), hv, if_neg (fun z => z rfl)]
  · unfold j_X10_command_127 j_X10_command_145 j_X10_command_175 j_X10_command_218
    rw [if_pos rfl, if_neg (by decide), if_pos (by decide), if_pos (by decide), if_pos (by decide)]
/-- a target register, and nothing more (broadcast) -/
theorem p_o6 {c : Nat} (hc : c < 60) (h : PS T L pr Mx Mm) (hp : pr = 7 ∨ pr = 20) {v kk : Int32} (hv : v = 13 ∨ v = 8 ∨ v = 12) (hk : kk = 6 ∨ kk = 4 ∨ kk = 5) : ∃ X2 M2 y w, j_X2_parseOperands_42 (nI c) v Mx = some (0, X2) ∧ j_X10_command_127 kk (nI (50 + 4 * c)) Mm = j_X10_command_247 M2 ∧ PS T L pr X2 M2 ∧ FO pr c Mx X2 ∧ FQ c Mm M2 ∧ y < 4 ∧ X2 (pr + 7) c = nI y ∧ M2 6 (50 + 4 * c + 1) = w ∧ (∀ d, d ≠ 2 → d ≠ pr + 7 → X2 d = Mx d) ∧ (∀ j, j ≠ 50 + 4 * c + 1 → M2 6 j = Mm 6 j) ∧ (X2 2 5 = 0 → Mx 2 5 = 0 ∧ w = nI y) := by
  have hp7 : 7 ≤ pr := by rcases hp with z | z <;> omega
  have bk := h.blk hp
  obtain ⟨y, X2, w, M2, a, b, P, y4, F, G, E⟩ := p_reg (c := c) (d := pr + 7) (k := 50 + 4 * c + 1) h hp (by omega)
  refine ⟨up X2 (pr + 7) c (nI y), up M2 6 (50 + 4 * c + 1) w, y, w, ?_, ?_, P, (FO.refl c Mx).step F hp7 (by omega), (FQ.refl c Mm).step G (by omega), y4, up_eq _ _ _ _, up_eq _ _ _ _, fun d d1 d2 => by rw [up_a _ _ _ d2, F d d1], fun j hj => by rw [up_i _ _ hj, G.1 6 (by decide)], E⟩
  · unfold j_X2_parseOperands_42 j_X2_parseOperands_153
    have i0 : ix (nI c) = c := ix_nI (by omega)
    have v9 : ¬ v = 9 := by rcases hv with z | z | z <;> rw [z] <;> decide
    have v10 : ¬ v = 10 := by rcases hv with z | z | z <;> rw [z] <;> decide
    have v11 : ¬ v = 11 := by rcases hv with z | z | z <;> rw [z] <;> decide
    have v34 : ¬ v = 34 := by rcases hv with z | z | z <;> rw [z] <;> decide
    rw [if_pos bk.1, bk.2, a, bnd_some, if_pos (of_eq_true (inb_T (by first | omega | (unfold wdP; omega) | (unfold lnP; omega) | (unfold cl; omega)) (by omega))), wrt_def, if_neg v9, if_pos v10, if_pos v11, if_pos v34, i0]
  · unfold j_X10_command_127
    rw [show nI (50 + 4 * c) + 1 = nI (50 + 4 * c + 1) from nI_add _ 1, if_neg (by rcases hk with z | z | z <;> rw [z] <;> decide), b, bnd_some, if_pos (of_eq_true (inb_T (by first | omega | (unfold wdP; omega) | (unfold lnP; omega) | (unfold cl; omega)) (by omega))), ix_nI (by omega), wrt_def]
    unfold j_X10_command_145 j_X10_command_175 j_X10_command_218
    rcases hk with z | z | z <;> rw [z, if_neg (by decide), if_pos (by decide), if_pos (by decide), if_pos (by decide)]
/-- load and store -/
theorem p_o0 {c y1 : Nat} (hc : c < 60) (h : PS T L pr Mx Mm) (hp : pr = 7 ∨ pr = 20) {v kk : Int32} (hvk : (v = 9 ∧ kk = 0) ∨ (v = 10 ∧ kk = 1)) (hy : 1 ≤ y1 ∧ y1 ≤ 16) (hx1 : Mx pr 1 = nI y1) (hm1 : Mx 2 5 = 0 → Mm 6 1 = nI y1) : ∃ X2 M2 y r, j_X2_parseOperands_42 (nI c) v Mx = some (0, X2) ∧ j_X10_command_127 kk (nI (50 + 4 * c)) Mm = j_X10_command_247 M2 ∧ PS T L pr X2 M2 ∧ FO pr c Mx X2 ∧ FQ c Mm M2 ∧ y < 4 ∧ r < y1 ∧ X2 (pr + 7) c = nI y ∧ X2 (pr + 8) c = nI r ∧ (∀ d, d ≠ 2 → d ≠ pr + 7 → d ≠ pr + 8 → X2 d = Mx d) ∧ (∀ j, j ≠ 50 + 4 * c + 1 → j ≠ 50 + 4 * c + 2 → M2 6 j = Mm 6 j) ∧ (X2 2 5 = 0 → Mx 2 5 = 0 ∧ M2 6 (50 + 4 * c + 1) = nI y ∧ M2 6 (50 + 4 * c + 2) = nI r) := by
  have hp7 : 7 ≤ pr := by rcases hp with z | z <;> omega
  have bk := h.blk hp
  obtain ⟨y, X2, w, M2, a, b, P, y4, F, G, E⟩ := p_reg (c := c) (d := pr + 7) (k := 50 + 4 * c + 1) h hp (by omega)
  have bk2 := P.blk hp
  have e1 : (up X2 (pr + 7) c (nI y)) pr 1 = nI y1 := by rw [up_a _ _ _ (by omega), F pr (by omega)]; exact hx1
  have eh : (up X2 (pr + 7) c (nI y)) pr 1 - 1 = nI (y1 - 1) := by rw [e1]; exact ss (a := y1) (b := 1) (by omega)
  obtain ⟨r, X3, w3, M3, a3, b3, P3, F3, G3, l3, u3, E3⟩ := p_num (l := 0) (hi := y1 - 1) (H := (up M2 6 (50 + 4 * c + 1) w) 6 1 - 1) P (by omega) (by omega) (fun z => by
    rw [up_i _ _ (by omega), G.1 6 (by decide), hm1 (E z).1]; exact ss (a := y1) (b := 1) (by omega))
  have P3' := P3.up hp7 (c := pr + 8) (i := c) (k := 50 + 4 * c + 2) (x := nI r) (y := w3) (by omega)
  have FO1 := (FO.refl (pr := pr) c Mx).step (x := nI y) F hp7 (d := pr + 7) (by omega)
  have FQ1 := (FQ.refl c Mm).step (x := w) G (k := 50 + 4 * c + 1) (by omega)
  refine ⟨up X3 (pr + 8) c (nI r), up M3 6 (50 + 4 * c + 2) w3, y, r, ?_, ?_, P3', FO1.step F3 hp7 (by omega), FQ1.step G3 (by omega), y4, by omega, ?_, up_eq _ _ _ _, fun d d1 d2 d3 => by rw [up_a _ _ _ d3, F3 d d1, up_a _ _ _ d2, F d d1], fun j j1 j2 => by rw [up_i _ _ j2, G3.1 6 (by decide), up_i _ _ j1, G.1 6 (by decide)], fun z => ?_⟩
  · have j69 : j_X2_parseOperands_69 (nI c) (up X2 (pr + 7) c (nI y)) = some (0, up X3 (pr + 8) c (nI r)) := by
      unfold j_X2_parseOperands_69 j_X2_parseOperands_153
      have a3' : f_X2_takeNumber 0 (nI (y1 - 1)) (up X2 (pr + 7) c (nI y)) = some (nI r, X3) := a3
      rw [if_pos bk2.1, if_pos bk2.1, bk2.2, eh, a3', bnd_some, if_pos (of_eq_true (inb_T (by first | omega | (unfold wdP; omega) | (unfold lnP; omega) | (unfold cl; omega)) (by omega))), ix_nI (by omega), wrt_def]
    have i0 : ix (nI c) = c := ix_nI (by omega)
    unfold j_X2_parseOperands_42
    rw [if_pos bk.1, bk.2, a, bnd_some, if_pos (of_eq_true (inb_T (by first | omega | (unfold wdP; omega) | (unfold lnP; omega) | (unfold cl; omega)) (by omega))), wrt_def]
    rcases hvk with ⟨z, -⟩ | ⟨z, -⟩
    · rw [if_pos z, i0, j69]
    · rw [if_neg (show ¬ v = 9 by rw [z]; decide), if_neg (fun y => y z), i0, j69]
  · have j154 : ∀ kk : Int32, ¬ kk = 2 → ¬ kk = 3 → j_X10_command_154 kk (nI (50 + 4 * c)) (up M2 6 (50 + 4 * c + 1) w) = j_X10_command_247 (up M3 6 (50 + 4 * c + 2) w3) := by
      intro kk k2 k3
      unfold j_X10_command_154 j_X10_command_175 j_X10_command_218
      have b3' : f_X10_figure 0 ((up M2 6 (50 + 4 * c + 1) w) 6 1 - 1) (up M2 6 (50 + 4 * c + 1) w) = some (w3, M3) := b3
      rw [b3', bnd_some, show nI (50 + 4 * c) + 2 = nI (50 + 4 * c + 2) from nI_add _ 2, if_pos (of_eq_true (inb_T (by first | omega | (unfold wdP; omega) | (unfold lnP; omega) | (unfold cl; omega)) (by omega))), wrt_def, if_pos k2, if_pos k3, ix_nI (by omega)]
    unfold j_X10_command_127
    rw [show nI (50 + 4 * c) + 1 = nI (50 + 4 * c + 1) from nI_add _ 1, if_neg (by rcases hvk with ⟨-, z⟩ | ⟨-, z⟩ <;> rw [z] <;> decide), b, bnd_some, if_pos (of_eq_true (inb_T (by first | omega | (unfold wdP; omega) | (unfold lnP; omega) | (unfold cl; omega)) (by omega))), ix_nI (by omega), wrt_def]
    unfold j_X10_command_145
    rcases hvk with ⟨-, z⟩ | ⟨-, z⟩
    · rw [z, if_pos rfl, j154 _ (by decide) (by decide)]
    · rw [z, if_neg (by decide), if_neg (fun y => y rfl), j154 _ (by decide) (by decide)]
  · rw [up_a _ _ _ (by omega), F3 _ (by omega), up_eq]
  · rw [up_a _ _ _ (by omega)] at z
    obtain ⟨z1, z2⟩ := E3 z
    obtain ⟨z3, z4⟩ := E z1
    refine ⟨z3, ?_, ?_⟩
    · rw [up_i _ _ (by omega), G3.1 6 (by decide), up_eq]; exact z4
    · rw [up_eq]; exact z2
/-- three registers -/
theorem p_o3 {c : Nat} (hc : c < 60) (h : PS T L pr Mx Mm) (hp : pr = 7 ∨ pr = 20) : ∃ X2 M2 y r q, j_X2_parseOperands_42 (nI c) 34 Mx = some (0, X2) ∧ j_X10_command_127 3 (nI (50 + 4 * c)) Mm = j_X10_command_247 M2 ∧ PS T L pr X2 M2 ∧ FO pr c Mx X2 ∧ FQ c Mm M2 ∧ y < 4 ∧ r < 4 ∧ q < 4 ∧ X2 (pr + 7) c = nI y ∧ X2 (pr + 8) c = nI r ∧ X2 (pr + 9) c = nI q ∧ (∀ d, d ≠ 2 → d ≠ pr + 7 → d ≠ pr + 8 → d ≠ pr + 9 → X2 d = Mx d) ∧ (∀ j, j ≠ 50 + 4 * c + 1 → j ≠ 50 + 4 * c + 2 → j ≠ 50 + 4 * c + 3 → M2 6 j = Mm 6 j) ∧ (X2 2 5 = 0 → Mx 2 5 = 0 ∧ M2 6 (50 + 4 * c + 1) = nI y ∧ M2 6 (50 + 4 * c + 2) = nI r ∧ M2 6 (50 + 4 * c + 3) = nI q) := by
  have hp7 : 7 ≤ pr := by rcases hp with z | z <;> omega
  have bk := h.blk hp
  obtain ⟨y, X1, w1, M1, a1, b1, P1, y4, F1, G1, E1⟩ := p_reg (c := c) (d := pr + 7) (k := 50 + 4 * c + 1) h hp (by omega)
  have bk1 := P1.blk hp
  obtain ⟨r, X2, w2, M2, a2, b2, P2, r4, F2, G2, E2⟩ := p_reg (c := c) (d := pr + 8) (k := 50 + 4 * c + 2) P1 hp (by omega)
  have bk2 := P2.blk hp
  obtain ⟨q, X3, w3, M3, a3, b3, P3, q4, F3, G3, E3⟩ := p_reg (c := c) (d := pr + 9) (k := 50 + 4 * c + 3) P2 hp (by omega)
  have FO1 := (FO.refl (pr := pr) c Mx).step (x := nI y) F1 hp7 (d := pr + 7) (by omega)
  have FO2 := FO1.step (x := nI r) F2 hp7 (d := pr + 8) (by omega)
  have FQ1 := (FQ.refl c Mm).step (x := w1) G1 (k := 50 + 4 * c + 1) (by omega)
  have FQ2 := FQ1.step (x := w2) G2 (k := 50 + 4 * c + 2) (by omega)
  refine ⟨up X3 (pr + 9) c (nI q), up M3 6 (50 + 4 * c + 3) w3, y, r, q, ?_, ?_, P3, FO2.step F3 hp7 (by omega), FQ2.step G3 (by omega), y4, r4, q4, ?_, ?_, up_eq _ _ _ _, fun d d1 d2 d3 d4 => by rw [up_a _ _ _ d4, F3 d d1, up_a _ _ _ d3, F2 d d1, up_a _ _ _ d2, F1 d d1], fun j j1 j2 j3 => by rw [up_i _ _ j3, G3.1 6 (by decide), up_i _ _ j2, G2.1 6 (by decide), up_i _ _ j1, G1.1 6 (by decide)], fun z => ?_⟩
  · have i0 : ix (nI c) = c := ix_nI (by omega)
    have inn : inb (nI c) 60 := of_eq_true (inb_T hc (by omega))
    have key : ∀ j, j = c → (if ¬ (up X1 (pr + 7) j (nI y)) 2 1 < 0 ∧ blkD KSx (ix ((up X1 (pr + 7) j (nI y)) 2 1)) blk4 then bnd (f_X2_takeNumber 0 3 (up X1 (pr + 7) j (nI y))) (fun v26 M27 => if inb (nI c) 60 then wrt (up M27 (ix ((up X1 (pr + 7) j (nI y)) 2 1) + 8) j v26) (fun M29 => if ¬ M29 2 1 < 0 ∧ blkD KSx (ix (M29 2 1)) blk4 then bnd (f_X2_takeNumber 0 3 M29) (fun v31 M32 => if inb (nI c) 60 then wrt (up M32 (ix (M29 2 1) + 9) j v31) (fun M34 => some ((0 : Int32), M34)) else none) else none) else none) else none) = some (0, up X3 (pr + 9) c (nI q)) := by
      intro j hj
      subst hj
      rw [if_pos bk1.1, bk1.2, a2, bnd_some, if_pos inn, wrt_def, if_pos bk2.1, bk2.2, a3, bnd_some, if_pos inn, wrt_def]
    unfold j_X2_parseOperands_42 j_X2_parseOperands_153
    rw [if_pos bk.1, bk.2, a1, bnd_some, if_pos inn, wrt_def, if_neg (by decide), if_pos (by decide), if_pos (by decide), if_neg (by decide)]
    exact key _ i0
  · unfold j_X10_command_127
    rw [show nI (50 + 4 * c) + 1 = nI (50 + 4 * c + 1) from nI_add _ 1, if_neg (by decide), b1, bnd_some, if_pos (of_eq_true (inb_T (by first | omega | (unfold wdP; omega) | (unfold lnP; omega) | (unfold cl; omega)) (by omega))), ix_nI (by omega), wrt_def]
    unfold j_X10_command_145
    rw [if_neg (by decide), if_pos (by decide)]
    unfold j_X10_command_175
    rw [if_pos (by decide)]
    unfold j_X10_command_218
    rw [show nI (50 + 4 * c) + 2 = nI (50 + 4 * c + 2) from nI_add _ 2, show nI (50 + 4 * c) + 3 = nI (50 + 4 * c + 3) from nI_add _ 3, if_neg (fun y => y rfl), b2, bnd_some, if_pos (of_eq_true (inb_T (by first | omega | (unfold wdP; omega) | (unfold lnP; omega) | (unfold cl; omega)) (by omega))), wrt_def, ix_nI (k := 50 + 4 * c + 2) (by omega), b3, bnd_some, if_pos (of_eq_true (inb_T (by first | omega | (unfold wdP; omega) | (unfold lnP; omega) | (unfold cl; omega)) (by omega))), ix_nI (by omega), wrt_def]
  · rw [up_a _ _ _ (by omega), F3 _ (by omega), up_a _ _ _ (by omega), F2 _ (by omega), up_eq]
  · rw [up_a _ _ _ (by omega), F3 _ (by omega), up_eq]
  · obtain ⟨z1, z2⟩ := E3 z
    obtain ⟨z3, z4⟩ := E2 z1
    obtain ⟨z5, z6⟩ := E1 z3
    refine ⟨z5, ?_, ?_, ?_⟩
    · rw [up_i _ _ (by omega), G3.1 6 (by decide), up_i _ _ (by omega), G2.1 6 (by decide), up_eq]; exact z6
    · rw [up_i _ _ (by omega), G3.1 6 (by decide), up_eq]; exact z4
    · rw [up_eq]; exact z2
end CO
