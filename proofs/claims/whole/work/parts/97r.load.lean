/-! ===== load ===== -/
theorem x_clear1 {q : Nat} (M : Mem) : f_X1_clear q M = some (0, up (up (up (upA M (q + 1) (fun j => if j < 8 then -1 else M (q + 1) j)) q 4 0) q 5 0) q 6 0) := by
  unfold f_X1_clear
  refine loop_run 8 (fun i => (nI i, upA M (q + 1) (fun j => if j < i then -1 else M (q + 1) j))) ?_ (by omega) (fun i hi K => ?_) (fun K => ?_)
  · have : (fun j => if j < 0 then -1 else M (q + 1) j) = M (q + 1) := by
      funext j
      rw [if_neg (by omega)]
    rw [this, upA_self]
    rfl
  · simp only [l_X1_clear_2, f_X1_removeLine]
    rw [if_neg (show ¬ (8 : Int32) ≤ nI i from nI_ge (b := 8) hi (by omega)), if_pos (ne_m1 (by omega)), if_pos (of_eq_true (inb_T (by first | omega | (unfold wdP; omega) | (unfold lnP; omega) | (unfold cl; omega)) (by omega))), ix_nI (by omega), wrt_def, bnd_some, nI_1, up_upA]
    congr 3
    funext j
    by_cases y : j = i
    · rw [y, upd_eq, if_pos (by omega)]
    · rw [upd_ne _ _ y]
      by_cases q : j < i
      · rw [if_pos q, if_pos (by omega)]
      · rw [if_neg q, if_neg (by omega)]
  · simp only [l_X1_clear_2]
    rw [if_pos (show (8 : Int32) ≤ nI 8 by decide), wrt_def, wrt_def, wrt_def]
/-- the class's state is empty -/
def ZS (M : Mem) (st : Nat) : Prop := (∀ j, j < 1024 → M (st + 2) j = 0) ∧ (∀ j, j < 256 → M (st + 3) j = 0) ∧ (∀ j, j < 8 → M (st + 5) j = 0) ∧ (∀ j, j < 32 → M (st + 6) j = 0) ∧ (∀ j, j < 8 → M (st + 7) j = -1) ∧ (∀ j, j < 8 → M (st + 8) j = 0) ∧ (∀ j, j < 64 → M (st + 9) j = 0) ∧ (∀ j, j < 32 → M (st + 10) j = 0) ∧ (∀ j, j < 8 → M (st + 11) j = 0) ∧ (∀ j, j < 8 → M (st + 13) j = -1) ∧ (M (st + 12) 4 = 0 ∧ M (st + 12) 5 = 0 ∧ M (st + 12) 6 = 0) ∧ (M (st + 17) 1 = 0 ∧ M (st + 17) 3 = 0) ∧ M st 4 = 0
theorem x_fillE {t n : Nat} (hn : lenK KSx t = n) (h9 : n < 9999) (x : Int32) (M : Mem) : ∃ M2, f_J7_fill_53178 t x M = some (0, M2) ∧ (∀ d, d ≠ t → M2 d = M d) ∧ ∀ j, j < n → M2 t j = x := ⟨_, x_fill hn h9 x M, fun d hd => upA_ne _ _ hd, fun j hj => by rw [upA_eq, if_pos hj]⟩
theorem x_clear5 (M : Mem) : ∃ M2, f_X5_clear 33 M = some (0, M2) ∧ (∀ d, d < 33 ∨ 50 < d ∨ d = 47 → M2 d = M d) ∧ ZS M2 33 := by
  obtain ⟨A1, a1, f1, v1⟩ := x_fillE (t := 33 + 1 + 1) (n := 1024) rfl (by omega) 0 M
  obtain ⟨A2, a2, f2, v2⟩ := x_fillE (t := 33 + 1 + 2) (n := 256) rfl (by omega) 0 A1
  obtain ⟨A3, a3, f3, v3⟩ := x_fillE (t := 33 + 4 + 1) (n := 8) rfl (by omega) 0 A2
  obtain ⟨A4, a4, f4, v4⟩ := x_fillE (t := 33 + 4 + 2) (n := 32) rfl (by omega) 0 A3
  obtain ⟨A5, a5, f5, v5⟩ := x_fillE (t := 33 + 4 + 3) (n := 8) rfl (by omega) (-1) A4
  obtain ⟨A6, a6, f6, v6⟩ := x_fillE (t := 33 + 4 + 4) (n := 8) rfl (by omega) 0 A5
  obtain ⟨A7, a7, f7, v7⟩ := x_fillE (t := 33 + 4 + 5) (n := 64) rfl (by omega) 0 A6
  obtain ⟨A8, a8, f8, v8⟩ := x_fillE (t := 33 + 4 + 6) (n := 32) rfl (by omega) 0 A7
  obtain ⟨A9, a9, f9, v9⟩ := x_fillE (t := 33 + 4 + 7) (n := 8) rfl (by omega) 0 A8
  unfold f_X5_clear f_X8_clear f_X6_clear f_X0_clear
  rw [a1, bnd_some, a2, bnd_some, bnd_some, a3, bnd_some, a4, bnd_some, a5, bnd_some, a6, bnd_some, a7, bnd_some, a8, bnd_some, a9, bnd_some, bnd_some, x_clear1, bnd_some, wrt_def, wrt_def, bnd_some, wrt_def]
  have top : ∀ d, d ≠ 33 → d ≠ 33 + 17 → d ≠ 33 + 12 → d ≠ 33 + 12 + 1 → (up (up (up (up (up (up (upA A9 (33 + 12 + 1) (fun j => if j < 8 then -1 else A9 (33 + 12 + 1) j)) (33 + 12) 4 0) (33 + 12) 5 0) (33 + 12) 6 0) (33 + 17) 1 0) (33 + 17) 3 0) 33 4 0) d = A9 d := fun d d1 d2 d3 d4 => by rw [up_a _ _ _ d1, up_a _ _ _ d2, up_a _ _ _ d2, up_a _ _ _ d3, up_a _ _ _ d3, up_a _ _ _ d3, upA_ne _ _ d4]
  refine ⟨_, rfl, fun d hd => ?_, ⟨fun j hj => ?_, fun j hj => ?_, fun j hj => ?_, fun j hj => ?_, fun j hj => ?_, fun j hj => ?_, fun j hj => ?_, fun j hj => ?_, fun j hj => ?_, fun j hj => ?_, ⟨?_, ?_, ?_⟩, ⟨?_, ?_⟩, ?_⟩⟩
  · rw [top d (by omega) (by omega) (by omega) (by omega), f9 d (by omega), f8 d (by omega), f7 d (by omega), f6 d (by omega), f5 d (by omega), f4 d (by omega), f3 d (by omega), f2 d (by omega), f1 d (by omega)]
  · rw [top (33 + 2) (by decide) (by decide) (by decide) (by decide), f9 (33 + 2) (by decide), f8 (33 + 2) (by decide), f7 (33 + 2) (by decide), f6 (33 + 2) (by decide), f5 (33 + 2) (by decide), f4 (33 + 2) (by decide), f3 (33 + 2) (by decide), f2 (33 + 2) (by decide)]; exact v1 j hj
  · rw [top (33 + 3) (by decide) (by decide) (by decide) (by decide), f9 (33 + 3) (by decide), f8 (33 + 3) (by decide), f7 (33 + 3) (by decide), f6 (33 + 3) (by decide), f5 (33 + 3) (by decide), f4 (33 + 3) (by decide), f3 (33 + 3) (by decide)]; exact v2 j hj
  · rw [top (33 + 5) (by decide) (by decide) (by decide) (by decide), f9 (33 + 5) (by decide), f8 (33 + 5) (by decide), f7 (33 + 5) (by decide), f6 (33 + 5) (by decide), f5 (33 + 5) (by decide), f4 (33 + 5) (by decide)]; exact v3 j hj
  · rw [top (33 + 6) (by decide) (by decide) (by decide) (by decide), f9 (33 + 6) (by decide), f8 (33 + 6) (by decide), f7 (33 + 6) (by decide), f6 (33 + 6) (by decide), f5 (33 + 6) (by decide)]; exact v4 j hj
  · rw [top (33 + 7) (by decide) (by decide) (by decide) (by decide), f9 (33 + 7) (by decide), f8 (33 + 7) (by decide), f7 (33 + 7) (by decide), f6 (33 + 7) (by decide)]; exact v5 j hj
  · rw [top (33 + 8) (by decide) (by decide) (by decide) (by decide), f9 (33 + 8) (by decide), f8 (33 + 8) (by decide), f7 (33 + 8) (by decide)]; exact v6 j hj
  · rw [top (33 + 9) (by decide) (by decide) (by decide) (by decide), f9 (33 + 9) (by decide), f8 (33 + 9) (by decide)]; exact v7 j hj
  · rw [top (33 + 10) (by decide) (by decide) (by decide) (by decide), f9 (33 + 10) (by decide)]; exact v8 j hj
  · rw [top (33 + 11) (by decide) (by decide) (by decide) (by decide)]; exact v9 j hj
  · show (up (up (up (up (up (up (upA A9 (33 + 12 + 1) (fun j => if j < 8 then -1 else A9 (33 + 12 + 1) j)) (33 + 12) 4 0) (33 + 12) 5 0) (33 + 12) 6 0) (33 + 17) 1 0) (33 + 17) 3 0) 33 4 0) (33 + 12 + 1) j = -1
    rw [up_a _ _ _ (by decide), up_a _ _ _ (by decide), up_a _ _ _ (by decide), up_a _ _ _ (by decide), up_a _ _ _ (by decide), up_a _ _ _ (by decide), upA_eq, if_pos hj]
  · rw [up_a _ _ _ (by decide), up_a _ _ _ (by decide), up_a _ _ _ (by decide), up_i _ _ (by decide), up_i _ _ (by decide), up_eq]
  · rw [up_a _ _ _ (by decide), up_a _ _ _ (by decide), up_a _ _ _ (by decide), up_i _ _ (by decide), up_eq]
  · rw [up_a _ _ _ (by decide), up_a _ _ _ (by decide), up_a _ _ _ (by decide), up_eq]
  · rw [up_a _ _ _ (by decide), up_i _ _ (by decide), up_eq]
  · rw [up_a _ _ _ (by decide), up_eq]
  · rw [up_eq]
theorem is_zero {p : Nat → Int32} {nB m : Nat} {M : Mem} {a : Nat → Int32} (hz : ZS M 33) (ha : ∀ j, j < 1671 → a j = 0) (hd : dB 47 M) : IS p nB M 33 a m := by
  obtain ⟨z1, z2, z3, z4, z5, z6, z7, z8, z9, z10, ⟨z11, z12, z13⟩, ⟨z14, z15⟩, z16⟩ := hz
  have q0 : QA a = 0 := by unfold QA; rw [ha _ (by omega)]; rfl
  unfold IS
  rw [q0]
  refine ⟨0, fun _ => 0, 0, 0, 0, 0, ⟨⟨fun i hi _ => ?_, fun i hi _ => ?_⟩, ⟨by rw [ha _ (by omega)]; rfl, by omega, fun i hi => absurd hi (by omega), fun i hi => absurd hi (by omega), fun i j h1 h2 => absurd h2 (by omega), fun i hi => absurd hi (by omega), fun j hj h => absurd (z10 j hj) h, fun i j h1 h2 => absurd h2 (by omega), ?_, ?_, ?_, ?_⟩, ?_, ?_, Or.inl (ha _ (by omega)), fun b hb => ?_, ⟨?_, by rw [ha _ (by omega)]; rfl, fun i hi => absurd hi (by omega), ?_, by rw [ha _ (by omega)]; rfl, fun i hi => absurd hi (by omega)⟩, by omega⟩, fun b h1 h2 => ⟨ha _ (by omega), fun r hr => ha _ (by omega)⟩, hd, by omega, fun k hk => absurd hk (by omega), fun j hj => ⟨0, by omega, by rw [ha _ (by omega)]; rfl⟩, by omega, by omega, by omega, by omega⟩
  · rw [ha _ (by omega)]; exact z1 i hi
  · rw [ha _ (by omega)]; exact z2 i hi
  · rw [ha _ (by omega)]; exact z11
  · rw [ha _ (by omega)]; exact z12
  · rw [ha _ (by omega)]; exact z13
  · rw [ha _ (by omega), ha _ (by omega)]; rfl
  · funext c j
    unfold setT
    repeat' split
    all_goals first
      | rfl
      | (rename_i h; obtain ⟨rfl, hj⟩ := h; rw [ha _ (by omega)]; first | exact z3 j hj | exact z4 j hj | exact z6 j hj | exact z7 j hj | exact z8 j hj | exact z9 j hj | exact (z5 j hj).trans rfl)
  · rw [ha _ (by omega)]; exact z16
  · rw [ha _ (by omega)]
    exact ⟨rfl, Nat.le_refl _⟩
  · exact z14
  · exact z15
theorem m_takes (M : Mem) : f_X10_takes M = some (0, up (up (upA (upA M 5 (fun j => if j < 290 then M 6 j else M 5 j)) 1 (fun j => if j < 1671 then 0 else M 1 j)) 4 0 0) 4 1 0) := by
  unfold f_X10_takes
  refine loop_run 290 (fun i => (nI i, upA M 5 (fun j => if j < i then M 6 j else M 5 j))) ?_ (by omega) (fun i hi K => ?_) (fun K => ?_)
  · have : (fun j => if j < 0 then M 6 j else M 5 j) = M 5 := by
      funext j
      rw [if_neg (by omega)]
    rw [this, upA_self]
    rfl
  · simp only [l_X10_takes_2]
    rw [if_neg (show ¬ (290 : Int32) ≤ nI i from nI_ge (b := 290) hi (by omega)), if_pos (of_eq_true (inb_T (by first | omega | (unfold wdP; omega) | (unfold lnP; omega) | (unfold cl; omega)) (by omega))), if_pos (of_eq_true (inb_T (by first | omega | (unfold wdP; omega) | (unfold lnP; omega) | (unfold cl; omega)) (by omega))), ix_nI (by omega), wrt_def, nI_1, up_upA, upA_ne _ _ (by decide)]
    congr 3
    funext j
    by_cases y : j = i
    · rw [y, upd_eq, if_pos (by omega)]
    · rw [upd_ne _ _ y]
      by_cases q : j < i
      · rw [if_pos q, if_pos (by omega)]
      · rw [if_neg q, if_neg (by omega)]
  · simp only [l_X10_takes_2]
    rw [if_pos (show (290 : Int32) ≤ nI 290 by decide)]
    have e1 : (upA M 5 (fun j => if j < 290 then M 6 j else M 5 j)) 1 = M 1 := upA_ne _ _ (by decide)
    generalize upA M 5 (fun j => if j < 290 then M 6 j else M 5 j) = M5 at e1 ⊢
    rw [← e1]
    refine loop_run 1671 (fun i => (nI i, upA M5 1 (fun j => if j < i then 0 else M5 1 j))) ?_ (by omega) (fun i hi K => ?_) (fun K => ?_)
    · have : (fun j => if j < 0 then 0 else M5 1 j) = M5 1 := by
        funext j
        rw [if_neg (by omega)]
      rw [this, upA_self]
      rfl
    · simp only [l_X10_takes_29]
      rw [if_neg (show ¬ (1671 : Int32) ≤ nI i from nI_ge (b := 1671) hi (by omega)), if_pos (of_eq_true (inb_T (by first | omega | (unfold wdP; omega) | (unfold lnP; omega) | (unfold cl; omega)) (by omega))), ix_nI (by omega), wrt_def, nI_1, up_upA]
      congr 3
      funext j
      by_cases y : j = i
      · rw [y, upd_eq, if_pos (by omega)]
      · rw [upd_ne _ _ y]
        by_cases q : j < i
        · rw [if_pos q, if_pos (by omega)]
        · rw [if_neg q, if_neg (by omega)]
    · simp only [l_X10_takes_29]
      rw [if_pos (show (1671 : Int32) ≤ nI 1671 by decide), wrt_def, wrt_def]
section LD
variable {m : Nat} {Mx Mm : Mem}
theorem s_load (h : Inv m Mx Mm) : CallR m [eIA] (f_X9_load Mx) (f_X10_load Mm) := by
  obtain ⟨pr, nB, hP, hS, hL, hk, ⟨L, l9, tx1, tx2, tx3⟩, hE, hpl⟩ := id h
  obtain ⟨p1, p2, p3, p4, p5⟩ := id hP
  have hsp : 27 - pr = 7 ∨ 27 - pr = 20 := by omega
  have p7 : 7 ≤ pr := by omega
  -- the reference's first steps
  obtain ⟨B, hB, b0, b8, b9, b10, b14, b15, bj, bc⟩ : ∃ B, up (up (up (up (up (up Mm 0 0 0) 0 9 ((up Mm 0 0 0) 0 8)) 0 8 0) 0 10 0) 0 14 0) 0 15 (-1) = B ∧ B 0 0 = 0 ∧ B 0 8 = 0 ∧ B 0 9 = nI L ∧ B 0 10 = 0 ∧ B 0 14 = 0 ∧ B 0 15 = -1 ∧ (∀ j, 15 < j → B 0 j = Mm 0 j) ∧ ∀ c, c ≠ 0 → B c = Mm c := by
    refine ⟨_, rfl, ?_, ?_, ?_, ?_, ?_, ?_, fun j hj => ?_, fun c hc => ?_⟩
    · rw [up_i _ _ (by decide), up_i _ _ (by decide), up_i _ _ (by decide), up_i _ _ (by decide), up_i _ _ (by decide), up_eq]
    · rw [up_i _ _ (by decide), up_i _ _ (by decide), up_i _ _ (by decide), up_eq]
    · rw [up_i _ _ (by decide), up_i _ _ (by decide), up_i _ _ (by decide), up_i _ _ (by decide), up_eq, up_i _ _ (by decide)]; exact tx2
    · rw [up_i _ _ (by decide), up_i _ _ (by decide), up_eq]
    · rw [up_i _ _ (by decide), up_eq]
    · rw [up_eq]
    · rw [up_i _ _ (by omega), up_i _ _ (by omega), up_i _ _ (by omega), up_i _ _ (by omega), up_i _ _ (by omega), up_i _ _ (by omega)]
    · rw [up_a _ _ _ hc, up_a _ _ _ hc, up_a _ _ _ hc, up_a _ _ _ hc, up_a _ _ _ hc, up_a _ _ _ hc]
  have e06 : (up Mx 0 1 0) 0 6 = nI (27 - pr) := by rw [up_i _ _ (by decide)]; exact p3
  have bk6 : (¬ (up Mx 0 1 0) 0 6 < 0 ∧ blkD KSx (ix ((up Mx 0 1 0) 0 6)) blk4) ∧ ix ((up Mx 0 1 0) 0 6) = 27 - pr := by rw [e06]; exact pr_blk hsp
  obtain ⟨X4, M2, x4, m4, P, F, G, E⟩ := p_parse (T := Mx 1) (L := L) (pr := 27 - pr) hsp (Mx := up Mx 0 1 0) (Mm := B) (fun i hi => by rw [up_a _ _ _ (by decide)]) l9 (fun i hi => by rw [(tx3 i hi).1]; exact (tx3 i hi).2) (fun i hi => by rw [bc 7 (by decide)]; exact (tx3 i hi).1.symm) b9 b10 b14 b15
  have row : ∀ d, d ≠ 0 → ¬ (2 ≤ d ∧ d ≤ 6) → ¬ (27 - pr ≤ d ∧ d ≤ 27 - pr + 12) → X4 d = Mx d := fun d d0 d1 d2 => by rw [F d d1 d2, up_a _ _ _ d0]
  have r0 : X4 0 = upd (Mx 0) 1 0 := by rw [F 0 (by omega) (by omega), up_row]
  have g0 : M2 0 0 = 0 := by rw [G.2 0 (by omega)]; exact b0
  have g8 : M2 0 8 = 0 := by rw [G.2 8 (by omega)]; exact b8
  have gc : ∀ c, c ≠ 0 → c ≠ 6 → M2 c = Mm c := fun c c0 c6 => by rw [G.1 c c0 c6, bc c c0]
  have mm : f_X10_load Mm = j_X10_load_84 M2 := by
    unfold f_X10_load
    rw [wrt_def, wrt_def, wrt_def, wrt_def, wrt_def, wrt_def, hB, m4]
  -- the class after the parse
  have e5 : (up X4 0 2 (X4 2 5)) 2 6 = X4 2 6 := by rw [up_a _ _ _ (by decide)]
  obtain ⟨X6, hX6, x60, x6d⟩ : ∃ X6, up (up X4 0 2 (X4 2 5)) 0 3 (X4 2 6) = X6 ∧ X6 0 = upd (upd (upd (Mx 0) 1 0) 2 (X4 2 5)) 3 (X4 2 6) ∧ ∀ d, d ≠ 0 → X6 d = X4 d := ⟨_, rfl, by rw [up_row, up_row, r0], fun d hd => by rw [up_a _ _ _ hd, up_a _ _ _ hd]⟩
  have x602 : X6 0 2 = X4 2 5 := by rw [x60, upd_ne _ _ (by decide), upd_eq]
  have x603 : X6 0 3 = X4 2 6 := by rw [x60, upd_eq]
  have x60o : ∀ i, i ≠ 1 → i ≠ 2 → i ≠ 3 → X6 0 i = Mx 0 i := fun i i1 i2 i3 => by rw [x60, upd_ne _ _ i3, upd_ne _ _ i2, upd_ne _ _ i1]
  have x601 : X6 0 1 = 0 := by rw [x60, upd_ne _ _ (by decide), upd_ne _ _ (by decide), upd_eq]
  have rowX : ∀ d, d ≠ 0 → ¬ (2 ≤ d ∧ d ≤ 6) → ¬ (27 - pr ≤ d ∧ d ≤ 27 - pr + 12) → X6 d = Mx d := fun d d0 d1 d2 => by rw [x6d d d0, row d d0 d1 d2]
  have xx : f_X9_load Mx = (if (X6 0 2) = 0 then if ¬ X6 0 6 < 0 ∧ blkD KSx (ix (X6 0 6)) blk4 then if ¬ X6 0 5 < 0 ∧ blkD KSx (ix (X6 0 5)) blk4 then wrt (up X6 0 6 (nI (ix (X6 0 5)))) (fun M10 => wrt (up M10 0 5 (nI (ix (X6 0 6)))) (fun M11 => bnd (f_X5_clear 33 M11) (fun _ M13 => bnd (f_X3_forgetPlan M13) (fun _ M15 => wrt (up M15 0 10 0) (fun M16 => if ¬ M16 0 5 < 0 ∧ blkD KSx (ix (M16 0 5)) blk4 then some (rOk (M16 (ix (M16 0 5)) 4), M16) else none))))) else none else none else some (rEx "java/lang/IllegalArgumentException", X6)) := by
    unfold f_X9_load
    rw [wrt_def, if_pos bk6.1, bk6.2, tx1, x4, bnd_some, wrt_def, e5, wrt_def, hX6]
  rw [xx, mm]
  have txO : ∀ (Y N : Mem), Y 0 1 = 0 → Y 1 = Mx 1 → N 0 8 = 0 → N 7 = Mm 7 → TX Y N := fun Y N y1 y2 n1_ n2_ => ⟨0, by omega, y1, n1_, fun i hi => by rw [y2, n2_]; exact tx3 i hi⟩
  rcases id P with ⟨b, ob⟩ | oe
  · have ok5 := ob.2.1
    obtain ⟨nb, nc, hd, ⟨n12, n60⟩, ⟨i4, i12⟩, -, -, -, iB⟩ := E ok5
    have bk06 : (¬ X6 0 6 < 0 ∧ blkD KSx (ix (X6 0 6)) blk4) ∧ ix (X6 0 6) = 27 - pr := by rw [x60o 6 (by decide) (by decide) (by decide), p3]; exact pr_blk hsp
    have bk05 : (¬ X6 0 5 < 0 ∧ blkD KSx (ix (X6 0 5)) blk4) ∧ ix (X6 0 5) = pr := by rw [x60o 5 (by decide) (by decide) (by decide)]; exact p1
    obtain ⟨X8, c5, c6, cz⟩ := x_clear5 (up (up X6 0 6 (nI pr)) 0 5 (nI (27 - pr)))
    have t8 := m_takes M2
    obtain ⟨N, hN, N0, N5, N1, N40, N41, Nd⟩ : ∃ N, f_X10_takes M2 = some (0, N) ∧ N 0 = M2 0 ∧ N 5 = (fun j => if j < 290 then M2 6 j else M2 5 j) ∧ (∀ j, j < 1671 → N 1 j = 0) ∧ N 4 0 = 0 ∧ N 4 1 = 0 ∧ N 7 = M2 7 := by
      refine ⟨_, t8, ?_, ?_, fun j hj => ?_, ?_, ?_, ?_⟩
      · rw [up_a _ _ _ (by decide), up_a _ _ _ (by decide), upA_ne _ _ (by decide), upA_ne _ _ (by decide)]
      · rw [up_a _ _ _ (by decide), up_a _ _ _ (by decide), upA_ne _ _ (by decide), upA_eq]
      · rw [up_a _ _ _ (by decide), up_a _ _ _ (by decide), upA_eq, if_pos hj]
      · rw [up_i _ _ (by decide), up_eq]
      · rw [up_eq]
      · rw [up_a _ _ _ (by decide), up_a _ _ _ (by decide), upA_ne _ _ (by decide), upA_ne _ _ (by decide)]
    have n5 : ∀ j, j < 290 → N 5 j = M2 6 j := fun j hj => by rw [N5]; exact if_pos hj
    -- the class's last state
    obtain ⟨Y, hY, y0, y114, yd⟩ : ∃ Y, up (up X8 114 0 0) 0 10 0 = Y ∧ Y 0 = upd (X8 0) 10 0 ∧ Y 114 0 = 0 ∧ ∀ d, d ≠ 0 → d ≠ 114 → Y d = X8 d := ⟨_, rfl, by rw [up_row, up_a _ _ _ (by decide)], by rw [up_a _ _ _ (by decide), up_eq], fun d d0 d1 => by rw [up_a _ _ _ d0, up_a _ _ _ d1]⟩
    have z0 : X8 0 = upd (upd (X6 0) 6 (nI pr)) 5 (nI (27 - pr)) := by rw [c6 0 (by omega), up_row, up_row]
    have y05 : Y 0 5 = nI (27 - pr) := by rw [y0, upd_ne _ _ (by decide), z0, upd_eq]
    have y06 : Y 0 6 = nI pr := by rw [y0, upd_ne _ _ (by decide), z0, upd_ne _ _ (by decide), upd_eq]
    have y0o : ∀ i, i ≠ 5 → i ≠ 6 → i ≠ 10 → Y 0 i = X6 0 i := fun i i1 i2 i3 => by rw [y0, upd_ne _ _ i3, z0, upd_ne _ _ i1, upd_ne _ _ i2]
    have yr : ∀ d, d ≠ 0 → d < 33 → Y d = X6 d := fun d d0 d1 => by rw [yd d d0 (by omega), c6 d (by omega), up_a _ _ _ d0, up_a _ _ _ d0]
    have bky : (¬ Y 0 5 < 0 ∧ blkD KSx (ix (Y 0 5)) blk4) ∧ ix (Y 0 5) = 27 - pr := by rw [y05]; exact pr_blk hsp
    have yp : ∀ k, k ≤ 12 → Y (27 - pr + k) = X4 (27 - pr + k) := fun k hk12 => by rw [yr _ (by omega) (by omega), x6d _ (by omega)]
    have yp0 : Y (27 - pr) = X4 (27 - pr) := yp 0 (by omega)
    refine stp_ok (nI nb) Y N ?_ ?_ ?_ ?_
    · unfold f_X3_forgetPlan
      rw [if_pos (show X6 0 2 = 0 by rw [x602]; exact ok5), if_pos bk06.1, if_pos bk05.1, bk06.2, bk05.2, wrt_def, wrt_def, c5, bnd_some, wrt_def, bnd_some, wrt_def, hY, if_pos bky.1, bky.2, yp0, i4]
    · unfold j_X10_load_84
      rw [if_neg (show ¬ ¬ p_X10_isWrong M2 = 0 from fun y => y (wr0 ob.2.2.1)), may_T g0, bnd_some, if_pos ne10, hN, bnd_some, n5 12 (by omega), i12]
    · rw [N0]; exact g0
    · have hd2 : HD (27 - pr) Y (upA N 6 (N 5)) := hd.of (fun i hi => by rw [yp0]) (yp 1 (by omega)) (fun j hj => by rw [upA_eq]; exact n5 j (by omega))
      obtain ⟨q1, q2, q3, q4⟩ := hd2.rel
      rw [upA_eq] at q1 q2 q3 q4
      refine ⟨27 - pr, nb, ⟨bky, hsp, by rw [y06, show 27 - (27 - pr) = pr by omega], ⟨q2, q1, q3, n12, by rw [n5 12 (by omega)]; exact i12, by rw [yp0]; exact i4, fun bt hbt => ?_⟩, q4⟩, ?_, fun s hs => ?_, ⟨0, by omega, by rw [y0, upd_eq]; rfl⟩, ?_, ⟨?_, ?_⟩, Or.inl y114⟩
      · obtain ⟨k1, k2, k3, -⟩ := (iB bt hbt).keep (M2 := Y) (p2 := N 5) (nc2 := nc) hbt n12 n60 (Nat.le_refl _) (fun j _ _ hj => n5 j (by omega)) (fun k k1 k2 => by rw [yp k (by omega)]) (fun k c k1 k2 _ => by rw [yp k (by omega)]) (fun k j k1 k2 _ => by rw [yp k (by omega)])
        exact ⟨k1, k2, k3⟩
      · obtain ⟨n_, l_, T_, N_, U_, K_, -, -, hdB, -⟩ := hS
        refine is_zero ?_ N1 ?_
        · unfold ZS at *
          rw [yd (33 + 2) (by decide) (by decide), yd (33 + 3) (by decide) (by decide), yd (33 + 5) (by decide) (by decide), yd (33 + 6) (by decide) (by decide), yd (33 + 7) (by decide) (by decide), yd (33 + 8) (by decide) (by decide), yd (33 + 9) (by decide) (by decide), yd (33 + 10) (by decide) (by decide), yd (33 + 11) (by decide) (by decide), yd (33 + 12) (by decide) (by decide), yd (33 + 13) (by decide) (by decide), yd (33 + 17) (by decide) (by decide), yd 33 (by decide) (by decide)]
          exact cz
        · refine dB_of hdB ?_
          rw [yd (33 + 14) (by decide) (by decide), c6 (33 + 14) (by omega), up_a _ _ _ (by decide), up_a _ _ _ (by decide), rowX (33 + 14) (by decide) (by omega) (by omega)]
      · have z4 : N 4 s = 0 := by rcases (show s = 0 ∨ s = 1 by omega) with q | q <;> rw [q] <;> assumption
        have e10 : Y 0 10 = 0 := by rw [y0, upd_eq]
        refine ⟨Or.inl z4, ?_, fun y => absurd (z4.symm.trans y) (by decide)⟩
        rw [e10, z4, bit_z s (by omega)]
        decide
      · exact txO _ _ (by rw [y0o 1 (by decide) (by decide) (by decide)]; exact x601) (by rw [yr 1 (by decide) (by omega)]; exact rowX 1 (by decide) (by omega) (by omega)) (by rw [N0]; exact g8) (by rw [Nd]; exact gc 7 (by decide) (by decide))
      · rw [y0o 2 (by decide) (by decide) (by decide), x602, N0, ok5, ob.2.2.1]
      · rw [y0o 3 (by decide) (by decide) (by decide), x603, N0, ob.2.2.2.1, ob.2.2.2.2.1]
  · have i5 : ¬ X6 0 2 = 0 := by rw [x602]; exact oe.2.1
    rw [if_neg i5]
    unfold j_X10_load_84
    rw [if_pos oe.w, may_F1 g0, bnd_some, if_neg nn00]
    refine stp_ex 0 eIA rfl rfl rfl ?_
    refine ⟨pr, nB, ⟨?_, p2, ?_, ?_, ?_⟩, ?_, fun s hs => ?_, ?_, txO _ _ x601 (rowX 1 (by decide) (by omega) (by omega)) g8 (gc 7 (by decide) (by decide)), ⟨by rw [x602]; exact oe.2.2.1, by rw [x603]; exact oe.2.2.2.1⟩, ?_⟩
    · unfold PP
      rw [x60o 5 (by decide) (by decide) (by decide)]; exact p1
    · rw [x60o 6 (by decide) (by decide) (by decide)]; exact p3
    · rw [gc 5 (by decide) (by decide)]
      exact p4.of (fun k hk12 => rowX _ (by omega) (by omega) (by omega))
    · rw [gc 5 (by decide) (by decide)]; exact p5
    · rw [gc 5 (by decide) (by decide), gc 1 (by decide) (by decide)]
      exact hS.of hP.c8 (Nat.le_refl _) (fun c c1 c2 => rowX c (by omega) (by omega) (by omega)) (fun _ _ => rfl)
    · rw [gc 5 (by decide) (by decide)]
      exact (hL s hs).of hP.c8 hs (Nat.le_refl _) (x60o 10 (by decide) (by decide) (by decide)) (fun c c1 c2 => rowX c (by omega) (by omega) (by omega)) (gc 4 (by decide) (by decide)) (gc 2 (by decide) (by decide))
    · rw [x60o 10 (by decide) (by decide) (by decide)]; exact hk
    · rw [gc 5 (by decide) (by decide), gc 1 (by decide) (by decide)]
      exact hpl.of (rowX _ (by omega) (by omega) (by omega)) (rowX _ (by omega) (by omega) (by omega)) (fun _ _ => rfl) (fun _ _ _ => rfl)
end LD
