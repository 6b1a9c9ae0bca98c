/-! ===== the whole parse ===== -/
theorem st_902 : ∀ s, s < 9 → ∃ y, loL.getD s 0 ≤ y ∧ y ≤ hiL.getD s 0 ∧ statA 902 s = nI y := by
  have e : ∀ s, s < 9 → loL.getD s 0 ≤ ([10, 4, 2, 5, 6, 4, 50, 4, 3] : List Nat).getD s 0 ∧ ([10, 4, 2, 5, 6, 4, 50, 4, 3] : List Nat).getD s 0 ≤ hiL.getD s 0 ∧ statA 902 s = nI (([10, 4, 2, 5, 6, 4, 50, 4, 3] : List Nat).getD s 0) := by decide +kernel
  exact fun s hs => ⟨_, e s hs⟩
theorem x_clear4 {pr : Nat} (hp : pr = 7 ∨ pr = 20) (M : Mem) : ∃ M2, f_X4_clear pr M = some (0, M2) ∧ (∀ d, ¬ (pr ≤ d ∧ d ≤ pr + 12) → M2 d = M d) ∧ (M2 pr 0 = 1 ∧ M2 pr 1 = 1 ∧ M2 pr 2 = 1 ∧ M2 pr 4 = 0 ∧ M2 pr 5 = 0) ∧ (∀ s, s < 9 → M2 (pr + 1) s = statA 902 s) ∧ ∀ j, j < 96 → M2 (pr + 11) j = 0 ∧ M2 (pr + 12) j = 0 := by
  have l11 : lenK KSx (pr + 11) = 96 := by rcases hp with z | z <;> rw [z] <;> rfl
  have l12 : lenK KSx (pr + 12) = 96 := by rcases hp with z | z <;> rw [z] <;> rfl
  unfold f_X4_clear
  rw [wrt_def, wrt_def, wrt_def, wrt_def, wrt_def, wrt_def, x_fill l11 (by omega), bnd_some, x_fill l12 (by omega), bnd_some]
  refine ⟨_, rfl, fun d hd => ?_, ⟨?_, ?_, ?_, ?_, ?_⟩, fun s hs => ?_, fun j hj => ⟨?_, ?_⟩⟩
  · rw [upA_ne _ _ (by omega), upA_ne _ _ (by omega), up_a _ _ _ (by omega), up_a _ _ _ (by omega), upA_ne _ _ (by omega), up_a _ _ _ (by omega), up_a _ _ _ (by omega), up_a _ _ _ (by omega)]
  · rw [upA_ne _ _ (by omega), upA_ne _ _ (by omega), up_i _ _ (by omega), up_i _ _ (by omega), upA_ne _ _ (by omega), up_i _ _ (by omega), up_i _ _ (by omega), up_eq]
  · rw [upA_ne _ _ (by omega), upA_ne _ _ (by omega), up_i _ _ (by omega), up_i _ _ (by omega), upA_ne _ _ (by omega), up_i _ _ (by omega), up_eq]
  · rw [upA_ne _ _ (by omega), upA_ne _ _ (by omega), up_i _ _ (by omega), up_i _ _ (by omega), upA_ne _ _ (by omega), up_eq]
  · rw [upA_ne _ _ (by omega), upA_ne _ _ (by omega), up_i _ _ (by omega), up_eq]
  · rw [upA_ne _ _ (by omega), upA_ne _ _ (by omega), up_eq]
  · rw [upA_ne _ _ (by omega), upA_ne _ _ (by omega), up_a _ _ _ (by omega), up_a _ _ _ (by omega), upA_eq]
    unfold va_cpy
    have e0 : ix 0 = 0 := rfl
    have e9 : ix 9 = 9 := rfl
    rw [e0, e9, if_pos (by omega)]
    rw [show 0 + (s - 0) = s by omega]
  · rw [upA_ne _ _ (by omega), upA_eq, if_pos hj]
  · rw [upA_eq, if_pos hj]
def plF (f : Nat → Int32) : Nat → Int32 := upd (upd (upd (upd (upd (upd (upd (upd (upd (upd (upd (upd f 0 1) 1 1) 2 1) 3 10) 4 4) 5 2) 6 5) 7 3) 8 6) 9 4) 10 50) 11 4
theorem m_plain (M : Mem) : f_X10_plain M = some (0, upA M 6 (plF (fun j => if j < 290 then 0 else M 6 j))) := by
  unfold f_X10_plain
  refine loop_run 290 (fun i => (nI i, upA M 6 (fun j => if j < i then 0 else M 6 j))) ?_ (by omega) (fun i hi K => ?_) (fun K => ?_)
  · have : (fun j => if j < 0 then 0 else M 6 j) = M 6 := by
      funext j
      rw [if_neg (by omega)]
    rw [this, upA_self]
    rfl
  · simp only [l_X10_plain_2]
    rw [if_neg (show ¬ (290 : Int32) ≤ nI i from nI_ge (b := 290) hi (by omega)), if_pos (of_eq_true (inb_T (by first | omega | (unfold wdP; omega) | (unfold lnP; omega) | (unfold cl; omega)) (by omega))), ix_nI (by omega), wrt_def, nI_1, up_upA]
    congr 3
    funext j
    by_cases y : j = i
    · rw [y, upd_eq, if_pos (by omega)]
    · rw [upd_ne _ _ y]
      by_cases q : j < i
      · rw [if_pos q, if_pos (by omega)]
      · rw [if_neg q, if_neg (by omega)]
  · simp only [l_X10_plain_2]
    rw [if_pos (show (290 : Int32) ≤ nI 290 by decide)]
    simp only [wrt_def, up_upA]
    rfl
section PA
variable {T : Nat → Int32} {L pr : Nat}
theorem p_parse (hp : pr = 7 ∨ pr = 20) {Mx Mm : Mem} (hT : ∀ i, i < 900 → Mx 1 i = T i) (hL : L ≤ 900) (hb : ∀ i, i < 900 → ∃ y, y < 256 ∧ T i = nI y) (hT7 : ∀ i, i < 900 → Mm 7 i = T i) (g9 : Mm 0 9 = nI L) (g10 : Mm 0 10 = 0) (g14 : Mm 0 14 = 0) (g15 : Mm 0 15 = -1) : ∃ X2 M2, f_X2_parse 1 (nI L) pr Mx = some (0, X2) ∧ bnd (f_X10_plain Mm) (fun _ M8 => bnd (f_X10_token M8) (fun _ M10 => bnd (f_X10_header M10) (fun _ M12 => bnd (f_X10_settings M12) (fun _ M14 => loopC l_X10_load_49 fuelL M14)))) = j_X10_load_84 M2 ∧ PS T L pr X2 M2 ∧ (∀ d, ¬ (2 ≤ d ∧ d ≤ 6) → ¬ (pr ≤ d ∧ d ≤ pr + 12) → X2 d = Mx d) ∧ FM Mm M2 ∧ (X2 2 5 = 0 → ∃ nb nc, PI pr nb nc X2 M2) := by
  have hp7 : 7 ≤ pr := by rcases hp with z | z <;> omega
  have fu : (9999 : Nat) ≤ fuelL := by decide
  obtain ⟨A1, a1, ta, fa⟩ := x_scan (T := T) (L := L) (M := Mx) hT hL
  obtain ⟨A2, a2, fb, ⟨c0, c1, c2, c4, c5⟩, cs, cz⟩ := x_clear4 hp (up A1 2 1 (nI pr))
  have pb : (¬ (up A1 2 1 (nI pr)) 2 1 < 0 ∧ blkD KSx (ix ((up A1 2 1 (nI pr)) 2 1)) blk4) ∧ ix ((up A1 2 1 (nI pr)) 2 1) = pr := by rw [up_eq]; exact pr_blk hp
  obtain ⟨st0, cn0⟩ := first_ok T L
  generalize hb0 : rn isBl T L 0 = b0 at *
  obtain ⟨k4, k5, -⟩ := ta b0 (by have := st0.1; omega) st0.2
  rw [cn0] at k4 k5
  -- the first token
  have q4 : A2 4 0 = nI (kd T L b0) := by rw [fb 4 (by omega), up_a _ _ _ (by decide)]; exact k4
  have q5 : A2 5 0 = nI b0 := by rw [fb 5 (by omega), up_a _ _ _ (by decide)]; exact k5
  have gt : f_X2_goTo 0 (up (up A2 2 5 0) 2 6 (-1)) = some (0, up (up (up (up (up A2 2 5 0) 2 6 (-1)) 2 2 0) 2 3 (nI (kd T L b0))) 2 4 (nI b0)) := by
    have in0 : inb (0 : Int32) 901 := of_eq_true (inb_T (k := 0) (n := 901) (by decide) (by decide))
    have i0 : ix 0 = 0 := rfl
    unfold f_X2_goTo
    rw [wrt_def, up_eq, if_pos in0, i0, wrt_def, up_a _ _ _ (show (4 : Nat) ≠ 2 by decide), up_a _ _ _ (show (4 : Nat) ≠ 2 by decide), up_a _ _ _ (show (4 : Nat) ≠ 2 by decide), q4, up_i _ _ (show (2 : Nat) ≠ 3 by decide), up_eq, if_pos in0, i0, wrt_def, up_a _ _ _ (show (5 : Nat) ≠ 2 by decide), up_a _ _ _ (show (5 : Nat) ≠ 2 by decide), up_a _ _ _ (show (5 : Nat) ≠ 2 by decide), up_a _ _ _ (show (5 : Nat) ≠ 2 by decide), q5]
  have px := m_plain Mm
  have txt : TXT T L (upA Mm 6 (plF (fun j => if j < 290 then 0 else Mm 6 j))) := ⟨by rw [upA_ne _ _ (by decide)]; exact g9, hL, fun i hi => by rw [upA_ne _ _ (by decide)]; exact hT7 i hi, hb⟩
  obtain ⟨B1, b1, tk, fb1, fb0⟩ := m_token (T := T) (L := L) (pos := 0) txt (by omega) (by rw [upA_ne _ _ (by decide)]; exact g10)
  rw [hb0] at tk
  generalize hA3 : up (up (up (up (up A2 2 5 0) 2 6 (-1)) 2 2 0) 2 3 (nI (kd T L b0))) 2 4 (nI b0) = A3 at *
  have fr3 : ∀ d, d ≠ 2 → A3 d = A2 d := fun d hd => by rw [← hA3, up_a _ _ _ hd, up_a _ _ _ hd, up_a _ _ _ hd, up_a _ _ _ hd, up_a _ _ _ hd]
  have r6 : B1 6 = plF (fun j => if j < 290 then 0 else Mm 6 j) := by rw [fb1 6 (by decide), upA_eq]
  have OK : OKb T L pr b0 A3 B1 := by
    refine ⟨⟨fun b hb1 hb2 => ?_, txt.of (fb0 9 (by omega)) (fb1 7 (by decide)), ?_⟩, ?_, ?_, ?_, ?_, st0, ?_, ?_, ?_, tk⟩
    · rw [fr3 4 (by decide), fr3 5 (by decide), fr3 6 (by decide), fb 4 (by omega), fb 5 (by omega), fb 6 (by omega), up_a _ _ _ (by decide), up_a _ _ _ (by decide), up_a _ _ _ (by decide)]
      exact ta b hb1 hb2
    · rw [← hA3, up_i _ _ (by decide), up_i _ _ (by decide), up_i _ _ (by decide), up_i _ _ (by decide), up_i _ _ (by decide), fb 2 (by omega), up_eq]
    · rw [← hA3, up_i _ _ (by decide), up_i _ _ (by decide), up_i _ _ (by decide), up_i _ _ (by decide), up_eq]
    · rw [fb0 14 (by omega), upA_ne _ _ (by decide)]; exact g14
    · rw [← hA3, up_i _ _ (by decide), up_i _ _ (by decide), up_i _ _ (by decide), up_eq]
    · rw [fb0 15 (by omega), upA_ne _ _ (by decide)]; exact g15
    · rw [← hA3, up_i _ _ (by decide), up_i _ _ (by decide), up_eq, cn0]; rfl
    · rw [← hA3, up_i _ _ (by decide), up_eq]
    · rw [← hA3, up_eq]
  obtain ⟨A4, B2, y0, y1, y2, h1, h2, P4, d0, d1, d2, hpr, fr4, fm4, fj4, E4⟩ := p_header (Or.inl ⟨_, OK⟩) hp
  have ss0 : SS pr A3 B1 := by
    intro s hs
    rw [fr3 _ (by omega), cs s hs]
    refine ⟨?_, st_902 s hs⟩
    rw [r6]
    have e : ∀ s, s < 9 → statA 902 s = plF (fun _ => 0) (sm s) := by decide +kernel
    have e2 : ∀ (f : Nat → Int32) s, s < 9 → plF f (sm s) = plF (fun _ => 0) (sm s) := by
      intro f s hs
      rcases (show s = 0 ∨ s = 1 ∨ s = 2 ∨ s = 3 ∨ s = 4 ∨ s = 5 ∨ s = 6 ∨ s = 7 ∨ s = 8 by omega) with z | z | z | z | z | z | z | z | z <;> rw [z] <;> rfl
    rw [e2 _ s hs]
    exact e s hs
  have ss4 : SS pr A4 B2 := by
    intro s hs
    have := sm_ok s hs
    rw [fr4 _ (by omega) (by omega), fj4 _ (by omega)]
    exact ss0 s hs
  obtain ⟨wt, ew, hw1, hw2⟩ : ∃ v, f_X10_setting B2 = some (v, B2) ∧ (A4 2 5 = 0 → ∃ b, OKb T L pr b A4 B2 ∧ v = nxS T L b) ∧ (¬ A4 2 5 = 0 → v = -1) := by
    rcases P4 with ⟨b1_, o1_⟩ | o1_
    · exact ⟨_, m_setting o1_, fun _ => ⟨b1_, o1_, rfl⟩, fun y => absurd o1_.2.1 y⟩
    · exact ⟨_, m_settingE o1_, fun y => absurd y o1_.2.1, fun _ => rfl⟩
  obtain ⟨A5, B3, s1, s2, P5, fr5, fm5, fj5, E5⟩ := p_settings hp 9 0 fuelL fuelL A4 B2 0 0 wt (fun _ => false) (by omega) (by omega) (by omega) P4 hw1 hw2 (fun s hs => ⟨bit_z s (by omega), bit_z _ (by have := sm_ok s hs; omega)⟩) (by decide) (fun _ => ss4)
  have plz : ∀ (f : Nat → Int32) j, 12 ≤ j → plF f j = f j := by
    intro f j hj
    unfold plF
    rw [upd_ne _ _ (by omega), upd_ne _ _ (by omega), upd_ne _ _ (by omega), upd_ne _ _ (by omega), upd_ne _ _ (by omega), upd_ne _ _ (by omega), upd_ne _ _ (by omega), upd_ne _ _ (by omega), upd_ne _ _ (by omega), upd_ne _ _ (by omega), upd_ne _ _ (by omega), upd_ne _ _ (by omega)]
  have z6 : ∀ j, 12 ≤ j → j < 290 → B3 6 j = 0 := fun j j1 j2 => by rw [fj5 j (by omega), fj4 j (by omega), r6, plz _ _ j1, if_pos j2]
  have a5pr : A5 pr = upd (upd (upd (A2 pr) 0 (nI y0)) 1 (nI y1)) 2 (nI y2) := by rw [fr5 pr (by omega) (by omega), hpr, fr3 pr (by omega)]
  have hPI : A5 2 5 = 0 → 0 ≤ 12 ∧ PI pr 0 0 A5 B3 := by
    intro z
    obtain ⟨z1, z2⟩ := E5 z
    obtain ⟨z3, z4, z5, z7⟩ := E4 z1
    refine ⟨by omega, ⟨⟨y0, y1, y2, d0, d1, d2, ⟨?_, ?_, ?_⟩, ?_, ?_, ?_⟩, z2⟩, ⟨by omega, by omega⟩, ⟨?_, z6 12 (by omega) (by omega)⟩, ⟨?_, z6 13 (by omega) (by omega)⟩, fun j j1 j2 => z6 j (by omega) j2, fun j j1 j2 => ?_, fun bt hbt => absurd hbt (by omega)⟩
    · rw [a5pr, upd_ne _ _ (by omega), upd_ne _ _ (by omega), upd_eq]
    · rw [a5pr, upd_ne _ _ (by omega), upd_eq]
    · rw [a5pr, upd_eq]
    · rw [fj5 _ (by omega)]; exact z4
    · rw [fj5 _ (by omega)]; exact z5
    · rw [fj5 _ (by omega)]; exact z7
    · rw [a5pr, upd_ne _ _ (by omega), upd_ne _ _ (by omega), upd_ne _ _ (by omega), c4]; rfl
    · rw [a5pr, upd_ne _ _ (by omega), upd_ne _ _ (by omega), upd_ne _ _ (by omega), c5]; rfl
    · rw [fr5 _ (by omega) (by omega), fr5 _ (by omega) (by omega), fr4 _ (by omega) (by omega), fr4 _ (by omega) (by omega), fr3 _ (by omega), fr3 _ (by omega)]
      exact cz j j2
  obtain ⟨X2, M2, l1, l2, P6, F6, G6, E6⟩ := p_main hp 13 0 fuelL fuelL 0 A5 B3 (by omega) (by omega) (by omega) P5 hPI
  refine ⟨X2, M2, ?_, ?_, P6, fun d d1 d2 => ?_, ?_, E6⟩
  · unfold f_X2_parse f_X2_parseSettings
    have s1' : loopC l_X2_parseSettings_4 fuelL (0, 0, A4) = some (0, A5) := s1
    have l1' : loopC l_X2_parse_47 fuelL (0, A5) = some (0, X2) := l1
    rw [a1, bnd_some, wrt_def, if_pos pb.1, pb.2, a2, bnd_some, wrt_def, wrt_def, gt, bnd_some, h1, bnd_some, s1', bnd_some, l1']
  · unfold f_X10_settings
    rw [px, bnd_some, b1, bnd_some, h2, bnd_some, ew, bnd_some, s2, bnd_some, l2]
  · rw [F6 d (by omega) d2, fr5 d (by omega) (by omega), fr4 d (by omega) (by omega), fr3 d (by omega), fb d d2, up_a _ _ _ (by omega), fa d (by omega) (by omega) (by omega) (by omega)]
  · refine (((show FM Mm B1 from ⟨fun c c1 c2 => ?_, fun j hj => ?_⟩).trans fm4).trans fm5).trans G6
    · rw [fb1 c c1, upA_ne _ _ c2]
    · rw [fb0 j (by omega), upA_ne _ _ (by decide)]
end PA
