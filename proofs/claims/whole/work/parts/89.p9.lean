/-! ===== another budget ===== -/
theorem p9_kd (p : Nat → Int32) (x : Int32) (c : Nat) : kdN (upd p 9 x) c = kdN p c ∧ wyN (upd p 9 x) c = wyN p c ∧ rgN (upd p 9 x) c = rgN p c ∧ x2N (upd p 9 x) c = x2N p c ∧ x3N (upd p 9 x) c = x3N p c := by
  unfold kdN wyN rgN x2N x3N
  rw [upd_ne _ _ (show 50 + 4 * c ≠ 9 by omega), upd_ne _ _ (show 50 + 4 * c + 1 ≠ 9 by omega), upd_ne _ _ (show 50 + 4 * c + 2 ≠ 9 by omega), upd_ne _ _ (show 50 + 4 * c + 3 ≠ 9 by omega)]
  exact ⟨rfl, rfl, rfl, rfl, rfl⟩
theorem p9_c {p : Nat → Int32} (x : Int32) {c : Nat} (h : WFc p c) : WFc (upd p 9 x) c := by
  obtain ⟨e1, e2, e3, e4, e5⟩ := p9_kd p x c
  unfold WFc
  rw [e1, e3, e4, e5, upd_ne _ _ (show 50 + 4 * c ≠ 9 by omega), upd_ne _ _ (show 50 + 4 * c + 1 ≠ 9 by omega), upd_ne _ _ (show 50 + 4 * c + 2 ≠ 9 by omega), upd_ne _ _ (show 50 + 4 * c + 3 ≠ 9 by omega)]
  exact h
theorem p9_b (p : Nat → Int32) (x : Int32) (bt : Nat) : setN (upd p 9 x) bt = setN p bt ∧ fstN (upd p 9 x) bt = fstN p bt ∧ lenN (upd p 9 x) bt = lenN p bt := by
  unfold setN fstN lenN
  rw [upd_ne _ _ (show 14 + 3 * bt ≠ 9 by omega), upd_ne _ _ (show 14 + 3 * bt + 1 ≠ 9 by omega), upd_ne _ _ (show 14 + 3 * bt + 2 ≠ 9 by omega)]
  exact ⟨rfl, rfl, rfl⟩
theorem p9_wb {p : Nat → Int32} (x : Int32) {bt : Nat} (h : WFb p bt) : WFb (upd p 9 x) bt := by
  obtain ⟨e1, e2, e3⟩ := p9_b p x bt
  obtain ⟨h1, h2, h3, h4, h5, h6, h7⟩ := h
  unfold WFb
  rw [e1, e2, e3, upd_ne _ _ (show (0 : Nat) ≠ 9 by decide), upd_ne _ _ (show 14 + 3 * bt + 1 ≠ 9 by omega), upd_ne _ _ (show 14 + 3 * bt + 2 ≠ 9 by omega)]
  exact ⟨h1, h2, h3, h4, h5, h6, fun c hc1 hc2 => p9_c x (h7 c hc1 hc2)⟩
theorem p9_dl (p : Nat → Int32) (x : Int32) (s : Int32) (c : Nat) : dlN (upd p 9 x) s c = dlN p s c := by
  obtain ⟨e1, e2, e3, e4, e5⟩ := p9_kd p x c
  unfold dlN spBy spE
  rw [e1, e2, upd_ne _ _ (show (7 : Nat) ≠ 9 by decide), upd_ne _ _ (show (8 : Nat) ≠ 9 by decide), upd_ne _ _ (show (6 : Nat) ≠ 9 by decide), upd_ne _ _ (show (5 : Nat) ≠ 9 by decide), upd_ne _ _ (show (4 : Nat) ≠ 9 by decide), upd_ne _ _ (show (2 : Nat) ≠ 9 by decide)]
theorem p9_pc {M : Mem} {pr : Nat} {p : Nat → Int32} (x : Int32) {s : Int32} {c : Nat} (h : PCm M pr p s c) : PCm M pr (upd p 9 x) s c := by
  obtain ⟨e1, e2, e3, e4, e5⟩ := p9_kd p x c
  unfold PCm
  rw [e1, e2, e3, p9_dl, upd_ne _ _ (show 50 + 4 * c + 2 ≠ 9 by omega), upd_ne _ _ (show 50 + 4 * c + 3 ≠ 9 by omega)]
  exact h
theorem p9_pb {M : Mem} {pr : Nat} {p : Nat → Int32} (x : Int32) {bt : Nat} (h : PBt M pr p bt) : PBt M pr (upd p 9 x) bt := by
  obtain ⟨e1, e2, e3⟩ := p9_b p x bt
  unfold PBt
  rw [e1, e2, e3]
  exact ⟨h.1, h.2.1, h.2.2.1, fun c h1 h2 => p9_pc x (h.2.2.2 c h1 h2)⟩
theorem p9_s {M : Mem} {pr : Nat} {p : Nat → Int32} (x : Int32) (h : PRs M pr p) : PRs M pr (upd p 9 x) := by
  unfold PRs
  rw [upd_ne _ _ (show (0 : Nat) ≠ 9 by decide), upd_ne _ _ (show (1 : Nat) ≠ 9 by decide), upd_ne _ _ (show (2 : Nat) ≠ 9 by decide), upd_ne _ _ (show (3 : Nat) ≠ 9 by decide), upd_ne _ _ (show (4 : Nat) ≠ 9 by decide), upd_ne _ _ (show (5 : Nat) ≠ 9 by decide), upd_ne _ _ (show (6 : Nat) ≠ 9 by decide), upd_ne _ _ (show (7 : Nat) ≠ 9 by decide), upd_ne _ _ (show (8 : Nat) ≠ 9 by decide), upd_ne _ _ (show (10 : Nat) ≠ 9 by decide), upd_ne _ _ (show (11 : Nat) ≠ 9 by decide)]
  exact h
theorem p9_w {p : Nat → Int32} {g : Nat} (hg : 1 ≤ g ∧ g ≤ 8) (h : WFs p) : WFs (upd p 9 (nI g)) := by
  obtain ⟨h0, h1, h2, h3, h4, h5, h6, h7, h8, h9, h10, h11, h12⟩ := h
  have eg : ix (nI g) = g := ix_nI (by omega)
  unfold WFs
  rw [upd_ne _ _ (show (0 : Nat) ≠ 9 by decide), upd_ne _ _ (show (1 : Nat) ≠ 9 by decide), upd_ne _ _ (show (2 : Nat) ≠ 9 by decide), upd_ne _ _ (show (11 : Nat) ≠ 9 by decide), upd_eq, eg]
  exact ⟨h0, h1, h2, h3, h4, h5, h6, h7, h8, rfl, hg.1, hg.2, h12⟩
