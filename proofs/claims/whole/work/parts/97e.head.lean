/-! ===== sizes and settings ===== -/
def FX (pr : Nat) (Mx Mx2 : Mem) : Prop := ∀ c, c ≠ 2 → ¬ (pr ≤ c ∧ c ≤ pr + 12) → Mx2 c = Mx c
def FM (Mm Mm2 : Mem) : Prop := (∀ c, c ≠ 0 → c ≠ 6 → Mm2 c = Mm c) ∧ (∀ j, j < 10 ∨ 15 < j → Mm2 0 j = Mm 0 j)
theorem FX.refl (pr : Nat) (M : Mem) : FX pr M M := fun _ _ _ => rfl
theorem FM.refl (M : Mem) : FM M M := ⟨fun _ _ _ => rfl, fun _ _ => rfl⟩
theorem FX.trans {pr : Nat} {A B C : Mem} (h : FX pr A B) (g : FX pr B C) : FX pr A C := fun c h1 h2 => (g c h1 h2).trans (h c h1 h2)
theorem FM.trans {A B C : Mem} (h : FM A B) (g : FM B C) : FM A C := ⟨fun c h1 h2 => (g.1 c h1 h2).trans (h.1 c h1 h2), fun j hj => (g.2 j hj).trans (h.2 j hj)⟩
theorem FrP.x {pr : Nat} {A B : Mem} (h : FrP A B) : FX pr A B := fun c h1 _ => h c h1
theorem FrQ.m {A B : Mem} (h : FrQ A B) : FM A B := ⟨fun c h1 _ => h.1 c h1, h.2⟩
theorem FX.up {pr : Nat} {A B : Mem} (h : FX pr A B) {c i : Nat} {x : Int32} (hc : pr ≤ c ∧ c ≤ pr + 12) : FX pr A (up B c i x) := fun d h1 h2 => by rw [up_a _ _ _ (fun e => h2 (by rw [e]; exact hc))]; exact h d h1 h2
theorem FM.up6 {A B : Mem} (h : FM A B) {i : Nat} {x : Int32} : FM A (up B 6 i x) := ⟨fun c h1 h2 => by rw [up_a _ _ _ h2]; exact h.1 c h1 h2, fun j hj => by rw [up_a _ _ _ (by decide)]; exact h.2 j hj⟩
theorem PS.up {T : Nat → Int32} {L pr : Nat} {Mx Mm : Mem} (h : PS T L pr Mx Mm) (hp : 7 ≤ pr) {c i k : Nat} {x y : Int32} (hc : pr ≤ c) : PS T L pr (up Mx c i x) (up Mm 6 k y) := h.of (fun d hd => up_a _ _ _ (by omega)) (fun d hd => up_a _ _ _ (by omega))
theorem PS.blk {T : Nat → Int32} {L pr : Nat} {Mx Mm : Mem} (h : PS T L pr Mx Mm) (hp : pr = 7 ∨ pr = 20) : (¬ Mx 2 1 < 0 ∧ blkD KSx (ix (Mx 2 1)) blk4) ∧ ix (Mx 2 1) = pr := by
  rw [h.ps.1.2.2]
  exact pr_blk hp
section HD
variable {T : Nat → Int32} {L pr : Nat} {Mx Mm : Mem}
theorem p_header (h : PS T L pr Mx Mm) (hp : pr = 7 ∨ pr = 20) : ∃ Mx2 Mm2 y0 y1 y2, f_X2_parseSizes Mx = some (0, Mx2) ∧ f_X10_header Mm = some (0, Mm2) ∧ PS T L pr Mx2 Mm2 ∧ (1 ≤ y0 ∧ y0 ≤ 8) ∧ (1 ≤ y1 ∧ y1 ≤ 16) ∧ (1 ≤ y2 ∧ y2 ≤ 8) ∧ Mx2 pr = upd (upd (upd (Mx pr) 0 (nI y0)) 1 (nI y1)) 2 (nI y2) ∧ (∀ c, c ≠ 2 → c ≠ pr → Mx2 c = Mx c) ∧ FM Mm Mm2 ∧ (∀ j, 3 ≤ j → Mm2 6 j = Mm 6 j) ∧ (Mx2 2 5 = 0 → Mx 2 5 = 0 ∧ Mm2 6 0 = nI y0 ∧ Mm2 6 1 = nI y1 ∧ Mm2 6 2 = nI y2) := by
  have hp7 : 7 ≤ pr := by rcases hp with z | z <;> omega
  obtain ⟨X1, v1, N1, M1, a1, b1, c1, P1, F1, G1, E1⟩ := p_word (w := 23) h (by omega)
  obtain ⟨y0, X2, v2, M2, a2, b2, P2, F2, G2, l2, u2, E2⟩ := p_num (l := 1) (hi := 8) (H := 8) P1 (by omega) (by omega) (fun _ => rfl)
  have P2' := P2.up hp7 (c := pr) (i := 0) (k := 0) (x := nI y0) (y := v2) (Nat.le_refl _)
  obtain ⟨X3, v3, N3, M3, a3, b3, c3, P3, F3, G3, E3⟩ := p_word (w := 24) P2' (by omega)
  obtain ⟨y1, X4, v4, M4, a4, b4, P4, F4, G4, l4, u4, E4⟩ := p_num (l := 1) (hi := 16) (H := 16) P3 (by omega) (by omega) (fun _ => rfl)
  have P4' := P4.up hp7 (c := pr) (i := 1) (k := 1) (x := nI y1) (y := v4) (Nat.le_refl _)
  obtain ⟨X5, v5, N5, M5, a5, b5, c5, P5, F5, G5, E5⟩ := p_word (w := 25) P4' (by omega)
  obtain ⟨y2, X6, v6, M6, a6, b6, P6, F6, G6, l6, u6, E6⟩ := p_num (l := 1) (hi := 8) (H := 8) P5 (by omega) (by omega) (fun _ => rfl)
  have P6' := P6.up hp7 (c := pr) (i := 2) (k := 2) (x := nI y2) (y := v6) (Nat.le_refl _)
  obtain ⟨X7, v7, N7, M7, a7, b7, c7, P7, F7, G7, E7⟩ := p_sign (w := 30) P6' (by omega)
  have k1 := P1.blk hp
  have k3 := P3.blk hp
  have k5 := P5.blk hp
  have n2 : pr ≠ 2 := by omega
  have e2 : X2 pr = Mx pr := by rw [F2 pr n2, F1 pr n2]
  have e4 : X4 pr = upd (Mx pr) 0 (nI y0) := by rw [F4 pr n2, F3 pr n2, up_row, e2]
  have e6 : X6 pr = upd (upd (Mx pr) 0 (nI y0)) 1 (nI y1) := by rw [F6 pr n2, F5 pr n2, up_row, e4]
  have e7 : X7 pr = upd (upd (upd (Mx pr) 0 (nI y0)) 1 (nI y1)) 2 (nI y2) := by rw [F7 pr n2, up_row, e6]
  have m2 : M2 6 = Mm 6 := by rw [G2.1 6 (by decide), G1.1 6 (by decide)]
  have m4 : M4 6 = upd (Mm 6) 0 v2 := by rw [G4.1 6 (by decide), G3.1 6 (by decide), up_row, m2]
  have m6 : M6 6 = upd (upd (Mm 6) 0 v2) 1 v4 := by rw [G6.1 6 (by decide), G5.1 6 (by decide), up_row, m4]
  have m7 : M7 6 = upd (upd (upd (Mm 6) 0 v2) 1 v4) 2 v6 := by rw [G7.1 6 (by decide), up_row, m6]
  refine ⟨X7, M7, y0, y1, y2, ?_, ?_, P7, ⟨l2, u2⟩, ⟨l4, u4⟩, ⟨l6, u6⟩, e7, fun c z1 z2 => ?_, ?_, fun j hj => ?_, fun z => ?_⟩
  · unfold f_X2_parseSizes
    rw [show (23 : Int32) = nI 23 from rfl, a1, bnd_some, if_pos k1.1, k1.2, show (1 : Int32) = nI 1 from rfl, show (8 : Int32) = nI 8 from rfl, a2, bnd_some, wrt_def, show (24 : Int32) = nI 24 from rfl, a3, bnd_some, if_pos k3.1, k3.2, show (16 : Int32) = nI 16 from rfl, a4, bnd_some, wrt_def, show (25 : Int32) = nI 25 from rfl, a5, bnd_some, if_pos k5.1, k5.2, a6, bnd_some, wrt_def, show (30 : Int32) = nI 30 from rfl, a7, bnd_some]
  · unfold f_X10_header
    have b1' : f_X10_takesWord 1024 Mm = some (v1, N1) := b1
    have b3' : f_X10_takesWord 1025 (up M2 6 0 v2) = some (v3, N3) := b3
    have b5' : f_X10_takesWord 1026 (up M4 6 1 v4) = some (v5, N5) := b5
    have b7' : f_X10_takesSign 59 (up M6 6 2 v6) = some (v7, N7) := b7
    have b2' : f_X10_figure 1 8 M1 = some (v2, M2) := b2
    have b4' : f_X10_figure 1 16 M3 = some (v4, M4) := b4
    have b6' : f_X10_figure 1 8 M5 = some (v6, M6) := b6
    rw [b1', bnd_some, c1, bnd_some, b2', bnd_some, wrt_def, b3', bnd_some, c3, bnd_some, b4', bnd_some, wrt_def, b5', bnd_some, c5, bnd_some, b6', bnd_some, wrt_def, b7', bnd_some, c7, bnd_some]
  · rw [F7 c z1, up_a _ _ _ z2, F6 c z1, F5 c z1, up_a _ _ _ z2, F4 c z1, F3 c z1, up_a _ _ _ z2, F2 c z1, F1 c z1]
  · exact ((((((G1.m.trans G2.m).up6 (i := 0) (x := v2)).trans G3.m).trans G4.m).up6 (i := 1) (x := v4)).trans G5.m).trans G6.m |>.up6 (i := 2) (x := v6) |>.trans G7.m
  · rw [m7, upd_ne _ _ (by omega), upd_ne _ _ (by omega), upd_ne _ _ (by omega)]
  · have z6 : X6 2 5 = 0 := by
      have := E7 z
      rw [up_a _ _ _ (by omega)] at this; exact this
    obtain ⟨z5, w6⟩ := E6 z6
    have z4 : X4 2 5 = 0 := by
      have := E5 z5
      rw [up_a _ _ _ (by omega)] at this; exact this
    obtain ⟨z3, w4⟩ := E4 z4
    have z2 : X2 2 5 = 0 := by
      have := E3 z3
      rw [up_a _ _ _ (by omega)] at this; exact this
    obtain ⟨z1, w2⟩ := E2 z2
    refine ⟨E1 z1, ?_, ?_, ?_⟩
    · rw [m7, upd_ne _ _ (by decide), upd_ne _ _ (by decide), upd_eq]; exact w2
    · rw [m7, upd_ne _ _ (by decide), upd_eq]; exact w4
    · rw [m7, upd_eq]; exact w6
end HD
/-! bits -/
theorem sh_and (x : BitVec 32) {n : Nat} (hn : n < 32) : ((x.sshiftRight n) &&& 1#32 = 0#32) ↔ x.getLsbD n = false := by
  constructor
  · intro h
    have := congrArg (fun y => y.getLsbD 0) h
    simp only [BitVec.getLsbD_and, BitVec.getLsbD_sshiftRight] at this
    simpa [hn] using this
  · intro h
    apply BitVec.eq_of_getLsbD_eq
    intro i hi
    rw [BitVec.getLsbD_and, BitVec.getLsbD_sshiftRight]
    by_cases z : i = 0
    · subst z
      rw [Nat.add_zero, if_pos hn, h]
      decide
    · have : (1#32).getLsbD i = false := by
        have e : ∀ j, j < 32 → j ≠ 0 → (1#32).getLsbD j = false := by decide
        exact e i hi z
      rw [this, Bool.and_false]; simp
theorem bit_lsb (x : Int32) {j : Nat} (hj : j < 12) : bit x j = x.toBitVec.getLsbD j := by
  have key : ∀ n, n < 32 → (x >>> (nI n &&& 31) &&& 1).toBitVec = (x.toBitVec.sshiftRight n) &&& 1#32 → bit x n = x.toBitVec.getLsbD n := by
    intro n hn e
    unfold bit
    have z : ((x >>> (nI n &&& 31)) &&& 1 = 0) ↔ x.toBitVec.getLsbD n = false := by
      rw [← sh_and x.toBitVec hn, ← e]
      exact ⟨fun q => by rw [q]; rfl, fun q => Int32.toBitVec_inj.1 q⟩
    cases hb : x.toBitVec.getLsbD n with
    | false => exact decide_eq_false (fun q => q (z.mpr hb))
    | true => exact decide_eq_true (fun q => by rw [z.mp q] at hb; cases hb)
  rcases (show j = 0 ∨ j = 1 ∨ j = 2 ∨ j = 3 ∨ j = 4 ∨ j = 5 ∨ j = 6 ∨ j = 7 ∨ j = 8 ∨ j = 9 ∨ j = 10 ∨ j = 11 by omega) with e | e | e | e | e | e | e | e | e | e | e | e <;> subst e <;> exact key _ (by omega) rfl
theorem sh_lsb : ∀ k, k < 12 → ∀ j, j < 12 → ((1 : Int32) <<< (nI k &&& 31)).toBitVec.getLsbD j = decide (j = k) := by decide +kernel
theorem bit_or (x : Int32) {k j : Nat} (hk : k < 12) (hj : j < 12) : bit (x ||| (1 <<< (nI k &&& 31))) j = (decide (j = k) || bit x j) := by
  rw [bit_lsb _ hj, bit_lsb _ hj, Int32.toBitVec_or, BitVec.getLsbD_or, sh_lsb k hk j hj, Bool.or_comm]
theorem bit_z (j : Nat) (hj : j < 12) : bit 0 j = false := by
  rw [bit_lsb _ hj]
  have e : ∀ j, j < 12 → (0 : Int32).toBitVec.getLsbD j = false := by decide +kernel
  exact e j hj
