/-! ===== a command ===== -/
/-- a command as the parsers leave it: the class's rows and the reference's numbers, but for the delay -/
def PC0 (M : Mem) (pr : Nat) (p : Nat → Int32) (c : Nat) : Prop := WFc p c ∧ M (pr + 5) c = nI (vbN (kdN p c)) ∧ (kdN p c ≠ 7 → M (pr + 7) c = nI (rgN p c)) ∧ (kdN p c ≤ 3 → M (pr + 8) c = p (50 + 4 * c + 2)) ∧ (kdN p c = 3 → M (pr + 9) c = p (50 + 4 * c + 3)) ∧ (kdN p c = 3 ∨ kdN p c = 4 ∨ kdN p c = 5 → M (pr + 6) c = nI (15 + wyN p c))
theorem PC0.of {M M2 : Mem} {pr c : Nat} {p p2 : Nat → Int32} (h : PC0 M pr p c) (e : ∀ d, 5 ≤ d → d ≤ 9 → M2 (pr + d) c = M (pr + d) c) (ep : ∀ k, k < 4 → p2 (50 + 4 * c + k) = p (50 + 4 * c + k)) : PC0 M2 pr p2 c := by
  have e0 : p2 (50 + 4 * c) = p (50 + 4 * c) := ep 0 (by omega)
  have e1 := ep 1 (by omega)
  have e2 := ep 2 (by omega)
  have e3 := ep 3 (by omega)
  unfold PC0 WFc kdN wyN rgN x2N x3N at *
  rw [e0, e1, e2, e3, e 5 (by omega) (by omega), e 6 (by omega) (by omega), e 7 (by omega) (by omega), e 8 (by omega) (by omega), e 9 (by omega) (by omega)]
  exact h
/-- the reference's kind of a command word -/
def kK (k : Nat) : Nat := if k = 9 then 0 else if k = 10 then 1 else if k = 11 then 2 else if 15 ≤ k ∧ k ≤ 22 then 3 else if k = 8 then 4 else if k = 12 then 5 else if k = 13 then 6 else 7
section CM
variable {T : Nat → Int32} {L pr : Nat} {Mx Mm : Mem}
theorem m_way {b : Nat} (h : OKb T L pr b Mx Mm) {x : Int32} (hx : x = 0 ∨ x = 1) : f_X10_way x Mm = some ((if 15 ≤ kd T L b ∧ (kd T L b ≤ 21 ∨ (kd T L b = 22 ∧ x = 1)) then nI (kd T L b - 15) else -1), Mm) := by
  unfold f_X10_way
  rw [isw h (w := 15) (t := 1040) (by omega) rfl, bnd_some]
  by_cases z0 : kd T L b = 15
  · rw [if_pos z0, if_neg ne10, if_pos (by omega), z0]; rfl
  rw [if_neg z0, if_pos rfl, isw h (w := 16) (t := 1041) (by omega) rfl, bnd_some]
  by_cases z1 : kd T L b = 16
  · rw [if_pos z1, if_neg ne10, if_pos (by omega), z1]; rfl
  rw [if_neg z1, if_pos rfl, isw h (w := 17) (t := 1042) (by omega) rfl, bnd_some]
  by_cases z2 : kd T L b = 17
  · rw [if_pos z2, if_neg ne10, if_pos (by omega), z2]; rfl
  rw [if_neg z2, if_pos rfl, isw h (w := 18) (t := 1043) (by omega) rfl, bnd_some]
  by_cases z3 : kd T L b = 18
  · rw [if_pos z3, if_neg ne10, if_pos (by omega), z3]; rfl
  rw [if_neg z3, if_pos rfl, isw h (w := 19) (t := 1044) (by omega) rfl, bnd_some]
  by_cases z4 : kd T L b = 19
  · rw [if_pos z4, if_neg ne10, if_pos (by omega), z4]; rfl
  rw [if_neg z4, if_pos rfl, isw h (w := 20) (t := 1045) (by omega) rfl, bnd_some]
  by_cases z5 : kd T L b = 20
  · rw [if_pos z5, if_neg ne10, if_pos (by omega), z5]; rfl
  rw [if_neg z5, if_pos rfl, isw h (w := 21) (t := 1046) (by omega) rfl, bnd_some]
  by_cases z6 : kd T L b = 21
  · rw [if_pos z6, if_neg ne10, if_pos (by omega), z6]; rfl
  rw [if_neg z6, if_pos rfl]
  rcases hx with e | e
  · rw [e, if_pos rfl, if_neg (by rintro ⟨a1, a2 | ⟨a2, a3⟩⟩; omega; exact absurd a3 (by decide))]
    rfl
  · rw [e, if_neg ne10, isw h (w := 22) (t := 1047) (by omega) rfl, bnd_some]
    by_cases z7 : kd T L b = 22
    · rw [if_pos z7, if_neg ne10, if_pos ⟨by omega, Or.inr ⟨z7, rfl⟩⟩, z7]; rfl
    · rw [if_neg z7, if_pos rfl, if_neg (by rintro ⟨a1, a2 | ⟨a2, a3⟩⟩ <;> omega)]
theorem m_wayE (h : ERe T L pr Mx Mm) (x : Int32) : f_X10_way x Mm = some (-1, Mm) := by
  unfold f_X10_way
  rw [m_isWordE h, bnd_some, if_pos rfl, m_isWordE h, bnd_some, if_pos rfl, m_isWordE h, bnd_some, if_pos rfl, m_isWordE h, bnd_some, if_pos rfl, m_isWordE h, bnd_some, if_pos rfl, m_isWordE h, bnd_some, if_pos rfl, m_isWordE h, bnd_some, if_pos rfl]
  split
  · rfl
  · rw [m_isWordE h, bnd_some, if_pos rfl]
/-- whether a command's first word stands there -/
noncomputable def nxK (T : Nat → Int32) (L b : Nat) : Int32 := if 8 ≤ kd T L b ∧ kd T L b ≤ 22 then nI (kK (kd T L b)) else -1
theorem m_kind {b : Nat} (h : OKb T L pr b Mx Mm) : f_X10_kind Mm = some (nxK T L b, Mm) := by
  unfold f_X10_kind nxK
  rw [isw h (w := 9) (t := 1037) (by omega) rfl, bnd_some]
  by_cases z0 : kd T L b = 9
  · rw [if_pos z0, if_neg ne10, if_pos (by omega), z0]; rfl
  rw [if_neg z0, if_pos rfl, isw h (w := 10) (t := 1038) (by omega) rfl, bnd_some]
  by_cases z1 : kd T L b = 10
  · rw [if_pos z1, if_neg ne10, if_pos (by omega), z1]; rfl
  rw [if_neg z1, if_pos rfl, isw h (w := 11) (t := 1039) (by omega) rfl, bnd_some]
  by_cases z2 : kd T L b = 11
  · rw [if_pos z2, if_neg ne10, if_pos (by omega), z2]; rfl
  rw [if_neg z2, if_pos rfl, m_way h (Or.inr rfl), bnd_some]
  by_cases zw : 15 ≤ kd T L b ∧ kd T L b ≤ 22
  · have e1 : (if 15 ≤ kd T L b ∧ (kd T L b ≤ 21 ∨ (kd T L b = 22 ∧ (1 : Int32) = 1)) then nI (kd T L b - 15) else -1) = nI (kd T L b - 15) := if_pos ⟨zw.1, by
        by_cases y : kd T L b ≤ 21
        · exact Or.inl y
        · exact Or.inr ⟨by omega, rfl⟩⟩
    rw [e1, if_neg (ne_m1 (by omega)), if_pos (by omega)]
    have : kK (kd T L b) = 3 := by unfold kK; rw [if_neg z0, if_neg z1, if_neg z2, if_pos zw]
    rw [this]; rfl
  have e1 : (if 15 ≤ kd T L b ∧ (kd T L b ≤ 21 ∨ (kd T L b = 22 ∧ (1 : Int32) = 1)) then nI (kd T L b - 15) else -1) = -1 := if_neg (by rintro ⟨a1, a2 | ⟨a2, a3⟩⟩ <;> omega)
  rw [e1, if_pos rfl, isw h (w := 8) (t := 1031) (by omega) rfl, bnd_some]
  by_cases z3 : kd T L b = 8
  · rw [if_pos z3, if_neg ne10, if_pos (by omega), z3]; rfl
  rw [if_neg z3, if_pos rfl, isw h (w := 12) (t := 1048) (by omega) rfl, bnd_some]
  by_cases z4 : kd T L b = 12
  · rw [if_pos z4, if_neg ne10, if_pos (by omega), z4]; rfl
  rw [if_neg z4, if_pos rfl, isw h (w := 13) (t := 1049) (by omega) rfl, bnd_some]
  by_cases z5 : kd T L b = 13
  · rw [if_pos z5, if_neg ne10, if_pos (by omega), z5]; rfl
  rw [if_neg z5, if_pos rfl, isw h (w := 14) (t := 1050) (by omega) rfl, bnd_some]
  by_cases z6 : kd T L b = 14
  · rw [if_pos z6, if_neg ne10, if_pos (by omega), z6]; rfl
  rw [if_neg z6, if_pos rfl, if_neg (by omega)]
theorem m_kindE (h : ERe T L pr Mx Mm) : f_X10_kind Mm = some (-1, Mm) := by
  unfold f_X10_kind
  rw [m_isWordE h, bnd_some, if_pos rfl, m_isWordE h, bnd_some, if_pos rfl, m_isWordE h, bnd_some, if_pos rfl, m_wayE h, bnd_some, if_pos rfl, m_isWordE h, bnd_some, if_pos rfl, m_isWordE h, bnd_some, if_pos rfl, m_isWordE h, bnd_some, if_pos rfl, m_isWordE h, bnd_some, if_pos rfl]
/-- a register: the class's row d at c, the reference's number k -/
theorem p_reg {c d k : Nat} (h : PS T L pr Mx Mm) (hp : pr = 7 ∨ pr = 20) (hd : pr ≤ d ∧ d ≤ pr + 12) : ∃ y X2 v M2, f_X2_takeNumber 0 3 Mx = some (nI y, X2) ∧ f_X10_register Mm = some (v, M2) ∧ PS T L pr (up X2 d c (nI y)) (up M2 6 k v) ∧ y < 4 ∧ FrP Mx X2 ∧ FrQ Mm M2 ∧ ((up X2 d c (nI y)) 2 5 = 0 → Mx 2 5 = 0 ∧ v = nI y) := by
  have hp7 : 7 ≤ pr := by rcases hp with z | z <;> omega
  obtain ⟨y, X2, v, M2, a, b, P, F, G, l1, u1, E⟩ := p_num (l := 0) (hi := 3) (H := 3) h (by omega) (by omega) (fun _ => rfl)
  refine ⟨y, X2, v, M2, a, ?_, P.up hp7 hd.1, by omega, F, G, fun z => E ?_⟩
  · unfold f_X10_register
    have b' : f_X10_figure 0 3 Mm = some (v, M2) := b
    rw [b', bnd_some]
  · rw [up_a _ _ _ (by omega)] at z; exact z
/-- the end of a command -/
theorem p_cmdEnd {nc : Nat} (h : PS T L pr Mx Mm) (hp : pr = 7 ∨ pr = 20) (hx : Mx pr 5 = nI nc) (hm : Mm 6 13 = nI nc) : ∃ X2 M2, bnd (f_X2_take 30 Mx) (fun _ M19 => if ¬ M19 2 1 < 0 ∧ blkD KSx (ix (M19 2 1)) blk4 then wrt (up M19 (ix (M19 2 1)) 5 ((M19 (ix (M19 2 1)) 5) + 1)) (fun M21 => some ((0 : Int32), M21)) else none) = some (0, X2) ∧ j_X10_command_247 Mm = some (0, M2) ∧ PS T L pr X2 M2 ∧ X2 pr = upd (Mx pr) 5 (nI (nc + 1)) ∧ (∀ d, d ≠ 2 → d ≠ pr → X2 d = Mx d) ∧ FM Mm M2 ∧ M2 6 = upd (Mm 6) 13 (nI (nc + 1)) ∧ (X2 2 5 = 0 → Mx 2 5 = 0) := by
  have hp7 : 7 ≤ pr := by rcases hp with z | z <;> omega
  obtain ⟨X1, v, N, M1, a, b, c, P, F, G, E⟩ := p_sign (w := 30) h (by omega)
  have bk := P.blk hp
  have P' := P.up hp7 (c := pr) (i := 5) (k := 13) (x := nI (nc + 1)) (y := nI (nc + 1)) (Nat.le_refl _)
  refine ⟨up X1 pr 5 (nI (nc + 1)), up M1 6 13 (nI (nc + 1)), ?_, ?_, P', ?_, fun d d1 d2 => ?_, G.m.up6, ?_, fun z => ?_⟩
  · have e5 : X1 pr 5 = nI nc := by rw [F pr (by omega)]; exact hx
    rw [show (30 : Int32) = nI 30 from rfl, a, bnd_some, if_pos bk.1, bk.2, e5, nI_1, wrt_def]
  · unfold j_X10_command_247
    have b' : f_X10_takesSign 59 Mm = some (v, N) := b
    have e13 : M1 6 13 = nI nc := by rw [G.1 6 (by decide)]; exact hm
    rw [b', bnd_some, c, bnd_some, e13, nI_1, wrt_def]
  · rw [up_row, F pr (by omega)]
  · rw [up_a _ _ _ d2, F d d1]
  · rw [up_row, G.1 6 (by decide)]
  · rw [up_a _ _ _ (by omega)] at z; exact E z
end CM
