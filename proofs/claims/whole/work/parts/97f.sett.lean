/-! ===== the settings ===== -/
def smL : List Nat := [3, 4, 5, 6, 8, 9, 10, 11, 7]
/-- the reference's place of a setting -/
def sm (s : Nat) : Nat := smL.getD s 0
def loL : List Nat := [1, 1, 1, 1, 1, 1, 1, 0, 1]
def hiL : List Nat := [100, 100, 100, 100, 100, 8, 1000, 8, 100]
theorem sm_ok : ∀ s, s < 9 → 3 ≤ sm s ∧ sm s ≤ 11 ∧ (∀ r, r < 9 → sm r = sm s → r = s) := by decide +kernel
section ST
variable {T : Nat → Int32} {L pr : Nat} {Mx Mm : Mem}
theorem isw {b w : Nat} (h : OKb T L pr b Mx Mm) (hw : w < 28) {t : Nat} (ht : wsn w = t) : f_X10_isWord t Mm = some ((if kd T L b = w then 1 else 0), Mm) := by rw [← ht]; exact m_isWord h hw
theorem m_setting {b : Nat} (h : OKb T L pr b Mx Mm) : f_X10_setting Mm = some ((if kd T L b < 9 then nI (sm (kd T L b)) else -1), Mm) := by
  unfold f_X10_setting
  rw [isw h (w := 0) (t := 1027) (by omega) rfl, bnd_some]
  by_cases z0 : kd T L b = 0
  · rw [if_pos z0, if_neg ne10, if_pos (by omega), z0]; rfl
  rw [if_neg z0, if_pos rfl, isw h (w := 1) (t := 1028) (by omega) rfl, bnd_some]
  by_cases z1 : kd T L b = 1
  · rw [if_pos z1, if_neg ne10, if_pos (by omega), z1]; rfl
  rw [if_neg z1, if_pos rfl, isw h (w := 2) (t := 1029) (by omega) rfl, bnd_some]
  by_cases z2 : kd T L b = 2
  · rw [if_pos z2, if_neg ne10, if_pos (by omega), z2]; rfl
  rw [if_neg z2, if_pos rfl, isw h (w := 3) (t := 1030) (by omega) rfl, bnd_some]
  by_cases z3 : kd T L b = 3
  · rw [if_pos z3, if_neg ne10, if_pos (by omega), z3]; rfl
  rw [if_neg z3, if_pos rfl, isw h (w := 8) (t := 1031) (by omega) rfl, bnd_some]
  by_cases z8 : kd T L b = 8
  · rw [if_pos z8, if_neg ne10, if_pos (by omega), z8]; rfl
  rw [if_neg z8, if_pos rfl, isw h (w := 4) (t := 1032) (by omega) rfl, bnd_some]
  by_cases z4 : kd T L b = 4
  · rw [if_pos z4, if_neg ne10, if_pos (by omega), z4]; rfl
  rw [if_neg z4, if_pos rfl, isw h (w := 5) (t := 1033) (by omega) rfl, bnd_some]
  by_cases z5 : kd T L b = 5
  · rw [if_pos z5, if_neg ne10, if_pos (by omega), z5]; rfl
  rw [if_neg z5, if_pos rfl, isw h (w := 6) (t := 1034) (by omega) rfl, bnd_some]
  by_cases z6 : kd T L b = 6
  · rw [if_pos z6, if_neg ne10, if_pos (by omega), z6]; rfl
  rw [if_neg z6, if_pos rfl, isw h (w := 7) (t := 1035) (by omega) rfl, bnd_some]
  by_cases z7 : kd T L b = 7
  · rw [if_pos z7, if_neg ne10, if_pos (by omega), z7]; rfl
  rw [if_neg z7, if_pos rfl, if_neg (by omega)]
theorem m_settingE (h : ERe T L pr Mx Mm) : f_X10_setting Mm = some (-1, Mm) := by
  unfold f_X10_setting
  rw [m_isWordE h, bnd_some, if_pos rfl, m_isWordE h, bnd_some, if_pos rfl, m_isWordE h, bnd_some, if_pos rfl, m_isWordE h, bnd_some, if_pos rfl, m_isWordE h, bnd_some, if_pos rfl, m_isWordE h, bnd_some, if_pos rfl, m_isWordE h, bnd_some, if_pos rfl, m_isWordE h, bnd_some, if_pos rfl, m_isWordE h, bnd_some, if_pos rfl]
/-- what the reference's place says of the next setting -/
noncomputable def nxS (T : Nat → Int32) (L b : Nat) : Int32 := if kd T L b < 9 then nI (sm (kd T L b)) else -1
theorem st_lohi : ∀ s, s < 9 → statA 900 s = nI (loL.getD s 0) ∧ statA 901 s = nI (hiL.getD s 0) ∧ loL.getD s 0 ≤ hiL.getD s 0 ∧ hiL.getD s 0 ≤ 1000 := by decide +kernel
/-- the reference's number of a setting -/
theorem m_42 {s : Nat} (hs : s < 9) (had : Int32) (K7 : Int32 × Int32 × Mem → Option (Int32 × Mem)) (M : Mem) : j_X10_settings_42 had (nI (sm s)) K7 M = bnd (f_X10_figure (nI (loL.getD s 0)) (nI (hiL.getD s 0)) M) (fun v9 M10 => j_X10_settings_98 had (nI (sm s)) v9 K7 M10) := by
  unfold j_X10_settings_42
  rcases (show s = 0 ∨ s = 1 ∨ s = 2 ∨ s = 3 ∨ s = 4 ∨ s = 5 ∨ s = 6 ∨ s = 7 ∨ s = 8 by omega) with e | e | e | e | e | e | e | e | e <;> subst e
  · rw [if_pos (by decide), if_pos (by decide), if_pos (by decide)]; rfl
  · rw [if_pos (by decide), if_pos (by decide), if_pos (by decide)]; rfl
  · rw [if_pos (by decide), if_pos (by decide), if_pos (by decide)]; rfl
  · rw [if_pos (by decide), if_pos (by decide), if_pos (by decide)]; rfl
  · rw [if_pos (by decide), if_pos (by decide), if_pos (by decide)]; rfl
  · rw [if_neg (by decide)]; rfl
  · rw [if_pos (by decide), if_neg (by decide)]; rfl
  · rw [if_pos (by decide), if_pos (by decide), if_neg (by decide)]; rfl
  · rw [if_pos (by decide), if_pos (by decide), if_pos (by decide)]; rfl
/-- the settings as they are read: those seen are alike, the others are as at first -/
def SS (pr : Nat) (Mx Mm : Mem) : Prop := ∀ s, s < 9 → Mx (pr + 1) s = Mm 6 (sm s) ∧ ∃ y, loL.getD s 0 ≤ y ∧ y ≤ hiL.getD s 0 ∧ Mx (pr + 1) s = nI y
theorem p_settings (hp : pr = 7 ∨ pr = 20) : ∀ n t f1 f2 (Mx Mm : Mem) (seen had what : Int32) (S : Nat → Bool), t + n = 9 → n + 3 ≤ f1 → n + 3 ≤ f2 → PS T L pr Mx Mm → (Mx 2 5 = 0 → ∃ b, OKb T L pr b Mx Mm ∧ what = nxS T L b) → (¬ Mx 2 5 = 0 → what = -1) → (∀ s, s < 9 → bit seen s = S s ∧ bit had (sm s) = S s) → cntF S 9 = n → (Mx 2 5 = 0 → SS pr Mx Mm) → ∃ Mx2 Mm2, loopC l_X2_parseSettings_4 f1 (seen, nI t, Mx) = some (0, Mx2) ∧ loopC l_X10_settings_7 f2 (had, what, Mm) = some (0, Mm2) ∧ PS T L pr Mx2 Mm2 ∧ (∀ c, c ≠ 2 → c ≠ pr + 1 → Mx2 c = Mx c) ∧ FM Mm Mm2 ∧ (∀ j, j < 3 ∨ 11 < j → Mm2 6 j = Mm 6 j) ∧ (Mx2 2 5 = 0 → Mx 2 5 = 0 ∧ SS pr Mx2 Mm2) := by
  have hp7 : 7 ≤ pr := by rcases hp with z | z <;> omega
  -- an error ends both
  have err : ∀ t f1 f2 (Mx Mm : Mem) (seen had : Int32), t < 1000 → ERe T L pr Mx Mm → loopC l_X2_parseSettings_4 (f1 + 1) (seen, nI t, Mx) = some (0, Mx) ∧ loopC l_X10_settings_7 (f2 + 1) (had, -1, Mm) = some (0, Mm) := by
    intro t f1 f2 Mx Mm seen had ht h
    constructor
    · show l_X2_parseSettings_4 _ (seen, nI t, Mx) = _
      simp only [l_X2_parseSettings_4, j_X2_parseSettings_28]
      rw [if_pos h.2.1]
      split <;> rfl
    · show l_X10_settings_7 _ (had, -1, Mm) = _
      simp only [l_X10_settings_7]
      rw [if_pos trivial]
  intro n
  induction n with
  | zero =>
    intro t f1 f2 Mx Mm seen had what S ht hf1 hf2 h hok her hm hc hSS
    obtain ⟨f1, rfl⟩ : ∃ k, f1 = k + 2 := ⟨f1 - 2, by omega⟩
    obtain ⟨f2, rfl⟩ : ∃ k, f2 = k + 2 := ⟨f2 - 2, by omega⟩
    have et : t = 9 := by omega
    subst et
    by_cases hz : Mx 2 5 = 0
    · obtain ⟨b, ob, hw⟩ := hok hz
      by_cases k9 : kd T L b < 9
      · -- all have been seen: this one is there twice
        have hS : S (kd T L b) = true := by
          apply Classical.byContradiction
          intro z
          have := (cntF_ins (S := S) (q := kd T L b) (bF z) 9).1 k9
          omega
        obtain ⟨m1, m2⟩ := hm _ k9
        obtain ⟨s1, s2, -⟩ := sm_ok _ k9
        obtain ⟨Mx2, Mm2, x1, mm1, o1, F1, G1⟩ := p_fail ob 3 (by decide)
        have e3 : Mx 2 3 = nI (kd T L b) := ob.2.2.2.2.2.2.2.1
        have e4 : Mx 2 4 = nI b := ob.2.2.2.2.2.2.2.2.1
        obtain ⟨y, X3, v3, M3, -, q3, P3, F3, G3, -, -, E3⟩ := p_num (l := loL.getD (kd T L b) 0) (hi := hiL.getD (kd T L b) 0) (H := nI (hiL.getD (kd T L b) 0)) (Or.inr o1) (by have := (st_lohi _ k9).2.2.2; omega) (st_lohi _ k9).2.2.1 (fun _ => rfl)
        have q3' : M3 = Mm2 ∧ v3 = nI (loL.getD (kd T L b) 0) := by
          have z : f_X10_figure (nI (loL.getD (kd T L b) 0)) (nI (hiL.getD (kd T L b) 0)) Mm2 = some (nI (loL.getD (kd T L b) 0), Mm2) := by
            unfold f_X10_figure
            rw [if_neg o1.w]
          rw [z] at q3
          have := Option.some.inj q3
          exact ⟨(congrArg Prod.snd this).symm, (congrArg Prod.fst this).symm⟩
        have o4 : ERe T L pr Mx2 (up Mm2 6 (sm (kd T L b)) (nI (loL.getD (kd T L b) 0))) := (PS.of (Mx := Mx2) (Mm := Mm2) (Or.inr o1) (fun _ _ => rfl) (fun c hc => up_a _ _ _ (by omega))).er o1.2.1
        refine ⟨Mx2, up Mm2 6 (sm (kd T L b)) (nI (loL.getD (kd T L b) 0)), ?_, ?_, Or.inr o4, fun c c1 c2 => F1 c c1, G1.m.up6, fun j hj => ?_, fun y => absurd y o1.2.1⟩
        · show l_X2_parseSettings_4 _ (seen, nI 9, Mx) = _
          simp only [l_X2_parseSettings_4]
          rw [if_neg (by decide), if_neg (fun z => z hz), e3, if_pos (show nI (kd T L b) < 9 from nI_lt (b := 9) k9 (by omega)), if_neg (bit_ne.mp (by rw [m1]; exact hS)), e4, x1, bnd_some]
        · show l_X10_settings_7 (loopC l_X10_settings_7 (f2 + 1)) (had, what, Mm) = _
          have ew : what = nI (sm (kd T L b)) := by rw [hw]; unfold nxS; rw [if_pos k9]
          rw [ew]
          simp only [l_X10_settings_7]
          rw [if_neg (ne_m1 (by omega)), if_neg (has_t (by rw [m2]; exact hS)), mm1, bnd_some]
          unfold j_X10_settings_25
          rw [if_pos o1.w, m_42 k9, q3, bnd_some, q3'.1, q3'.2]
          unfold j_X10_settings_98
          rw [if_pos (of_eq_true (inb_T (by first | omega | (unfold wdP; omega) | (unfold lnP; omega) | (unfold cl; omega)) (by omega))), ix_nI (by omega), wrt_def, m_signE o4, bnd_some]
          have em : f_X10_must 0 (up Mm2 6 (sm (kd T L b)) (nI (loL.getD (kd T L b) 0))) = some (0, up Mm2 6 (sm (kd T L b)) (nI (loL.getD (kd T L b) 0))) := by
            unfold f_X10_must j_X10_must_9
            rw [if_neg nn00, (p_fail2 o4 1 0).2, bnd_some]
          rw [em, bnd_some, m_settingE o4, bnd_some, (err 0 0 f2 _ _ 0 _ (by omega) o4).2]
        · rw [up_i _ _ (by omega), G1.1 6 (by decide)]
      · refine ⟨Mx, Mm, ?_, ?_, h, fun _ _ _ => rfl, FM.refl _, fun _ _ => rfl, fun _ => ⟨hz, hSS hz⟩⟩
        · have e3 : Mx 2 3 = nI (kd T L b) := ob.2.2.2.2.2.2.2.1
          have k33 := kd_le (T := T) (L := L) b
          show l_X2_parseSettings_4 _ (seen, nI 9, Mx) = _
          simp only [l_X2_parseSettings_4, j_X2_parseSettings_28]
          rw [if_neg (by decide), if_neg (fun z => z hz), e3, if_neg (show ¬ nI (kd T L b) < 9 from nI_nlt (b := 9) (by omega) (by omega))]
        · have ew : what = -1 := by rw [hw]; unfold nxS; rw [if_neg k9]
          show l_X10_settings_7 _ (had, what, Mm) = _
          rw [ew]
          simp only [l_X10_settings_7]
          rw [if_pos trivial]
    · rw [her hz]
      obtain ⟨r1, r2⟩ := err 9 (f1 + 1) (f2 + 1) Mx Mm seen had (by omega) (h.er hz)
      exact ⟨Mx, Mm, r1, r2, h, fun _ _ _ => rfl, FM.refl _, fun _ _ => rfl, fun y => absurd y hz⟩
  | succ n ih =>
    intro t f1 f2 Mx Mm seen had what S ht hf1 hf2 h hok her hm hc hSS
    obtain ⟨f1, rfl⟩ : ∃ k, f1 = k + 1 := ⟨f1 - 1, by omega⟩
    obtain ⟨f2, rfl⟩ : ∃ k, f2 = k + 1 := ⟨f2 - 1, by omega⟩
    by_cases hz : Mx 2 5 = 0
    · obtain ⟨b, ob, hw⟩ := hok hz
      have e3 : Mx 2 3 = nI (kd T L b) := ob.2.2.2.2.2.2.2.1
      have e4 : Mx 2 4 = nI b := ob.2.2.2.2.2.2.2.2.1
      have k33 := kd_le (T := T) (L := L) b
      by_cases k9 : kd T L b < 9
      · obtain ⟨m1, m2⟩ := hm _ k9
        obtain ⟨s1, s2, s3⟩ := sm_ok _ k9
        obtain ⟨lh1, lh2, lh3, lh4⟩ := st_lohi _ k9
        have ew : what = nI (sm (kd T L b)) := by rw [hw]; unfold nxS; rw [if_pos k9]
        by_cases hS : S (kd T L b) = true
        · -- it is there twice
          obtain ⟨Mx2, Mm2, x1, mm1, o1, F1, G1⟩ := p_fail ob 3 (by decide)
          have q3 : f_X10_figure (nI (loL.getD (kd T L b) 0)) (nI (hiL.getD (kd T L b) 0)) Mm2 = some (nI (loL.getD (kd T L b) 0), Mm2) := by
            unfold f_X10_figure
            rw [if_neg o1.w]
          have o4 : ERe T L pr Mx2 (up Mm2 6 (sm (kd T L b)) (nI (loL.getD (kd T L b) 0))) := (PS.of (Mx := Mx2) (Mm := Mm2) (Or.inr o1) (fun _ _ => rfl) (fun c hc => up_a _ _ _ (by omega))).er o1.2.1
          obtain ⟨f2, rfl⟩ : ∃ k, f2 = k + 1 := ⟨f2 - 1, by omega⟩
          refine ⟨Mx2, up Mm2 6 (sm (kd T L b)) (nI (loL.getD (kd T L b) 0)), ?_, ?_, Or.inr o4, fun c c1 c2 => F1 c c1, G1.m.up6, fun j hj => ?_, fun y => absurd y o1.2.1⟩
          · show l_X2_parseSettings_4 _ (seen, nI t, Mx) = _
            simp only [l_X2_parseSettings_4]
            rw [if_neg (show ¬ (9 : Int32) < nI t from nI_nlt (a := 9) (by omega) (by omega)), if_neg (fun z => z hz), e3, if_pos (show nI (kd T L b) < 9 from nI_lt (b := 9) k9 (by omega)), if_neg (bit_ne.mp (by rw [m1]; exact hS)), e4, x1, bnd_some]
          · show l_X10_settings_7 (loopC l_X10_settings_7 (f2 + 1)) (had, what, Mm) = _
            rw [ew]
            simp only [l_X10_settings_7]
            rw [if_neg (ne_m1 (by omega)), if_neg (has_t (by rw [m2]; exact hS)), mm1, bnd_some]
            unfold j_X10_settings_25
            rw [if_pos o1.w, m_42 k9, q3, bnd_some]
            unfold j_X10_settings_98
            rw [if_pos (of_eq_true (inb_T (by first | omega | (unfold wdP; omega) | (unfold lnP; omega) | (unfold cl; omega)) (by omega))), ix_nI (by omega), wrt_def, m_signE o4, bnd_some]
            have em : f_X10_must 0 (up Mm2 6 (sm (kd T L b)) (nI (loL.getD (kd T L b) 0))) = some (0, up Mm2 6 (sm (kd T L b)) (nI (loL.getD (kd T L b) 0))) := by
              unfold f_X10_must j_X10_must_9
              rw [if_neg nn00, (p_fail2 o4 1 0).2, bnd_some]
            rw [em, bnd_some, m_settingE o4, bnd_some, (err 0 0 f2 _ _ 0 _ (by omega) o4).2]
          · rw [up_i _ _ (by omega), G1.1 6 (by decide)]
        · -- it is taken
          have hS2 := bF hS
          obtain ⟨X1, M1, x1, mm1, o1, F1, G1⟩ := p_next ob (kdL_lt (show kd T L b ≠ 32 by omega))
          have P1 : PS T L pr X1 M1 := Or.inl ⟨_, o1⟩
          obtain ⟨y, X2, v2, M2, x2, mm2, P2, F2, G2, l2, u2, E2⟩ := p_num (l := loL.getD (kd T L b) 0) (hi := hiL.getD (kd T L b) 0) (H := nI (hiL.getD (kd T L b) 0)) P1 (by omega) lh3 (fun _ => rfl)
          have P2' := P2.up hp7 (c := pr + 1) (i := kd T L b) (k := sm (kd T L b)) (x := nI y) (y := v2) (by omega)
          obtain ⟨X3, v3, N3, M3, x3, q3, c3, P3, F3, G3, E3⟩ := p_sign (w := 30) P2' (by omega)
          have k1 := P1.blk hp
          have m32 : ∀ x : Int32, x ||| (1 <<< (nI (kd T L b) &&& 31)) = x ||| (1 <<< (nI (kd T L b) &&& 31)) := fun _ => rfl
          -- what comes next in the reference
          obtain ⟨what2, M3b, hs3, hw1, hw2⟩ : ∃ what2 M3b, f_X10_setting M3 = some (what2, M3b) ∧ (X3 2 5 = 0 → M3b = M3 ∧ ∃ b, OKb T L pr b X3 M3 ∧ what2 = nxS T L b) ∧ (¬ X3 2 5 = 0 → M3b = M3 ∧ what2 = -1) := by
            by_cases z : X3 2 5 = 0
            · obtain ⟨b3, ob3⟩ := P3.ok z
              exact ⟨_, _, m_setting ob3, fun _ => ⟨rfl, b3, ob3, rfl⟩, fun y => absurd z y⟩
            · exact ⟨_, _, m_settingE (P3.er z), fun y => absurd y z, fun _ => ⟨rfl, rfl⟩⟩
          have eb : M3b = M3 := by
            by_cases z : X3 2 5 = 0
            · exact (hw1 z).1
            · exact (hw2 z).1
          subst eb
          have x6 : X3 2 5 = 0 → X2 2 5 = 0 := fun z => by
            have := E3 z
            rw [up_a _ _ _ (by omega)] at this; exact this
          have r1 : X3 (pr + 1) = upd (Mx (pr + 1)) (kd T L b) (nI y) := by rw [F3 _ (by omega), up_row, F2 _ (by omega), F1 _ (by omega)]
          have r6 : M3b 6 = upd (Mm 6) (sm (kd T L b)) v2 := by rw [G3.1 6 (by decide), up_row, G2.1 6 (by decide), G1.1 6 (by decide)]
          have hSS3 : X3 2 5 = 0 → SS pr X3 M3b := fun z s hs => by
            obtain ⟨w1, w2⟩ := E2 (x6 z)
            rw [r1, r6]
            by_cases e : s = kd T L b
            · subst e
              rw [upd_eq, upd_eq, w2]
              exact ⟨rfl, y, l2, u2, rfl⟩
            · have e2 : sm s ≠ sm (kd T L b) := fun q => e (s3 s hs q)
              rw [upd_ne _ _ e, upd_ne _ _ e2]
              exact hSS hz s hs
          have hmk : ∀ s, s < 9 → bit (seen ||| (1 <<< (nI (kd T L b) &&& 31))) s = ins S (kd T L b) s ∧ bit (had ||| (1 <<< (nI (sm (kd T L b)) &&& 31))) (sm s) = ins S (kd T L b) s := by
            intro s hs
            obtain ⟨n1, n2⟩ := hm s hs
            have ss2 := sm_ok s hs
            rw [bit_or _ (by omega) (by omega), bit_or _ (by omega) (by omega), n1, n2]
            refine ⟨rfl, ?_⟩
            unfold ins
            by_cases e : s = kd T L b
            · rw [decide_eq_true e, decide_eq_true (by rw [e])]
            · rw [decide_eq_false e, decide_eq_false (fun q => e (s3 s hs q))]
          have hcn : cntF (ins S (kd T L b)) 9 = n := by
            have := (cntF_ins (S := S) (q := kd T L b) hS2 9).1 k9
            omega
          obtain ⟨X4, M4, a4, b4, P4, F4, G4, J4, E4⟩ := ih (t + 1) f1 f2 X3 M3b (seen ||| (1 <<< (nI (kd T L b) &&& 31))) (had ||| (1 <<< (nI (sm (kd T L b)) &&& 31))) what2 (ins S (kd T L b)) (by omega) (by omega) (by omega) P3 (fun z => (hw1 z).2) (fun z => (hw2 z).2) hmk hcn hSS3
          refine ⟨X4, M4, ?_, ?_, P4, fun c c1 c2 => ?_, ?_, fun j hj => ?_, fun z => ?_⟩
          · show l_X2_parseSettings_4 (loopC l_X2_parseSettings_4 f1) (seen, nI t, Mx) = _
            simp only [l_X2_parseSettings_4]
            have i0 : ix (nI (kd T L b)) = kd T L b := ix_nI (by omega)
            have tk : f_X2_take (nI (kd T L b)) Mx = some (0, X1) := by rw [x_takeT ob rfl, x1, bnd_some]
            have inn : inb (nI (kd T L b)) 9 := of_eq_true (inb_T k9 (by omega))
            have x2' : f_X2_takeNumber (statA 900 (ix (nI (kd T L b)))) (statA 901 (ix (nI (kd T L b)))) X1 = some (nI y, X2) := by rw [i0, lh1, lh2]; exact x2
            rw [if_neg (show ¬ (9 : Int32) < nI t from nI_nlt (a := 9) (by omega) (by omega)), if_neg (fun z => z hz), e3, if_pos (show nI (kd T L b) < 9 from nI_lt (b := 9) k9 (by omega)), if_pos (Classical.not_not.mp (fun q => by have := bit_ne.mpr q; rw [m1, hS2] at this; cases this)), tk, bnd_some, if_pos k1.1, if_pos inn, if_pos inn, x2', bnd_some, if_pos inn, k1.2, i0, wrt_def, show (30 : Int32) = nI 30 from rfl, x3, bnd_some, nI_1, a4]
          · show l_X10_settings_7 (loopC l_X10_settings_7 f2) (had, what, Mm) = _
            rw [ew]
            simp only [l_X10_settings_7]
            rw [if_neg (ne_m1 (by omega)), if_pos (Classical.not_not.mp (has_f (by rw [m2, hS2]; decide)))]
            unfold j_X10_settings_25
            rw [if_neg (fun z => z (wr0 ob.2.2.1)), mm1, bnd_some, m_42 k9, mm2, bnd_some]
            unfold j_X10_settings_98
            have q3' : f_X10_takesSign 59 (up M2 6 (sm (kd T L b)) v2) = some (v3, N3) := q3
            rw [if_pos (of_eq_true (inb_T (by first | omega | (unfold wdP; omega) | (unfold lnP; omega) | (unfold cl; omega)) (by omega))), ix_nI (by omega), wrt_def, q3', bnd_some, c3, bnd_some, hs3, bnd_some, b4]
          · rw [F4 c c1 c2, F3 c c1, up_a _ _ _ c2, F2 c c1, F1 c c1]
          · exact (((G1.m.trans G2.m).up6 (i := sm (kd T L b)) (x := v2)).trans G3.m).trans G4
          · rw [J4 j hj, r6, upd_ne _ _ (by omega)]
          · exact ⟨hz, (E4 z).2⟩
      · refine ⟨Mx, Mm, ?_, ?_, h, fun _ _ _ => rfl, FM.refl _, fun _ _ => rfl, fun _ => ⟨hz, hSS hz⟩⟩
        · show l_X2_parseSettings_4 _ (seen, nI t, Mx) = _
          simp only [l_X2_parseSettings_4, j_X2_parseSettings_28]
          rw [if_neg (show ¬ (9 : Int32) < nI t from nI_nlt (a := 9) (by omega) (by omega)), if_neg (fun z => z hz), e3, if_neg (show ¬ nI (kd T L b) < 9 from nI_nlt (b := 9) (by omega) (by omega))]
        · have ew : what = -1 := by rw [hw]; unfold nxS; rw [if_neg k9]
          show l_X10_settings_7 _ (had, what, Mm) = _
          rw [ew]
          simp only [l_X10_settings_7]
          rw [if_pos trivial]
    · rw [her hz]
      obtain ⟨r1, r2⟩ := err t f1 f2 Mx Mm seen had (by omega) (h.er hz)
      exact ⟨Mx, Mm, r1, r2, h, fun _ _ _ => rfl, FM.refl _, fun _ _ => rfl, fun y => absurd y hz⟩
end ST
