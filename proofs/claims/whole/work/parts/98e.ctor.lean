/-! ===== the constructors ===== -/
abbrev dfl0 : List Value := [.null, .int 0, .null, .int 0]
theorem dfl0_ok : ∀ j, j < 4 → defaultValue (tyX0 j) = vp_V dfl0 j := fun j hj => by rcases (show j = 0 ∨ j = 1 ∨ j = 2 ∨ j = 3 by omega) with rfl | rfl | rfl | rfl <;> rfl
abbrev mdX0_init : MD := (yX0_init, cX0_init, 1, none)
theorem mw_X0_init : mdW mdX0_init := ⟨wm_X0_init, w0_RX0, by decide, by decide⟩
theorem mn_X0_init : (parseMethodDescriptor yX0_init.desc).map (fun d => d.parameters.length) = some 0 := by decide +kernel
abbrev dfl1 : List Value := [.null, .null, .null, .null, .int 0, .int 0, .int 0]
theorem dfl1_ok : ∀ j, j < 7 → defaultValue (tyX1 j) = vp_V dfl1 j := fun j hj => by rcases (show j = 0 ∨ j = 1 ∨ j = 2 ∨ j = 3 ∨ j = 4 ∨ j = 5 ∨ j = 6 by omega) with rfl | rfl | rfl | rfl | rfl | rfl | rfl <;> rfl
abbrev mdX1_init : MD := (yX1_init, cX1_init, 1, none)
theorem mw_X1_init : mdW mdX1_init := ⟨wm_X1_init, w0_RX1, by decide, by decide⟩
theorem mn_X1_init : (parseMethodDescriptor yX1_init.desc).map (fun d => d.parameters.length) = some 0 := by decide +kernel
abbrev dfl2 : List Value := [.null, .null, .int 0, .int 0, .int 0, .int 0, .int 0]
theorem dfl2_ok : ∀ j, j < 7 → defaultValue (tyX2 j) = vp_V dfl2 j := fun j hj => by rcases (show j = 0 ∨ j = 1 ∨ j = 2 ∨ j = 3 ∨ j = 4 ∨ j = 5 ∨ j = 6 by omega) with rfl | rfl | rfl | rfl | rfl | rfl | rfl <;> rfl
abbrev mdX2_init : MD := (yX2_init, cX2_init, 1, none)
theorem mw_X2_init : mdW mdX2_init := ⟨wm_X2_init, w0_RX2, by decide, by decide⟩
theorem mn_X2_init : (parseMethodDescriptor yX2_init.desc).map (fun d => d.parameters.length) = some 0 := by decide +kernel
abbrev dfl3 : List Value := [.int 0, .int 0, .null, .null, .int 0, .null, .null, .null, .null, .null, .null]
theorem dfl3_ok : ∀ j, j < 11 → defaultValue (tyX3 j) = vp_V dfl3 j := fun j hj => by rcases (show j = 0 ∨ j = 1 ∨ j = 2 ∨ j = 3 ∨ j = 4 ∨ j = 5 ∨ j = 6 ∨ j = 7 ∨ j = 8 ∨ j = 9 ∨ j = 10 by omega) with rfl | rfl | rfl | rfl | rfl | rfl | rfl | rfl | rfl | rfl | rfl <;> rfl
abbrev mdX3_init : MD := (yX3_init, cX3_init, 2, none)
theorem mw_X3_init : mdW mdX3_init := ⟨wm_X3_init, w0_RX3, by decide, by decide⟩
theorem mn_X3_init : (parseMethodDescriptor yX3_init.desc).map (fun d => d.parameters.length) = some 0 := by decide +kernel
abbrev dfl4 : List Value := [.int 0, .int 0, .int 0, .null, .int 0, .int 0, .null, .null, .null, .null, .null, .null, .null, .null, .null, .null, .null]
theorem dfl4_ok : ∀ j, j < 17 → defaultValue (tyX4 j) = vp_V dfl4 j := fun j hj => by rcases (show j = 0 ∨ j = 1 ∨ j = 2 ∨ j = 3 ∨ j = 4 ∨ j = 5 ∨ j = 6 ∨ j = 7 ∨ j = 8 ∨ j = 9 ∨ j = 10 ∨ j = 11 ∨ j = 12 ∨ j = 13 ∨ j = 14 ∨ j = 15 ∨ j = 16 by omega) with rfl | rfl | rfl | rfl | rfl | rfl | rfl | rfl | rfl | rfl | rfl | rfl | rfl | rfl | rfl | rfl | rfl <;> rfl
abbrev mdX4_init : MD := (yX4_init, cX4_init, 1, none)
theorem mw_X4_init : mdW mdX4_init := ⟨wm_X4_init, w0_RX4, by decide, by decide⟩
theorem mn_X4_init : (parseMethodDescriptor yX4_init.desc).map (fun d => d.parameters.length) = some 0 := by decide +kernel
abbrev dfl5 : List Value := [.null, .null, .null, .null, .int 0]
theorem dfl5_ok : ∀ j, j < 5 → defaultValue (tyX5 j) = vp_V dfl5 j := fun j hj => by rcases (show j = 0 ∨ j = 1 ∨ j = 2 ∨ j = 3 ∨ j = 4 by omega) with rfl | rfl | rfl | rfl | rfl <;> rfl
abbrev mdX5_init : MD := (yX5_init, cX5_init, 1, none)
theorem mw_X5_init : mdW mdX5_init := ⟨wm_X5_init, w0_RX5, by decide, by decide⟩
theorem mn_X5_init : (parseMethodDescriptor yX5_init.desc).map (fun d => d.parameters.length) = some 0 := by decide +kernel
abbrev dfl6 : List Value := [.null, .null, .null, .null, .null, .null, .null]
theorem dfl6_ok : ∀ j, j < 7 → defaultValue (tyX6 j) = vp_V dfl6 j := fun j hj => by rcases (show j = 0 ∨ j = 1 ∨ j = 2 ∨ j = 3 ∨ j = 4 ∨ j = 5 ∨ j = 6 by omega) with rfl | rfl | rfl | rfl | rfl | rfl | rfl <;> rfl
abbrev mdX6_init : MD := (yX6_init, cX6_init, 1, none)
theorem mw_X6_init : mdW mdX6_init := ⟨wm_X6_init, w0_RX6, by decide, by decide⟩
theorem mn_X6_init : (parseMethodDescriptor yX6_init.desc).map (fun d => d.parameters.length) = some 0 := by decide +kernel
abbrev dfl7 : List Value := [.null, .null, .null, .int 0]
theorem dfl7_ok : ∀ j, j < 4 → defaultValue (tyX7 j) = vp_V dfl7 j := fun j hj => by rcases (show j = 0 ∨ j = 1 ∨ j = 2 ∨ j = 3 by omega) with rfl | rfl | rfl | rfl <;> rfl
abbrev mdX7_init : MD := (yX7_init, cX7_init, 1, none)
theorem mw_X7_init : mdW mdX7_init := ⟨wm_X7_init, w0_RX7, by decide, by decide⟩
theorem mn_X7_init : (parseMethodDescriptor yX7_init.desc).map (fun d => d.parameters.length) = some 0 := by decide +kernel
abbrev dfl8 : List Value := [.null, .null]
theorem dfl8_ok : ∀ j, j < 2 → defaultValue (tyX8 j) = vp_V dfl8 j := fun j hj => by rcases (show j = 0 ∨ j = 1 by omega) with rfl | rfl <;> rfl
abbrev mdX8_init : MD := (yX8_init, cX8_init, 1, none)
theorem mw_X8_init : mdW mdX8_init := ⟨wm_X8_init, w0_RX8, by decide, by decide⟩
theorem mn_X8_init : (parseMethodDescriptor yX8_init.desc).map (fun d => d.parameters.length) = some 0 := by decide +kernel
abbrev dfl9 : List Value := [.null, .int 0, .int 0, .int 0, .null, .null, .null, .null, .null, .null, .int 0, .null]
theorem dfl9_ok : ∀ j, j < 12 → defaultValue (tyX9 j) = vp_V dfl9 j := fun j hj => by rcases (show j = 0 ∨ j = 1 ∨ j = 2 ∨ j = 3 ∨ j = 4 ∨ j = 5 ∨ j = 6 ∨ j = 7 ∨ j = 8 ∨ j = 9 ∨ j = 10 ∨ j = 11 by omega) with rfl | rfl | rfl | rfl | rfl | rfl | rfl | rfl | rfl | rfl | rfl | rfl <;> rfl
abbrev mdX9_init : MD := (yX9_init, cX9_init, 1, none)
theorem mw_X9_init : mdW mdX9_init := ⟨wm_X9_init, w0_RX9, by decide, by decide⟩
theorem mn_X9_init : (parseMethodDescriptor yX9_init.desc).map (fun d => d.parameters.length) = some 0 := by decide +kernel
abbrev dfl10 : List Value := [.int 0, .null, .null, .null, .null, .null, .null, .null, .int 0, .int 0, .int 0, .int 0, .int 0, .int 0, .int 0, .int 0, .null, .int 0, .int 0, .null, .null, .null, .null, .null, .int 0]
theorem dfl10_ok : ∀ j, j < 25 → defaultValue (tyX10 j) = vp_V dfl10 j := fun j hj => by rcases (show j = 0 ∨ j = 1 ∨ j = 2 ∨ j = 3 ∨ j = 4 ∨ j = 5 ∨ j = 6 ∨ j = 7 ∨ j = 8 ∨ j = 9 ∨ j = 10 ∨ j = 11 ∨ j = 12 ∨ j = 13 ∨ j = 14 ∨ j = 15 ∨ j = 16 ∨ j = 17 ∨ j = 18 ∨ j = 19 ∨ j = 20 ∨ j = 21 ∨ j = 22 ∨ j = 23 ∨ j = 24 by omega) with rfl | rfl | rfl | rfl | rfl | rfl | rfl | rfl | rfl | rfl | rfl | rfl | rfl | rfl | rfl | rfl | rfl | rfl | rfl | rfl | rfl | rfl | rfl | rfl | rfl <;> rfl
abbrev mdX10_init : MD := (yX10_init, cX10_init, 1, none)
theorem mw_X10_init : mdW mdX10_init := ⟨wm_X10_init, w0_RX10, by decide, by decide⟩
theorem mn_X10_init : (parseMethodDescriptor yX10_init.desc).map (fun d => d.parameters.length) = some 0 := by decide +kernel
set_option maxRecDepth 100000 in
set_option maxHeartbeats 4000000 in
theorem ct_X0 : CtC mdX0_init 1 2 136 0 dfl0 blk0 := by
  refine ct_of (by decide) rfl rfl (by decide) (fun D arr a0 => ?_)
  have hE : blkE D arr a0 blk0 = .inr (0, [.ref (a0 + 1), .int 0, .ref (a0 + 2), .int 0]) :: ([] ++ [eI arr 16] ++ [eI arr 120]) := by
    rw [show blk0 = (0, 0) :: ([] ++ [(20, 16)] ++ [(20, 120)]) by decide +kernel]
    rw [blkE_cons]
    rw [blkE_at D arr (a := a0 + 1) (a2 := a0 + 2) (B := [] ++ [(20, 16)]) ([(20, 120)] : List Kd) (by first | rfl | (simp; done) | (simp; omega))]
    rw [blkE_at D arr (a := a0 + 1) (a2 := a0 + 1) (B := []) ([(20, 16)] : List Kd) (by first | rfl | (simp; done) | (simp; omega))]
    simp only [blkE_i, blkE_b, blkE_nil]
    rfl
  refine g_aload 0 dX0_init_0 rfl ?_
  refine g_objinit wl_RX0_3 dX0_init_1 (Nat.le_of_ble_eq_true rfl) (Nat.le_of_ble_eq_true rfl) ?_
  refine g_aload 0 dX0_init_4 rfl ?_
  refine g_bipush (v := 16) dX0_init_5 (by decide) ?_
  refine g_newi (N := 16) (q := a0 + 1) (E2 := .inr (0, [.null, .int 0, .null, .int 0]) :: ([] ++ [eI arr 16])) dX0_init_7 (by decide) (by decide) (by decide) (by first | (simp [blkE_len]; done) | (simp [blkE_len]; omega)) (Nat.le_of_ble_eq_true rfl) (Nat.le_of_ble_eq_true rfl) rfl ?_
  refine g_putF (ci := 0) (j := 0) (ref := "ProcessingMemory$Agenda") (t1 := (.array .int)) (fs2 := [.ref (a0 + 1), .int 0, .null, .int 0]) wc_0 tyX0_ok nmX0 rfl (by decide) wf_RX0_9 rfl rfl rfl (by decide +kernel) rfl rfl (by exact Nat.le_of_ble_eq_true rfl) rfl dX0_init_9 (by first | (simp [blkE_len]; done) | (simp [blkE_len]; omega)) ?_
  refine g_aload 0 dX0_init_12 rfl ?_
  refine g_bipush (v := 120) dX0_init_13 (by decide) ?_
  refine g_newi (N := 120) (q := a0 + 2) (E2 := .inr (0, [.ref (a0 + 1), .int 0, .null, .int 0]) :: (([] ++ [eI arr 16]) ++ [eI arr 120])) dX0_init_15 (by decide) (by decide) (by decide) (by first | (simp [blkE_len]; done) | (simp [blkE_len]; omega)) (Nat.le_of_ble_eq_true rfl) (Nat.le_of_ble_eq_true rfl) rfl ?_
  refine g_putF (ci := 0) (j := 2) (ref := "ProcessingMemory$Agenda") (t1 := (.array .int)) (fs2 := [.ref (a0 + 1), .int 0, .ref (a0 + 2), .int 0]) wc_0 tyX0_ok nmX0 rfl (by decide) wf_RX0_15 rfl rfl rfl (by decide +kernel) rfl rfl (by exact Nat.le_of_ble_eq_true rfl) rfl dX0_init_17 (by first | (simp [blkE_len]; done) | (simp [blkE_len]; omega)) ?_
  exact g_ret dX0_init_20 (by rw [hE]) (fun H h => by rw [hE]; exact h)
set_option maxRecDepth 100000 in
set_option maxHeartbeats 4000000 in
theorem ct_X1 : CtC mdX1_init 1 4 88 1 dfl1 blk1 := by
  refine ct_of (by decide) rfl rfl (by decide) (fun D arr a0 => ?_)
  have hE : blkE D arr a0 blk1 = .inr (1, [.ref (a0 + 1), .ref (a0 + 2), .ref (a0 + 3), .ref (a0 + 4), .int 0, .int 0, .int 0]) :: ([] ++ [eI arr 8] ++ [eB arr 8] ++ [eI arr 8] ++ [eI arr 64]) := by
    rw [show blk1 = (1, 0) :: ([] ++ [(20, 8)] ++ [(21, 8)] ++ [(20, 8)] ++ [(20, 64)]) by decide +kernel]
    rw [blkE_cons]
    rw [blkE_at D arr (a := a0 + 1) (a2 := a0 + 4) (B := [] ++ [(20, 8)] ++ [(21, 8)] ++ [(20, 8)]) ([(20, 64)] : List Kd) (by first | rfl | (simp; done) | (simp; omega))]
    rw [blkE_at D arr (a := a0 + 1) (a2 := a0 + 3) (B := [] ++ [(20, 8)] ++ [(21, 8)]) ([(20, 8)] : List Kd) (by first | rfl | (simp; done) | (simp; omega))]
    rw [blkE_at D arr (a := a0 + 1) (a2 := a0 + 2) (B := [] ++ [(20, 8)]) ([(21, 8)] : List Kd) (by first | rfl | (simp; done) | (simp; omega))]
    rw [blkE_at D arr (a := a0 + 1) (a2 := a0 + 1) (B := []) ([(20, 8)] : List Kd) (by first | rfl | (simp; done) | (simp; omega))]
    simp only [blkE_i, blkE_b, blkE_nil]
    rfl
  refine g_aload 0 dX1_init_0 rfl ?_
  refine g_objinit wl_RX1_3 dX1_init_1 (Nat.le_of_ble_eq_true rfl) (Nat.le_of_ble_eq_true rfl) ?_
  refine g_aload 0 dX1_init_4 rfl ?_
  refine g_bipush (v := 8) dX1_init_5 (by decide) ?_
  refine g_newi (N := 8) (q := a0 + 1) (E2 := .inr (1, [.null, .null, .null, .null, .int 0, .int 0, .int 0]) :: ([] ++ [eI arr 8])) dX1_init_7 (by decide) (by decide) (by decide) (by first | (simp [blkE_len]; done) | (simp [blkE_len]; omega)) (Nat.le_of_ble_eq_true rfl) (Nat.le_of_ble_eq_true rfl) rfl ?_
  refine g_putF (ci := 1) (j := 0) (ref := "ProcessingMemory$Cache") (t1 := (.array .int)) (fs2 := [.ref (a0 + 1), .null, .null, .null, .int 0, .int 0, .int 0]) wc_1 tyX1_ok nmX1 rfl (by decide) wf_RX1_9 rfl rfl rfl (by decide +kernel) rfl rfl (by exact Nat.le_of_ble_eq_true rfl) rfl dX1_init_9 (by first | (simp [blkE_len]; done) | (simp [blkE_len]; omega)) ?_
  refine g_aload 0 dX1_init_12 rfl ?_
  refine g_bipush (v := 8) dX1_init_13 (by decide) ?_
  refine g_newz (N := 8) (q := a0 + 2) (E2 := .inr (1, [.ref (a0 + 1), .null, .null, .null, .int 0, .int 0, .int 0]) :: (([] ++ [eI arr 8]) ++ [eB arr 8])) dX1_init_15 (by decide) (by decide) (by decide) (by first | (simp [blkE_len]; done) | (simp [blkE_len]; omega)) (Nat.le_of_ble_eq_true rfl) (Nat.le_of_ble_eq_true rfl) rfl ?_
  refine g_putF (ci := 1) (j := 1) (ref := "ProcessingMemory$Cache") (t1 := (.array .boolean)) (fs2 := [.ref (a0 + 1), .ref (a0 + 2), .null, .null, .int 0, .int 0, .int 0]) wc_1 tyX1_ok nmX1 rfl (by decide) wf_RX1_15 rfl rfl rfl (by decide +kernel) rfl rfl (by exact Nat.le_of_ble_eq_true rfl) rfl dX1_init_17 (by first | (simp [blkE_len]; done) | (simp [blkE_len]; omega)) ?_
  refine g_aload 0 dX1_init_20 rfl ?_
  refine g_bipush (v := 8) dX1_init_21 (by decide) ?_
  refine g_newi (N := 8) (q := a0 + 3) (E2 := .inr (1, [.ref (a0 + 1), .ref (a0 + 2), .null, .null, .int 0, .int 0, .int 0]) :: (([] ++ [eI arr 8] ++ [eB arr 8]) ++ [eI arr 8])) dX1_init_23 (by decide) (by decide) (by decide) (by first | (simp [blkE_len]; done) | (simp [blkE_len]; omega)) (Nat.le_of_ble_eq_true rfl) (Nat.le_of_ble_eq_true rfl) rfl ?_
  refine g_putF (ci := 1) (j := 2) (ref := "ProcessingMemory$Cache") (t1 := (.array .int)) (fs2 := [.ref (a0 + 1), .ref (a0 + 2), .ref (a0 + 3), .null, .int 0, .int 0, .int 0]) wc_1 tyX1_ok nmX1 rfl (by decide) wf_RX1_19 rfl rfl rfl (by decide +kernel) rfl rfl (by exact Nat.le_of_ble_eq_true rfl) rfl dX1_init_25 (by first | (simp [blkE_len]; done) | (simp [blkE_len]; omega)) ?_
  refine g_aload 0 dX1_init_28 rfl ?_
  refine g_bipush (v := 64) dX1_init_29 (by decide) ?_
  refine g_newi (N := 64) (q := a0 + 4) (E2 := .inr (1, [.ref (a0 + 1), .ref (a0 + 2), .ref (a0 + 3), .null, .int 0, .int 0, .int 0]) :: (([] ++ [eI arr 8] ++ [eB arr 8] ++ [eI arr 8]) ++ [eI arr 64])) dX1_init_31 (by decide) (by decide) (by decide) (by first | (simp [blkE_len]; done) | (simp [blkE_len]; omega)) (Nat.le_of_ble_eq_true rfl) (Nat.le_of_ble_eq_true rfl) rfl ?_
  refine g_putF (ci := 1) (j := 3) (ref := "ProcessingMemory$Cache") (t1 := (.array .int)) (fs2 := [.ref (a0 + 1), .ref (a0 + 2), .ref (a0 + 3), .ref (a0 + 4), .int 0, .int 0, .int 0]) wc_1 tyX1_ok nmX1 rfl (by decide) wf_RX1_22 rfl rfl rfl (by decide +kernel) rfl rfl (by exact Nat.le_of_ble_eq_true rfl) rfl dX1_init_33 (by first | (simp [blkE_len]; done) | (simp [blkE_len]; omega)) ?_
  exact g_ret dX1_init_36 (by rw [hE]) (fun H h => by rw [hE]; exact h)
set_option maxRecDepth 100000 in
set_option maxHeartbeats 4000000 in
theorem ct_X4 : CtC mdX4_init 1 12 597 4 dfl4 blk4 := by
  refine ct_of (by decide) rfl rfl (by decide) (fun D arr a0 => ?_)
  have hE : blkE D arr a0 blk4 = .inr (4, [.int 0, .int 0, .int 0, .ref (a0 + 1), .int 0, .int 0, .ref (a0 + 2), .ref (a0 + 3), .ref (a0 + 4), .ref (a0 + 5), .ref (a0 + 6), .ref (a0 + 7), .ref (a0 + 8), .ref (a0 + 9), .ref (a0 + 10), .ref (a0 + 11), .ref (a0 + 12)]) :: ([] ++ [eI arr 9] ++ [eI arr 12] ++ [eI arr 12] ++ [eI arr 12] ++ [eI arr 60] ++ [eI arr 60] ++ [eI arr 60] ++ [eI arr 60] ++ [eI arr 60] ++ [eI arr 60] ++ [eI arr 96] ++ [eI arr 96]) := by
    rw [show blk4 = (4, 0) :: ([] ++ [(20, 9)] ++ [(20, 12)] ++ [(20, 12)] ++ [(20, 12)] ++ [(20, 60)] ++ [(20, 60)] ++ [(20, 60)] ++ [(20, 60)] ++ [(20, 60)] ++ [(20, 60)] ++ [(20, 96)] ++ [(20, 96)]) by decide +kernel]
    rw [blkE_cons]
    rw [blkE_at D arr (a := a0 + 1) (a2 := a0 + 12) (B := [] ++ [(20, 9)] ++ [(20, 12)] ++ [(20, 12)] ++ [(20, 12)] ++ [(20, 60)] ++ [(20, 60)] ++ [(20, 60)] ++ [(20, 60)] ++ [(20, 60)] ++ [(20, 60)] ++ [(20, 96)]) ([(20, 96)] : List Kd) (by first | rfl | (simp; done) | (simp; omega))]
    rw [blkE_at D arr (a := a0 + 1) (a2 := a0 + 11) (B := [] ++ [(20, 9)] ++ [(20, 12)] ++ [(20, 12)] ++ [(20, 12)] ++ [(20, 60)] ++ [(20, 60)] ++ [(20, 60)] ++ [(20, 60)] ++ [(20, 60)] ++ [(20, 60)]) ([(20, 96)] : List Kd) (by first | rfl | (simp; done) | (simp; omega))]
    rw [blkE_at D arr (a := a0 + 1) (a2 := a0 + 10) (B := [] ++ [(20, 9)] ++ [(20, 12)] ++ [(20, 12)] ++ [(20, 12)] ++ [(20, 60)] ++ [(20, 60)] ++ [(20, 60)] ++ [(20, 60)] ++ [(20, 60)]) ([(20, 60)] : List Kd) (by first | rfl | (simp; done) | (simp; omega))]
    rw [blkE_at D arr (a := a0 + 1) (a2 := a0 + 9) (B := [] ++ [(20, 9)] ++ [(20, 12)] ++ [(20, 12)] ++ [(20, 12)] ++ [(20, 60)] ++ [(20, 60)] ++ [(20, 60)] ++ [(20, 60)]) ([(20, 60)] : List Kd) (by first | rfl | (simp; done) | (simp; omega))]
    rw [blkE_at D arr (a := a0 + 1) (a2 := a0 + 8) (B := [] ++ [(20, 9)] ++ [(20, 12)] ++ [(20, 12)] ++ [(20, 12)] ++ [(20, 60)] ++ [(20, 60)] ++ [(20, 60)]) ([(20, 60)] : List Kd) (by first | rfl | (simp; done) | (simp; omega))]
    rw [blkE_at D arr (a := a0 + 1) (a2 := a0 + 7) (B := [] ++ [(20, 9)] ++ [(20, 12)] ++ [(20, 12)] ++ [(20, 12)] ++ [(20, 60)] ++ [(20, 60)]) ([(20, 60)] : List Kd) (by first | rfl | (simp; done) | (simp; omega))]
    rw [blkE_at D arr (a := a0 + 1) (a2 := a0 + 6) (B := [] ++ [(20, 9)] ++ [(20, 12)] ++ [(20, 12)] ++ [(20, 12)] ++ [(20, 60)]) ([(20, 60)] : List Kd) (by first | rfl | (simp; done) | (simp; omega))]
    rw [blkE_at D arr (a := a0 + 1) (a2 := a0 + 5) (B := [] ++ [(20, 9)] ++ [(20, 12)] ++ [(20, 12)] ++ [(20, 12)]) ([(20, 60)] : List Kd) (by first | rfl | (simp; done) | (simp; omega))]
    rw [blkE_at D arr (a := a0 + 1) (a2 := a0 + 4) (B := [] ++ [(20, 9)] ++ [(20, 12)] ++ [(20, 12)]) ([(20, 12)] : List Kd) (by first | rfl | (simp; done) | (simp; omega))]
    rw [blkE_at D arr (a := a0 + 1) (a2 := a0 + 3) (B := [] ++ [(20, 9)] ++ [(20, 12)]) ([(20, 12)] : List Kd) (by first | rfl | (simp; done) | (simp; omega))]
    rw [blkE_at D arr (a := a0 + 1) (a2 := a0 + 2) (B := [] ++ [(20, 9)]) ([(20, 12)] : List Kd) (by first | rfl | (simp; done) | (simp; omega))]
    rw [blkE_at D arr (a := a0 + 1) (a2 := a0 + 1) (B := []) ([(20, 9)] : List Kd) (by first | rfl | (simp; done) | (simp; omega))]
    simp only [blkE_i, blkE_b, blkE_nil]
    rfl
  refine g_aload 0 dX4_init_0 rfl ?_
  refine g_objinit wl_RX4_3 dX4_init_1 (Nat.le_of_ble_eq_true rfl) (Nat.le_of_ble_eq_true rfl) ?_
  refine g_aload 0 dX4_init_4 rfl ?_
  refine g_bipush (v := 9) dX4_init_5 (by decide) ?_
  refine g_newi (N := 9) (q := a0 + 1) (E2 := .inr (4, [.int 0, .int 0, .int 0, .null, .int 0, .int 0, .null, .null, .null, .null, .null, .null, .null, .null, .null, .null, .null]) :: ([] ++ [eI arr 9])) dX4_init_7 (by decide) (by decide) (by decide) (by first | (simp [blkE_len]; done) | (simp [blkE_len]; omega)) (Nat.le_of_ble_eq_true rfl) (Nat.le_of_ble_eq_true rfl) rfl ?_
  refine g_putF (ci := 4) (j := 3) (ref := "ProcessingMemory$Program") (t1 := (.array .int)) (fs2 := [.int 0, .int 0, .int 0, .ref (a0 + 1), .int 0, .int 0, .null, .null, .null, .null, .null, .null, .null, .null, .null, .null, .null]) wc_4 tyX4_ok nmX4 rfl (by decide) wf_RX4_9 rfl rfl rfl (by decide +kernel) rfl rfl (by exact Nat.le_of_ble_eq_true rfl) rfl dX4_init_9 (by first | (simp [blkE_len]; done) | (simp [blkE_len]; omega)) ?_
  refine g_aload 0 dX4_init_12 rfl ?_
  refine g_bipush (v := 12) dX4_init_13 (by decide) ?_
  refine g_newi (N := 12) (q := a0 + 2) (E2 := .inr (4, [.int 0, .int 0, .int 0, .ref (a0 + 1), .int 0, .int 0, .null, .null, .null, .null, .null, .null, .null, .null, .null, .null, .null]) :: (([] ++ [eI arr 9]) ++ [eI arr 12])) dX4_init_15 (by decide) (by decide) (by decide) (by first | (simp [blkE_len]; done) | (simp [blkE_len]; omega)) (Nat.le_of_ble_eq_true rfl) (Nat.le_of_ble_eq_true rfl) rfl ?_
  refine g_putF (ci := 4) (j := 6) (ref := "ProcessingMemory$Program") (t1 := (.array .int)) (fs2 := [.int 0, .int 0, .int 0, .ref (a0 + 1), .int 0, .int 0, .ref (a0 + 2), .null, .null, .null, .null, .null, .null, .null, .null, .null, .null]) wc_4 tyX4_ok nmX4 rfl (by decide) wf_RX4_15 rfl rfl rfl (by decide +kernel) rfl rfl (by exact Nat.le_of_ble_eq_true rfl) rfl dX4_init_17 (by first | (simp [blkE_len]; done) | (simp [blkE_len]; omega)) ?_
  refine g_aload 0 dX4_init_20 rfl ?_
  refine g_bipush (v := 12) dX4_init_21 (by decide) ?_
  refine g_newi (N := 12) (q := a0 + 3) (E2 := .inr (4, [.int 0, .int 0, .int 0, .ref (a0 + 1), .int 0, .int 0, .ref (a0 + 2), .null, .null, .null, .null, .null, .null, .null, .null, .null, .null]) :: (([] ++ [eI arr 9] ++ [eI arr 12]) ++ [eI arr 12])) dX4_init_23 (by decide) (by decide) (by decide) (by first | (simp [blkE_len]; done) | (simp [blkE_len]; omega)) (Nat.le_of_ble_eq_true rfl) (Nat.le_of_ble_eq_true rfl) rfl ?_
  refine g_putF (ci := 4) (j := 7) (ref := "ProcessingMemory$Program") (t1 := (.array .int)) (fs2 := [.int 0, .int 0, .int 0, .ref (a0 + 1), .int 0, .int 0, .ref (a0 + 2), .ref (a0 + 3), .null, .null, .null, .null, .null, .null, .null, .null, .null]) wc_4 tyX4_ok nmX4 rfl (by decide) wf_RX4_18 rfl rfl rfl (by decide +kernel) rfl rfl (by exact Nat.le_of_ble_eq_true rfl) rfl dX4_init_25 (by first | (simp [blkE_len]; done) | (simp [blkE_len]; omega)) ?_
  refine g_aload 0 dX4_init_28 rfl ?_
  refine g_bipush (v := 12) dX4_init_29 (by decide) ?_
  refine g_newi (N := 12) (q := a0 + 4) (E2 := .inr (4, [.int 0, .int 0, .int 0, .ref (a0 + 1), .int 0, .int 0, .ref (a0 + 2), .ref (a0 + 3), .null, .null, .null, .null, .null, .null, .null, .null, .null]) :: (([] ++ [eI arr 9] ++ [eI arr 12] ++ [eI arr 12]) ++ [eI arr 12])) dX4_init_31 (by decide) (by decide) (by decide) (by first | (simp [blkE_len]; done) | (simp [blkE_len]; omega)) (Nat.le_of_ble_eq_true rfl) (Nat.le_of_ble_eq_true rfl) rfl ?_
  refine g_putF (ci := 4) (j := 8) (ref := "ProcessingMemory$Program") (t1 := (.array .int)) (fs2 := [.int 0, .int 0, .int 0, .ref (a0 + 1), .int 0, .int 0, .ref (a0 + 2), .ref (a0 + 3), .ref (a0 + 4), .null, .null, .null, .null, .null, .null, .null, .null]) wc_4 tyX4_ok nmX4 rfl (by decide) wf_RX4_21 rfl rfl rfl (by decide +kernel) rfl rfl (by exact Nat.le_of_ble_eq_true rfl) rfl dX4_init_33 (by first | (simp [blkE_len]; done) | (simp [blkE_len]; omega)) ?_
  refine g_aload 0 dX4_init_36 rfl ?_
  refine g_bipush (v := 60) dX4_init_37 (by decide) ?_
  refine g_newi (N := 60) (q := a0 + 5) (E2 := .inr (4, [.int 0, .int 0, .int 0, .ref (a0 + 1), .int 0, .int 0, .ref (a0 + 2), .ref (a0 + 3), .ref (a0 + 4), .null, .null, .null, .null, .null, .null, .null, .null]) :: (([] ++ [eI arr 9] ++ [eI arr 12] ++ [eI arr 12] ++ [eI arr 12]) ++ [eI arr 60])) dX4_init_39 (by decide) (by decide) (by decide) (by first | (simp [blkE_len]; done) | (simp [blkE_len]; omega)) (Nat.le_of_ble_eq_true rfl) (Nat.le_of_ble_eq_true rfl) rfl ?_
  refine g_putF (ci := 4) (j := 9) (ref := "ProcessingMemory$Program") (t1 := (.array .int)) (fs2 := [.int 0, .int 0, .int 0, .ref (a0 + 1), .int 0, .int 0, .ref (a0 + 2), .ref (a0 + 3), .ref (a0 + 4), .ref (a0 + 5), .null, .null, .null, .null, .null, .null, .null]) wc_4 tyX4_ok nmX4 rfl (by decide) wf_RX4_24 rfl rfl rfl (by decide +kernel) rfl rfl (by exact Nat.le_of_ble_eq_true rfl) rfl dX4_init_41 (by first | (simp [blkE_len]; done) | (simp [blkE_len]; omega)) ?_
  refine g_aload 0 dX4_init_44 rfl ?_
  refine g_bipush (v := 60) dX4_init_45 (by decide) ?_
  refine g_newi (N := 60) (q := a0 + 6) (E2 := .inr (4, [.int 0, .int 0, .int 0, .ref (a0 + 1), .int 0, .int 0, .ref (a0 + 2), .ref (a0 + 3), .ref (a0 + 4), .ref (a0 + 5), .null, .null, .null, .null, .null, .null, .null]) :: (([] ++ [eI arr 9] ++ [eI arr 12] ++ [eI arr 12] ++ [eI arr 12] ++ [eI arr 60]) ++ [eI arr 60])) dX4_init_47 (by decide) (by decide) (by decide) (by first | (simp [blkE_len]; done) | (simp [blkE_len]; omega)) (Nat.le_of_ble_eq_true rfl) (Nat.le_of_ble_eq_true rfl) rfl ?_
  refine g_putF (ci := 4) (j := 10) (ref := "ProcessingMemory$Program") (t1 := (.array .int)) (fs2 := [.int 0, .int 0, .int 0, .ref (a0 + 1), .int 0, .int 0, .ref (a0 + 2), .ref (a0 + 3), .ref (a0 + 4), .ref (a0 + 5), .ref (a0 + 6), .null, .null, .null, .null, .null, .null]) wc_4 tyX4_ok nmX4 rfl (by decide) wf_RX4_27 rfl rfl rfl (by decide +kernel) rfl rfl (by exact Nat.le_of_ble_eq_true rfl) rfl dX4_init_49 (by first | (simp [blkE_len]; done) | (simp [blkE_len]; omega)) ?_
  refine g_aload 0 dX4_init_52 rfl ?_
  refine g_bipush (v := 60) dX4_init_53 (by decide) ?_
  refine g_newi (N := 60) (q := a0 + 7) (E2 := .inr (4, [.int 0, .int 0, .int 0, .ref (a0 + 1), .int 0, .int 0, .ref (a0 + 2), .ref (a0 + 3), .ref (a0 + 4), .ref (a0 + 5), .ref (a0 + 6), .null, .null, .null, .null, .null, .null]) :: (([] ++ [eI arr 9] ++ [eI arr 12] ++ [eI arr 12] ++ [eI arr 12] ++ [eI arr 60] ++ [eI arr 60]) ++ [eI arr 60])) dX4_init_55 (by decide) (by decide) (by decide) (by first | (simp [blkE_len]; done) | (simp [blkE_len]; omega)) (Nat.le_of_ble_eq_true rfl) (Nat.le_of_ble_eq_true rfl) rfl ?_
  refine g_putF (ci := 4) (j := 11) (ref := "ProcessingMemory$Program") (t1 := (.array .int)) (fs2 := [.int 0, .int 0, .int 0, .ref (a0 + 1), .int 0, .int 0, .ref (a0 + 2), .ref (a0 + 3), .ref (a0 + 4), .ref (a0 + 5), .ref (a0 + 6), .ref (a0 + 7), .null, .null, .null, .null, .null]) wc_4 tyX4_ok nmX4 rfl (by decide) wf_RX4_30 rfl rfl rfl (by decide +kernel) rfl rfl (by exact Nat.le_of_ble_eq_true rfl) rfl dX4_init_57 (by first | (simp [blkE_len]; done) | (simp [blkE_len]; omega)) ?_
  refine g_aload 0 dX4_init_60 rfl ?_
  refine g_bipush (v := 60) dX4_init_61 (by decide) ?_
  refine g_newi (N := 60) (q := a0 + 8) (E2 := .inr (4, [.int 0, .int 0, .int 0, .ref (a0 + 1), .int 0, .int 0, .ref (a0 + 2), .ref (a0 + 3), .ref (a0 + 4), .ref (a0 + 5), .ref (a0 + 6), .ref (a0 + 7), .null, .null, .null, .null, .null]) :: (([] ++ [eI arr 9] ++ [eI arr 12] ++ [eI arr 12] ++ [eI arr 12] ++ [eI arr 60] ++ [eI arr 60] ++ [eI arr 60]) ++ [eI arr 60])) dX4_init_63 (by decide) (by decide) (by decide) (by first | (simp [blkE_len]; done) | (simp [blkE_len]; omega)) (Nat.le_of_ble_eq_true rfl) (Nat.le_of_ble_eq_true rfl) rfl ?_
  refine g_putF (ci := 4) (j := 12) (ref := "ProcessingMemory$Program") (t1 := (.array .int)) (fs2 := [.int 0, .int 0, .int 0, .ref (a0 + 1), .int 0, .int 0, .ref (a0 + 2), .ref (a0 + 3), .ref (a0 + 4), .ref (a0 + 5), .ref (a0 + 6), .ref (a0 + 7), .ref (a0 + 8), .null, .null, .null, .null]) wc_4 tyX4_ok nmX4 rfl (by decide) wf_RX4_33 rfl rfl rfl (by decide +kernel) rfl rfl (by exact Nat.le_of_ble_eq_true rfl) rfl dX4_init_65 (by first | (simp [blkE_len]; done) | (simp [blkE_len]; omega)) ?_
  refine g_aload 0 dX4_init_68 rfl ?_
  refine g_bipush (v := 60) dX4_init_69 (by decide) ?_
  refine g_newi (N := 60) (q := a0 + 9) (E2 := .inr (4, [.int 0, .int 0, .int 0, .ref (a0 + 1), .int 0, .int 0, .ref (a0 + 2), .ref (a0 + 3), .ref (a0 + 4), .ref (a0 + 5), .ref (a0 + 6), .ref (a0 + 7), .ref (a0 + 8), .null, .null, .null, .null]) :: (([] ++ [eI arr 9] ++ [eI arr 12] ++ [eI arr 12] ++ [eI arr 12] ++ [eI arr 60] ++ [eI arr 60] ++ [eI arr 60] ++ [eI arr 60]) ++ [eI arr 60])) dX4_init_71 (by decide) (by decide) (by decide) (by first | (simp [blkE_len]; done) | (simp [blkE_len]; omega)) (Nat.le_of_ble_eq_true rfl) (Nat.le_of_ble_eq_true rfl) rfl ?_
  refine g_putF (ci := 4) (j := 13) (ref := "ProcessingMemory$Program") (t1 := (.array .int)) (fs2 := [.int 0, .int 0, .int 0, .ref (a0 + 1), .int 0, .int 0, .ref (a0 + 2), .ref (a0 + 3), .ref (a0 + 4), .ref (a0 + 5), .ref (a0 + 6), .ref (a0 + 7), .ref (a0 + 8), .ref (a0 + 9), .null, .null, .null]) wc_4 tyX4_ok nmX4 rfl (by decide) wf_RX4_36 rfl rfl rfl (by decide +kernel) rfl rfl (by exact Nat.le_of_ble_eq_true rfl) rfl dX4_init_73 (by first | (simp [blkE_len]; done) | (simp [blkE_len]; omega)) ?_
  refine g_aload 0 dX4_init_76 rfl ?_
  refine g_bipush (v := 60) dX4_init_77 (by decide) ?_
  refine g_newi (N := 60) (q := a0 + 10) (E2 := .inr (4, [.int 0, .int 0, .int 0, .ref (a0 + 1), .int 0, .int 0, .ref (a0 + 2), .ref (a0 + 3), .ref (a0 + 4), .ref (a0 + 5), .ref (a0 + 6), .ref (a0 + 7), .ref (a0 + 8), .ref (a0 + 9), .null, .null, .null]) :: (([] ++ [eI arr 9] ++ [eI arr 12] ++ [eI arr 12] ++ [eI arr 12] ++ [eI arr 60] ++ [eI arr 60] ++ [eI arr 60] ++ [eI arr 60] ++ [eI arr 60]) ++ [eI arr 60])) dX4_init_79 (by decide) (by decide) (by decide) (by first | (simp [blkE_len]; done) | (simp [blkE_len]; omega)) (Nat.le_of_ble_eq_true rfl) (Nat.le_of_ble_eq_true rfl) rfl ?_
  refine g_putF (ci := 4) (j := 14) (ref := "ProcessingMemory$Program") (t1 := (.array .int)) (fs2 := [.int 0, .int 0, .int 0, .ref (a0 + 1), .int 0, .int 0, .ref (a0 + 2), .ref (a0 + 3), .ref (a0 + 4), .ref (a0 + 5), .ref (a0 + 6), .ref (a0 + 7), .ref (a0 + 8), .ref (a0 + 9), .ref (a0 + 10), .null, .null]) wc_4 tyX4_ok nmX4 rfl (by decide) wf_RX4_39 rfl rfl rfl (by decide +kernel) rfl rfl (by exact Nat.le_of_ble_eq_true rfl) rfl dX4_init_81 (by first | (simp [blkE_len]; done) | (simp [blkE_len]; omega)) ?_
  refine g_aload 0 dX4_init_84 rfl ?_
  refine g_bipush (v := 96) dX4_init_85 (by decide) ?_
  refine g_newi (N := 96) (q := a0 + 11) (E2 := .inr (4, [.int 0, .int 0, .int 0, .ref (a0 + 1), .int 0, .int 0, .ref (a0 + 2), .ref (a0 + 3), .ref (a0 + 4), .ref (a0 + 5), .ref (a0 + 6), .ref (a0 + 7), .ref (a0 + 8), .ref (a0 + 9), .ref (a0 + 10), .null, .null]) :: (([] ++ [eI arr 9] ++ [eI arr 12] ++ [eI arr 12] ++ [eI arr 12] ++ [eI arr 60] ++ [eI arr 60] ++ [eI arr 60] ++ [eI arr 60] ++ [eI arr 60] ++ [eI arr 60]) ++ [eI arr 96])) dX4_init_87 (by decide) (by decide) (by decide) (by first | (simp [blkE_len]; done) | (simp [blkE_len]; omega)) (Nat.le_of_ble_eq_true rfl) (Nat.le_of_ble_eq_true rfl) rfl ?_
  refine g_putF (ci := 4) (j := 15) (ref := "ProcessingMemory$Program") (t1 := (.array .int)) (fs2 := [.int 0, .int 0, .int 0, .ref (a0 + 1), .int 0, .int 0, .ref (a0 + 2), .ref (a0 + 3), .ref (a0 + 4), .ref (a0 + 5), .ref (a0 + 6), .ref (a0 + 7), .ref (a0 + 8), .ref (a0 + 9), .ref (a0 + 10), .ref (a0 + 11), .null]) wc_4 tyX4_ok nmX4 rfl (by decide) wf_RX4_42 rfl rfl rfl (by decide +kernel) rfl rfl (by exact Nat.le_of_ble_eq_true rfl) rfl dX4_init_89 (by first | (simp [blkE_len]; done) | (simp [blkE_len]; omega)) ?_
  refine g_aload 0 dX4_init_92 rfl ?_
  refine g_bipush (v := 96) dX4_init_93 (by decide) ?_
  refine g_newi (N := 96) (q := a0 + 12) (E2 := .inr (4, [.int 0, .int 0, .int 0, .ref (a0 + 1), .int 0, .int 0, .ref (a0 + 2), .ref (a0 + 3), .ref (a0 + 4), .ref (a0 + 5), .ref (a0 + 6), .ref (a0 + 7), .ref (a0 + 8), .ref (a0 + 9), .ref (a0 + 10), .ref (a0 + 11), .null]) :: (([] ++ [eI arr 9] ++ [eI arr 12] ++ [eI arr 12] ++ [eI arr 12] ++ [eI arr 60] ++ [eI arr 60] ++ [eI arr 60] ++ [eI arr 60] ++ [eI arr 60] ++ [eI arr 60] ++ [eI arr 96]) ++ [eI arr 96])) dX4_init_95 (by decide) (by decide) (by decide) (by first | (simp [blkE_len]; done) | (simp [blkE_len]; omega)) (Nat.le_of_ble_eq_true rfl) (Nat.le_of_ble_eq_true rfl) rfl ?_
  refine g_putF (ci := 4) (j := 16) (ref := "ProcessingMemory$Program") (t1 := (.array .int)) (fs2 := [.int 0, .int 0, .int 0, .ref (a0 + 1), .int 0, .int 0, .ref (a0 + 2), .ref (a0 + 3), .ref (a0 + 4), .ref (a0 + 5), .ref (a0 + 6), .ref (a0 + 7), .ref (a0 + 8), .ref (a0 + 9), .ref (a0 + 10), .ref (a0 + 11), .ref (a0 + 12)]) wc_4 tyX4_ok nmX4 rfl (by decide) wf_RX4_45 rfl rfl rfl (by decide +kernel) rfl rfl (by exact Nat.le_of_ble_eq_true rfl) rfl dX4_init_97 (by first | (simp [blkE_len]; done) | (simp [blkE_len]; omega)) ?_
  exact g_ret dX4_init_100 (by rw [hE]) (fun H h => by rw [hE]; exact h)
set_option maxRecDepth 100000 in
set_option maxHeartbeats 4000000 in
theorem ct_X6 : CtC mdX6_init 1 7 160 6 dfl6 blk6 := by
  refine ct_of (by decide) rfl rfl (by decide) (fun D arr a0 => ?_)
  have hE : blkE D arr a0 blk6 = .inr (6, [.ref (a0 + 1), .ref (a0 + 2), .ref (a0 + 3), .ref (a0 + 4), .ref (a0 + 5), .ref (a0 + 6), .ref (a0 + 7)]) :: ([] ++ [eI arr 8] ++ [eI arr 32] ++ [eI arr 8] ++ [eI arr 8] ++ [eI arr 64] ++ [eI arr 32] ++ [eI arr 8]) := by
    rw [show blk6 = (6, 0) :: ([] ++ [(20, 8)] ++ [(20, 32)] ++ [(20, 8)] ++ [(20, 8)] ++ [(20, 64)] ++ [(20, 32)] ++ [(20, 8)]) by decide +kernel]
    rw [blkE_cons]
    rw [blkE_at D arr (a := a0 + 1) (a2 := a0 + 7) (B := [] ++ [(20, 8)] ++ [(20, 32)] ++ [(20, 8)] ++ [(20, 8)] ++ [(20, 64)] ++ [(20, 32)]) ([(20, 8)] : List Kd) (by first | rfl | (simp; done) | (simp; omega))]
    rw [blkE_at D arr (a := a0 + 1) (a2 := a0 + 6) (B := [] ++ [(20, 8)] ++ [(20, 32)] ++ [(20, 8)] ++ [(20, 8)] ++ [(20, 64)]) ([(20, 32)] : List Kd) (by first | rfl | (simp; done) | (simp; omega))]
    rw [blkE_at D arr (a := a0 + 1) (a2 := a0 + 5) (B := [] ++ [(20, 8)] ++ [(20, 32)] ++ [(20, 8)] ++ [(20, 8)]) ([(20, 64)] : List Kd) (by first | rfl | (simp; done) | (simp; omega))]
    rw [blkE_at D arr (a := a0 + 1) (a2 := a0 + 4) (B := [] ++ [(20, 8)] ++ [(20, 32)] ++ [(20, 8)]) ([(20, 8)] : List Kd) (by first | rfl | (simp; done) | (simp; omega))]
    rw [blkE_at D arr (a := a0 + 1) (a2 := a0 + 3) (B := [] ++ [(20, 8)] ++ [(20, 32)]) ([(20, 8)] : List Kd) (by first | rfl | (simp; done) | (simp; omega))]
    rw [blkE_at D arr (a := a0 + 1) (a2 := a0 + 2) (B := [] ++ [(20, 8)]) ([(20, 32)] : List Kd) (by first | rfl | (simp; done) | (simp; omega))]
    rw [blkE_at D arr (a := a0 + 1) (a2 := a0 + 1) (B := []) ([(20, 8)] : List Kd) (by first | rfl | (simp; done) | (simp; omega))]
    simp only [blkE_i, blkE_b, blkE_nil]
    rfl
  refine g_aload 0 dX6_init_0 rfl ?_
  refine g_objinit wl_RX6_3 dX6_init_1 (Nat.le_of_ble_eq_true rfl) (Nat.le_of_ble_eq_true rfl) ?_
  refine g_aload 0 dX6_init_4 rfl ?_
  refine g_bipush (v := 8) dX6_init_5 (by decide) ?_
  refine g_newi (N := 8) (q := a0 + 1) (E2 := .inr (6, [.null, .null, .null, .null, .null, .null, .null]) :: ([] ++ [eI arr 8])) dX6_init_7 (by decide) (by decide) (by decide) (by first | (simp [blkE_len]; done) | (simp [blkE_len]; omega)) (Nat.le_of_ble_eq_true rfl) (Nat.le_of_ble_eq_true rfl) rfl ?_
  refine g_putF (ci := 6) (j := 0) (ref := "ProcessingMemory$Times") (t1 := (.array .int)) (fs2 := [.ref (a0 + 1), .null, .null, .null, .null, .null, .null]) wc_6 tyX6_ok nmX6 rfl (by decide) wf_RX6_9 rfl rfl rfl (by decide +kernel) rfl rfl (by exact Nat.le_of_ble_eq_true rfl) rfl dX6_init_9 (by first | (simp [blkE_len]; done) | (simp [blkE_len]; omega)) ?_
  refine g_aload 0 dX6_init_12 rfl ?_
  refine g_bipush (v := 32) dX6_init_13 (by decide) ?_
  refine g_newi (N := 32) (q := a0 + 2) (E2 := .inr (6, [.ref (a0 + 1), .null, .null, .null, .null, .null, .null]) :: (([] ++ [eI arr 8]) ++ [eI arr 32])) dX6_init_15 (by decide) (by decide) (by decide) (by first | (simp [blkE_len]; done) | (simp [blkE_len]; omega)) (Nat.le_of_ble_eq_true rfl) (Nat.le_of_ble_eq_true rfl) rfl ?_
  refine g_putF (ci := 6) (j := 1) (ref := "ProcessingMemory$Times") (t1 := (.array .int)) (fs2 := [.ref (a0 + 1), .ref (a0 + 2), .null, .null, .null, .null, .null]) wc_6 tyX6_ok nmX6 rfl (by decide) wf_RX6_15 rfl rfl rfl (by decide +kernel) rfl rfl (by exact Nat.le_of_ble_eq_true rfl) rfl dX6_init_17 (by first | (simp [blkE_len]; done) | (simp [blkE_len]; omega)) ?_
  refine g_aload 0 dX6_init_20 rfl ?_
  refine g_bipush (v := 8) dX6_init_21 (by decide) ?_
  refine g_newi (N := 8) (q := a0 + 3) (E2 := .inr (6, [.ref (a0 + 1), .ref (a0 + 2), .null, .null, .null, .null, .null]) :: (([] ++ [eI arr 8] ++ [eI arr 32]) ++ [eI arr 8])) dX6_init_23 (by decide) (by decide) (by decide) (by first | (simp [blkE_len]; done) | (simp [blkE_len]; omega)) (Nat.le_of_ble_eq_true rfl) (Nat.le_of_ble_eq_true rfl) rfl ?_
  refine g_putF (ci := 6) (j := 2) (ref := "ProcessingMemory$Times") (t1 := (.array .int)) (fs2 := [.ref (a0 + 1), .ref (a0 + 2), .ref (a0 + 3), .null, .null, .null, .null]) wc_6 tyX6_ok nmX6 rfl (by decide) wf_RX6_18 rfl rfl rfl (by decide +kernel) rfl rfl (by exact Nat.le_of_ble_eq_true rfl) rfl dX6_init_25 (by first | (simp [blkE_len]; done) | (simp [blkE_len]; omega)) ?_
  refine g_aload 0 dX6_init_28 rfl ?_
  refine g_bipush (v := 8) dX6_init_29 (by decide) ?_
  refine g_newi (N := 8) (q := a0 + 4) (E2 := .inr (6, [.ref (a0 + 1), .ref (a0 + 2), .ref (a0 + 3), .null, .null, .null, .null]) :: (([] ++ [eI arr 8] ++ [eI arr 32] ++ [eI arr 8]) ++ [eI arr 8])) dX6_init_31 (by decide) (by decide) (by decide) (by first | (simp [blkE_len]; done) | (simp [blkE_len]; omega)) (Nat.le_of_ble_eq_true rfl) (Nat.le_of_ble_eq_true rfl) rfl ?_
  refine g_putF (ci := 6) (j := 3) (ref := "ProcessingMemory$Times") (t1 := (.array .int)) (fs2 := [.ref (a0 + 1), .ref (a0 + 2), .ref (a0 + 3), .ref (a0 + 4), .null, .null, .null]) wc_6 tyX6_ok nmX6 rfl (by decide) wf_RX6_21 rfl rfl rfl (by decide +kernel) rfl rfl (by exact Nat.le_of_ble_eq_true rfl) rfl dX6_init_33 (by first | (simp [blkE_len]; done) | (simp [blkE_len]; omega)) ?_
  refine g_aload 0 dX6_init_36 rfl ?_
  refine g_bipush (v := 64) dX6_init_37 (by decide) ?_
  refine g_newi (N := 64) (q := a0 + 5) (E2 := .inr (6, [.ref (a0 + 1), .ref (a0 + 2), .ref (a0 + 3), .ref (a0 + 4), .null, .null, .null]) :: (([] ++ [eI arr 8] ++ [eI arr 32] ++ [eI arr 8] ++ [eI arr 8]) ++ [eI arr 64])) dX6_init_39 (by decide) (by decide) (by decide) (by first | (simp [blkE_len]; done) | (simp [blkE_len]; omega)) (Nat.le_of_ble_eq_true rfl) (Nat.le_of_ble_eq_true rfl) rfl ?_
  refine g_putF (ci := 6) (j := 4) (ref := "ProcessingMemory$Times") (t1 := (.array .int)) (fs2 := [.ref (a0 + 1), .ref (a0 + 2), .ref (a0 + 3), .ref (a0 + 4), .ref (a0 + 5), .null, .null]) wc_6 tyX6_ok nmX6 rfl (by decide) wf_RX6_24 rfl rfl rfl (by decide +kernel) rfl rfl (by exact Nat.le_of_ble_eq_true rfl) rfl dX6_init_41 (by first | (simp [blkE_len]; done) | (simp [blkE_len]; omega)) ?_
  refine g_aload 0 dX6_init_44 rfl ?_
  refine g_bipush (v := 32) dX6_init_45 (by decide) ?_
  refine g_newi (N := 32) (q := a0 + 6) (E2 := .inr (6, [.ref (a0 + 1), .ref (a0 + 2), .ref (a0 + 3), .ref (a0 + 4), .ref (a0 + 5), .null, .null]) :: (([] ++ [eI arr 8] ++ [eI arr 32] ++ [eI arr 8] ++ [eI arr 8] ++ [eI arr 64]) ++ [eI arr 32])) dX6_init_47 (by decide) (by decide) (by decide) (by first | (simp [blkE_len]; done) | (simp [blkE_len]; omega)) (Nat.le_of_ble_eq_true rfl) (Nat.le_of_ble_eq_true rfl) rfl ?_
  refine g_putF (ci := 6) (j := 5) (ref := "ProcessingMemory$Times") (t1 := (.array .int)) (fs2 := [.ref (a0 + 1), .ref (a0 + 2), .ref (a0 + 3), .ref (a0 + 4), .ref (a0 + 5), .ref (a0 + 6), .null]) wc_6 tyX6_ok nmX6 rfl (by decide) wf_RX6_27 rfl rfl rfl (by decide +kernel) rfl rfl (by exact Nat.le_of_ble_eq_true rfl) rfl dX6_init_49 (by first | (simp [blkE_len]; done) | (simp [blkE_len]; omega)) ?_
  refine g_aload 0 dX6_init_52 rfl ?_
  refine g_bipush (v := 8) dX6_init_53 (by decide) ?_
  refine g_newi (N := 8) (q := a0 + 7) (E2 := .inr (6, [.ref (a0 + 1), .ref (a0 + 2), .ref (a0 + 3), .ref (a0 + 4), .ref (a0 + 5), .ref (a0 + 6), .null]) :: (([] ++ [eI arr 8] ++ [eI arr 32] ++ [eI arr 8] ++ [eI arr 8] ++ [eI arr 64] ++ [eI arr 32]) ++ [eI arr 8])) dX6_init_55 (by decide) (by decide) (by decide) (by first | (simp [blkE_len]; done) | (simp [blkE_len]; omega)) (Nat.le_of_ble_eq_true rfl) (Nat.le_of_ble_eq_true rfl) rfl ?_
  refine g_putF (ci := 6) (j := 6) (ref := "ProcessingMemory$Times") (t1 := (.array .int)) (fs2 := [.ref (a0 + 1), .ref (a0 + 2), .ref (a0 + 3), .ref (a0 + 4), .ref (a0 + 5), .ref (a0 + 6), .ref (a0 + 7)]) wc_6 tyX6_ok nmX6 rfl (by decide) wf_RX6_30 rfl rfl rfl (by decide +kernel) rfl rfl (by exact Nat.le_of_ble_eq_true rfl) rfl dX6_init_57 (by first | (simp [blkE_len]; done) | (simp [blkE_len]; omega)) ?_
  exact g_ret dX6_init_60 (by rw [hE]) (fun H h => by rw [hE]; exact h)
set_option maxRecDepth 100000 in
set_option maxHeartbeats 4000000 in
theorem ct_X7 : CtC mdX7_init 1 3 2703 7 dfl7 blk7 := by
  refine ct_of (by decide) rfl rfl (by decide) (fun D arr a0 => ?_)
  have hE : blkE D arr a0 blk7 = .inr (7, [.ref (a0 + 1), .ref (a0 + 2), .ref (a0 + 3), .int 0]) :: ([] ++ [eI arr 901] ++ [eI arr 901] ++ [eI arr 901]) := by
    rw [show blk7 = (7, 0) :: ([] ++ [(20, 901)] ++ [(20, 901)] ++ [(20, 901)]) by decide +kernel]
    rw [blkE_cons]
    rw [blkE_at D arr (a := a0 + 1) (a2 := a0 + 3) (B := [] ++ [(20, 901)] ++ [(20, 901)]) ([(20, 901)] : List Kd) (by first | rfl | (simp; done) | (simp; omega))]
    rw [blkE_at D arr (a := a0 + 1) (a2 := a0 + 2) (B := [] ++ [(20, 901)]) ([(20, 901)] : List Kd) (by first | rfl | (simp; done) | (simp; omega))]
    rw [blkE_at D arr (a := a0 + 1) (a2 := a0 + 1) (B := []) ([(20, 901)] : List Kd) (by first | rfl | (simp; done) | (simp; omega))]
    simp only [blkE_i, blkE_b, blkE_nil]
    rfl
  refine g_aload 0 dX7_init_0 rfl ?_
  refine g_objinit wl_RX7_3 dX7_init_1 (Nat.le_of_ble_eq_true rfl) (Nat.le_of_ble_eq_true rfl) ?_
  refine g_aload 0 dX7_init_4 rfl ?_
  refine g_sipush (v := 901) dX7_init_5 (by decide) ?_
  refine g_newi (N := 901) (q := a0 + 1) (E2 := .inr (7, [.null, .null, .null, .int 0]) :: ([] ++ [eI arr 901])) dX7_init_8 (by decide) (by decide) (by decide) (by first | (simp [blkE_len]; done) | (simp [blkE_len]; omega)) (Nat.le_of_ble_eq_true rfl) (Nat.le_of_ble_eq_true rfl) rfl ?_
  refine g_putF (ci := 7) (j := 0) (ref := "ProcessingMemory$Tokens") (t1 := (.array .int)) (fs2 := [.ref (a0 + 1), .null, .null, .int 0]) wc_7 tyX7_ok nmX7 rfl (by decide) wf_RX7_9 rfl rfl rfl (by decide +kernel) rfl rfl (by exact Nat.le_of_ble_eq_true rfl) rfl dX7_init_10 (by first | (simp [blkE_len]; done) | (simp [blkE_len]; omega)) ?_
  refine g_aload 0 dX7_init_13 rfl ?_
  refine g_sipush (v := 901) dX7_init_14 (by decide) ?_
  refine g_newi (N := 901) (q := a0 + 2) (E2 := .inr (7, [.ref (a0 + 1), .null, .null, .int 0]) :: (([] ++ [eI arr 901]) ++ [eI arr 901])) dX7_init_17 (by decide) (by decide) (by decide) (by first | (simp [blkE_len]; done) | (simp [blkE_len]; omega)) (Nat.le_of_ble_eq_true rfl) (Nat.le_of_ble_eq_true rfl) rfl ?_
  refine g_putF (ci := 7) (j := 1) (ref := "ProcessingMemory$Tokens") (t1 := (.array .int)) (fs2 := [.ref (a0 + 1), .ref (a0 + 2), .null, .int 0]) wc_7 tyX7_ok nmX7 rfl (by decide) wf_RX7_15 rfl rfl rfl (by decide +kernel) rfl rfl (by exact Nat.le_of_ble_eq_true rfl) rfl dX7_init_19 (by first | (simp [blkE_len]; done) | (simp [blkE_len]; omega)) ?_
  refine g_aload 0 dX7_init_22 rfl ?_
  refine g_sipush (v := 901) dX7_init_23 (by decide) ?_
  refine g_newi (N := 901) (q := a0 + 3) (E2 := .inr (7, [.ref (a0 + 1), .ref (a0 + 2), .null, .int 0]) :: (([] ++ [eI arr 901] ++ [eI arr 901]) ++ [eI arr 901])) dX7_init_26 (by decide) (by decide) (by decide) (by first | (simp [blkE_len]; done) | (simp [blkE_len]; omega)) (Nat.le_of_ble_eq_true rfl) (Nat.le_of_ble_eq_true rfl) rfl ?_
  refine g_putF (ci := 7) (j := 2) (ref := "ProcessingMemory$Tokens") (t1 := (.array .int)) (fs2 := [.ref (a0 + 1), .ref (a0 + 2), .ref (a0 + 3), .int 0]) wc_7 tyX7_ok nmX7 rfl (by decide) wf_RX7_18 rfl rfl rfl (by decide +kernel) rfl rfl (by exact Nat.le_of_ble_eq_true rfl) rfl dX7_init_28 (by first | (simp [blkE_len]; done) | (simp [blkE_len]; omega)) ?_
  exact g_ret dX7_init_31 (by rw [hE]) (fun H h => by rw [hE]; exact h)
set_option maxRecDepth 100000 in
set_option maxHeartbeats 4000000 in
theorem ct_X8 : CtC mdX8_init 1 2 1280 8 dfl8 blk8 := by
  refine ct_of (by decide) rfl rfl (by decide) (fun D arr a0 => ?_)
  have hE : blkE D arr a0 blk8 = .inr (8, [.ref (a0 + 1), .ref (a0 + 2)]) :: ([] ++ [eI arr 1024] ++ [eI arr 256]) := by
    rw [show blk8 = (8, 0) :: ([] ++ [(20, 1024)] ++ [(20, 256)]) by decide +kernel]
    rw [blkE_cons]
    rw [blkE_at D arr (a := a0 + 1) (a2 := a0 + 2) (B := [] ++ [(20, 1024)]) ([(20, 256)] : List Kd) (by first | rfl | (simp; done) | (simp; omega))]
    rw [blkE_at D arr (a := a0 + 1) (a2 := a0 + 1) (B := []) ([(20, 1024)] : List Kd) (by first | rfl | (simp; done) | (simp; omega))]
    simp only [blkE_i, blkE_b, blkE_nil]
    rfl
  refine g_aload 0 dX8_init_0 rfl ?_
  refine g_objinit wl_RX8_3 dX8_init_1 (Nat.le_of_ble_eq_true rfl) (Nat.le_of_ble_eq_true rfl) ?_
  refine g_aload 0 dX8_init_4 rfl ?_
  refine g_sipush (v := 1024) dX8_init_5 (by decide) ?_
  refine g_newi (N := 1024) (q := a0 + 1) (E2 := .inr (8, [.null, .null]) :: ([] ++ [eI arr 1024])) dX8_init_8 (by decide) (by decide) (by decide) (by first | (simp [blkE_len]; done) | (simp [blkE_len]; omega)) (Nat.le_of_ble_eq_true rfl) (Nat.le_of_ble_eq_true rfl) rfl ?_
  refine g_putF (ci := 8) (j := 0) (ref := "ProcessingMemory$Values") (t1 := (.array .int)) (fs2 := [.ref (a0 + 1), .null]) wc_8 tyX8_ok nmX8 rfl (by decide) wf_RX8_9 rfl rfl rfl (by decide +kernel) rfl rfl (by exact Nat.le_of_ble_eq_true rfl) rfl dX8_init_10 (by first | (simp [blkE_len]; done) | (simp [blkE_len]; omega)) ?_
  refine g_aload 0 dX8_init_13 rfl ?_
  refine g_sipush (v := 256) dX8_init_14 (by decide) ?_
  refine g_newi (N := 256) (q := a0 + 2) (E2 := .inr (8, [.ref (a0 + 1), .null]) :: (([] ++ [eI arr 1024]) ++ [eI arr 256])) dX8_init_17 (by decide) (by decide) (by decide) (by first | (simp [blkE_len]; done) | (simp [blkE_len]; omega)) (Nat.le_of_ble_eq_true rfl) (Nat.le_of_ble_eq_true rfl) rfl ?_
  refine g_putF (ci := 8) (j := 1) (ref := "ProcessingMemory$Values") (t1 := (.array .int)) (fs2 := [.ref (a0 + 1), .ref (a0 + 2)]) wc_8 tyX8_ok nmX8 rfl (by decide) wf_RX8_15 rfl rfl rfl (by decide +kernel) rfl rfl (by exact Nat.le_of_ble_eq_true rfl) rfl dX8_init_19 (by first | (simp [blkE_len]; done) | (simp [blkE_len]; omega)) ?_
  exact g_ret dX8_init_22 (by rw [hE]) (fun H h => by rw [hE]; exact h)
set_option maxRecDepth 100000 in
set_option maxHeartbeats 4000000 in
theorem ct_X2 : CtC mdX2_init 2 4 2707 2 dfl2 blk2 := by
  refine ct_of (by decide) rfl rfl (by decide) (fun D arr a0 => ?_)
  have hE : blkE D arr a0 blk2 = .inr (2, [.ref (a0 + 1), .null, .int 0, .int 0, .int 0, .int 0, .int 0]) :: ([] ++ blkE D arr (a0 + 1) blk7) := by
    rw [show blk2 = (2, 0) :: ([] ++ blk7) by decide +kernel]
    rw [blkE_cons]
    rw [blkE_at D arr (a := a0 + 1) (a2 := a0 + 1) (B := []) (blk7 : List Kd) (by first | rfl | (simp; done) | (simp; omega))]
    simp only [blkE_i, blkE_b, blkE_nil]
    rfl
  refine g_aload 0 dX2_init_0 rfl ?_
  refine g_objinit wl_RX2_3 dX2_init_1 (Nat.le_of_ble_eq_true rfl) (Nat.le_of_ble_eq_true rfl) ?_
  refine g_aload 0 dX2_init_4 rfl ?_
  refine g_new (ci := 7) (q := a0 + 1) (dfl := dfl7) (E2 := .inr (2, [.null, .null, .int 0, .int 0, .int 0, .int 0, .int 0]) :: ([] ++ [.inr (7, dfl7)])) wc_7 tyX7_ok wk_RX2_9 wn_RX7 w0_RX7 rfl dfl7_ok dX2_init_5 (by first | (simp [blkE_len]; done) | (simp [blkE_len]; omega)) (Nat.le_of_ble_eq_true rfl) (Nat.le_of_ble_eq_true rfl) rfl ?_
  refine g_dup dX2_init_8 ?_
  refine g_initN (R := rmd 2 (4, 2707)) (a0 := a0) (st := [.ref (a0 + 1), .ref (a0)]) (k := 1) (n := 4) (Es := .inr (2, [.null, .null, .int 0, .int 0, .int 0, .int 0, .int 0]) :: []) (q := a0 + 1) (E1 := .inr (2, [.null, .null, .int 0, .int 0, .int 0, .int 0, .int 0]) :: ([] ++ [.inr (7, dfl7)])) (E2 := .inr (2, [.null, .null, .int 0, .int 0, .int 0, .int 0, .int 0]) :: ([] ++ blkE D arr (a0 + 1) blk7)) ct_X7 rfl mw_X7_init wi_X7_init rfl mn_X7_init wl_RX2_11 (by exact Nat.le_of_ble_eq_true rfl) (by exact Nat.le_of_ble_eq_true rfl) (by exact Nat.le_of_ble_eq_true rfl) dX2_init_9 (by exact Nat.le_of_ble_eq_true rfl) (by first | (simp [blkE_len]; done) | (simp [blkE_len]; omega)) (by exact Nat.le_of_ble_eq_true rfl) (by exact Nat.le_of_ble_eq_true rfl) rfl rfl ?_
  refine g_putF (ci := 2) (j := 0) (ref := "ProcessingMemory$Parser") (t1 := (.object "ProcessingMemory$Tokens")) (fs2 := [.ref (a0 + 1), .null, .int 0, .int 0, .int 0, .int 0, .int 0]) wc_2 tyX2_ok nmX2 rfl (by decide) wf_RX2_12 rfl rfl rfl (by decide +kernel) rfl rfl (by exact Nat.le_of_ble_eq_true rfl) rfl dX2_init_12 (by first | (simp [blkE_len]; done) | (simp [blkE_len]; omega)) ?_
  exact g_ret dX2_init_15 (by rw [hE]) (fun H h => by rw [hE]; exact h)
set_option maxRecDepth 100000 in
set_option maxHeartbeats 4000000 in
theorem ct_X5 : CtC mdX5_init 2 19 1684 5 dfl5 blk5 := by
  refine ct_of (by decide) rfl rfl (by decide) (fun D arr a0 => ?_)
  have hE : blkE D arr a0 blk5 = .inr (5, [.ref (a0 + 1), .ref (a0 + 4), .ref (a0 + 12), .ref (a0 + 17), .int 0]) :: ([] ++ blkE D arr (a0 + 1) blk8 ++ blkE D arr (a0 + 4) blk6 ++ blkE D arr (a0 + 12) blk1 ++ blkE D arr (a0 + 17) blk0) := by
    rw [show blk5 = (5, 0) :: ([] ++ blk8 ++ blk6 ++ blk1 ++ blk0) by decide +kernel]
    rw [blkE_cons]
    rw [blkE_at D arr (a := a0 + 1) (a2 := a0 + 17) (B := [] ++ blk8 ++ blk6 ++ blk1) (blk0 : List Kd) (by first | rfl | (simp; done) | (simp; omega))]
    rw [blkE_at D arr (a := a0 + 1) (a2 := a0 + 12) (B := [] ++ blk8 ++ blk6) (blk1 : List Kd) (by first | rfl | (simp; done) | (simp; omega))]
    rw [blkE_at D arr (a := a0 + 1) (a2 := a0 + 4) (B := [] ++ blk8) (blk6 : List Kd) (by first | rfl | (simp; done) | (simp; omega))]
    rw [blkE_at D arr (a := a0 + 1) (a2 := a0 + 1) (B := []) (blk8 : List Kd) (by first | rfl | (simp; done) | (simp; omega))]
    simp only [blkE_i, blkE_b, blkE_nil]
    rfl
  refine g_aload 0 dX5_init_0 rfl ?_
  refine g_objinit wl_RX5_3 dX5_init_1 (Nat.le_of_ble_eq_true rfl) (Nat.le_of_ble_eq_true rfl) ?_
  refine g_aload 0 dX5_init_4 rfl ?_
  refine g_new (ci := 8) (q := a0 + 1) (dfl := dfl8) (E2 := .inr (5, [.null, .null, .null, .null, .int 0]) :: ([] ++ [.inr (8, dfl8)])) wc_8 tyX8_ok wk_RX5_9 wn_RX8 w0_RX8 rfl dfl8_ok dX5_init_5 (by first | (simp [blkE_len]; done) | (simp [blkE_len]; omega)) (Nat.le_of_ble_eq_true rfl) (Nat.le_of_ble_eq_true rfl) rfl ?_
  refine g_dup dX5_init_8 ?_
  refine g_initN (R := rmd 2 (19, 1684)) (a0 := a0) (st := [.ref (a0 + 1), .ref (a0)]) (k := 1) (n := 2) (Es := .inr (5, [.null, .null, .null, .null, .int 0]) :: []) (q := a0 + 1) (E1 := .inr (5, [.null, .null, .null, .null, .int 0]) :: ([] ++ [.inr (8, dfl8)])) (E2 := .inr (5, [.null, .null, .null, .null, .int 0]) :: ([] ++ blkE D arr (a0 + 1) blk8)) ct_X8 rfl mw_X8_init wi_X8_init rfl mn_X8_init wl_RX5_11 (by exact Nat.le_of_ble_eq_true rfl) (by exact Nat.le_of_ble_eq_true rfl) (by exact Nat.le_of_ble_eq_true rfl) dX5_init_9 (by exact Nat.le_of_ble_eq_true rfl) (by first | (simp [blkE_len]; done) | (simp [blkE_len]; omega)) (by exact Nat.le_of_ble_eq_true rfl) (by exact Nat.le_of_ble_eq_true rfl) rfl rfl ?_
  refine g_putF (ci := 5) (j := 0) (ref := "ProcessingMemory$State") (t1 := (.object "ProcessingMemory$Values")) (fs2 := [.ref (a0 + 1), .null, .null, .null, .int 0]) wc_5 tyX5_ok nmX5 rfl (by decide) wf_RX5_12 rfl rfl rfl (by decide +kernel) rfl rfl (by exact Nat.le_of_ble_eq_true rfl) rfl dX5_init_12 (by first | (simp [blkE_len]; done) | (simp [blkE_len]; omega)) ?_
  refine g_aload 0 dX5_init_15 rfl ?_
  refine g_new (ci := 6) (q := a0 + 4) (dfl := dfl6) (E2 := .inr (5, [.ref (a0 + 1), .null, .null, .null, .int 0]) :: (([] ++ blkE D arr (a0 + 1) blk8) ++ [.inr (6, dfl6)])) wc_6 tyX6_ok wk_RX5_18 wn_RX6 w0_RX6 rfl dfl6_ok dX5_init_16 (by first | (simp [blkE_len]; done) | (simp [blkE_len]; omega)) (Nat.le_of_ble_eq_true rfl) (Nat.le_of_ble_eq_true rfl) rfl ?_
  refine g_dup dX5_init_19 ?_
  refine g_initN (R := rmd 2 (19, 1684)) (a0 := a0) (st := [.ref (a0 + 4), .ref (a0)]) (k := 4) (n := 1289) (Es := .inr (5, [.ref (a0 + 1), .null, .null, .null, .int 0]) :: ([] ++ blkE D arr (a0 + 1) blk8)) (q := a0 + 4) (E1 := .inr (5, [.ref (a0 + 1), .null, .null, .null, .int 0]) :: (([] ++ blkE D arr (a0 + 1) blk8) ++ [.inr (6, dfl6)])) (E2 := .inr (5, [.ref (a0 + 1), .null, .null, .null, .int 0]) :: (([] ++ blkE D arr (a0 + 1) blk8) ++ blkE D arr (a0 + 4) blk6)) ct_X6 rfl mw_X6_init wi_X6_init rfl mn_X6_init wl_RX5_20 (by exact Nat.le_of_ble_eq_true rfl) (by exact Nat.le_of_ble_eq_true rfl) (by exact Nat.le_of_ble_eq_true rfl) dX5_init_20 (by exact Nat.le_of_ble_eq_true rfl) (by first | (simp [blkE_len]; done) | (simp [blkE_len]; omega)) (by exact Nat.le_of_ble_eq_true rfl) (by exact Nat.le_of_ble_eq_true rfl) rfl rfl ?_
  refine g_putF (ci := 5) (j := 1) (ref := "ProcessingMemory$State") (t1 := (.object "ProcessingMemory$Times")) (fs2 := [.ref (a0 + 1), .ref (a0 + 4), .null, .null, .int 0]) wc_5 tyX5_ok nmX5 rfl (by decide) wf_RX5_21 rfl rfl rfl (by decide +kernel) rfl rfl (by exact Nat.le_of_ble_eq_true rfl) rfl dX5_init_23 (by first | (simp [blkE_len]; done) | (simp [blkE_len]; omega)) ?_
  refine g_aload 0 dX5_init_26 rfl ?_
  refine g_new (ci := 1) (q := a0 + 12) (dfl := dfl1) (E2 := .inr (5, [.ref (a0 + 1), .ref (a0 + 4), .null, .null, .int 0]) :: (([] ++ blkE D arr (a0 + 1) blk8 ++ blkE D arr (a0 + 4) blk6) ++ [.inr (1, dfl1)])) wc_1 tyX1_ok wk_RX5_25 wn_RX1 w0_RX1 rfl dfl1_ok dX5_init_27 (by first | (simp [blkE_len]; done) | (simp [blkE_len]; omega)) (Nat.le_of_ble_eq_true rfl) (Nat.le_of_ble_eq_true rfl) rfl ?_
  refine g_dup dX5_init_30 ?_
  refine g_initN (R := rmd 2 (19, 1684)) (a0 := a0) (st := [.ref (a0 + 12), .ref (a0)]) (k := 12) (n := 1456) (Es := .inr (5, [.ref (a0 + 1), .ref (a0 + 4), .null, .null, .int 0]) :: ([] ++ blkE D arr (a0 + 1) blk8 ++ blkE D arr (a0 + 4) blk6)) (q := a0 + 12) (E1 := .inr (5, [.ref (a0 + 1), .ref (a0 + 4), .null, .null, .int 0]) :: (([] ++ blkE D arr (a0 + 1) blk8 ++ blkE D arr (a0 + 4) blk6) ++ [.inr (1, dfl1)])) (E2 := .inr (5, [.ref (a0 + 1), .ref (a0 + 4), .null, .null, .int 0]) :: (([] ++ blkE D arr (a0 + 1) blk8 ++ blkE D arr (a0 + 4) blk6) ++ blkE D arr (a0 + 12) blk1)) ct_X1 rfl mw_X1_init wi_X1_init rfl mn_X1_init wl_RX5_27 (by exact Nat.le_of_ble_eq_true rfl) (by exact Nat.le_of_ble_eq_true rfl) (by exact Nat.le_of_ble_eq_true rfl) dX5_init_31 (by exact Nat.le_of_ble_eq_true rfl) (by first | (simp [blkE_len]; done) | (simp [blkE_len]; omega)) (by exact Nat.le_of_ble_eq_true rfl) (by exact Nat.le_of_ble_eq_true rfl) rfl rfl ?_
  refine g_putF (ci := 5) (j := 2) (ref := "ProcessingMemory$State") (t1 := (.object "ProcessingMemory$Cache")) (fs2 := [.ref (a0 + 1), .ref (a0 + 4), .ref (a0 + 12), .null, .int 0]) wc_5 tyX5_ok nmX5 rfl (by decide) wf_RX5_28 rfl rfl rfl (by decide +kernel) rfl rfl (by exact Nat.le_of_ble_eq_true rfl) rfl dX5_init_34 (by first | (simp [blkE_len]; done) | (simp [blkE_len]; omega)) ?_
  refine g_aload 0 dX5_init_37 rfl ?_
  refine g_new (ci := 0) (q := a0 + 17) (dfl := dfl0) (E2 := .inr (5, [.ref (a0 + 1), .ref (a0 + 4), .ref (a0 + 12), .null, .int 0]) :: (([] ++ blkE D arr (a0 + 1) blk8 ++ blkE D arr (a0 + 4) blk6 ++ blkE D arr (a0 + 12) blk1) ++ [.inr (0, dfl0)])) wc_0 tyX0_ok wk_RX5_32 wn_RX0 w0_RX0 rfl dfl0_ok dX5_init_38 (by first | (simp [blkE_len]; done) | (simp [blkE_len]; omega)) (Nat.le_of_ble_eq_true rfl) (Nat.le_of_ble_eq_true rfl) rfl ?_
  refine g_dup dX5_init_41 ?_
  refine g_initN (R := rmd 2 (19, 1684)) (a0 := a0) (st := [.ref (a0 + 17), .ref (a0)]) (k := 17) (n := 1548) (Es := .inr (5, [.ref (a0 + 1), .ref (a0 + 4), .ref (a0 + 12), .null, .int 0]) :: ([] ++ blkE D arr (a0 + 1) blk8 ++ blkE D arr (a0 + 4) blk6 ++ blkE D arr (a0 + 12) blk1)) (q := a0 + 17) (E1 := .inr (5, [.ref (a0 + 1), .ref (a0 + 4), .ref (a0 + 12), .null, .int 0]) :: (([] ++ blkE D arr (a0 + 1) blk8 ++ blkE D arr (a0 + 4) blk6 ++ blkE D arr (a0 + 12) blk1) ++ [.inr (0, dfl0)])) (E2 := .inr (5, [.ref (a0 + 1), .ref (a0 + 4), .ref (a0 + 12), .null, .int 0]) :: (([] ++ blkE D arr (a0 + 1) blk8 ++ blkE D arr (a0 + 4) blk6 ++ blkE D arr (a0 + 12) blk1) ++ blkE D arr (a0 + 17) blk0)) ct_X0 rfl mw_X0_init wi_X0_init rfl mn_X0_init wl_RX5_34 (by exact Nat.le_of_ble_eq_true rfl) (by exact Nat.le_of_ble_eq_true rfl) (by exact Nat.le_of_ble_eq_true rfl) dX5_init_42 (by exact Nat.le_of_ble_eq_true rfl) (by first | (simp [blkE_len]; done) | (simp [blkE_len]; omega)) (by exact Nat.le_of_ble_eq_true rfl) (by exact Nat.le_of_ble_eq_true rfl) rfl rfl ?_
  refine g_putF (ci := 5) (j := 3) (ref := "ProcessingMemory$State") (t1 := (.object "ProcessingMemory$Agenda")) (fs2 := [.ref (a0 + 1), .ref (a0 + 4), .ref (a0 + 12), .ref (a0 + 17), .int 0]) wc_5 tyX5_ok nmX5 rfl (by decide) wf_RX5_35 rfl rfl rfl (by decide +kernel) rfl rfl (by exact Nat.le_of_ble_eq_true rfl) rfl dX5_init_45 (by first | (simp [blkE_len]; done) | (simp [blkE_len]; omega)) ?_
  exact g_ret dX5_init_48 (by rw [hE]) (fun H h => by rw [hE]; exact h)
set_option maxRecDepth 100000 in
set_option maxHeartbeats 4000000 in
theorem ct_X3 : CtC mdX3_init 2 62 1216 3 dfl3 blk3 := by
  refine ct_of (by decide) rfl rfl (by decide) (fun D arr a0 => ?_)
  have hE : blkE D arr a0 blk3 = (.inr (3, [.int 0, .int 0, .ref (a0 + 1), .ref (a0 + 2), .int 0, .ref (a0 + 3), .ref (a0 + 4), .ref (a0 + 5), .ref (a0 + 6), .null, .null]) :: ([] ++ [eI arr 6] ++ [eI arr 6] ++ [eI arr 6] ++ [eI arr 6] ++ [eI arr 16])) ++ eQ arr 3 7 (fun j => some (a0 + 6 + (0 + (1 + 8 * j)))) :: ([] ++ blkE D arr (a0 + 7) blk6 ++ blkE D arr (a0 + 15) blk6 ++ blkE D arr (a0 + 23) blk6 ++ blkE D arr (a0 + 31) blk6 ++ blkE D arr (a0 + 39) blk6 ++ blkE D arr (a0 + 47) blk6 ++ blkE D arr (a0 + 55) blk6) := by
    rw [show blk3 = (3, 0) :: (([] ++ [(20, 6)] ++ [(20, 6)] ++ [(20, 6)] ++ [(20, 6)] ++ [(20, 16)]) ++ ([(23, 7)] ++ ([] ++ blk6 ++ blk6 ++ blk6 ++ blk6 ++ blk6 ++ blk6 ++ blk6))) by decide +kernel]
    rw [blkE_cons]
    rw [blkE_at D arr (a := a0 + 1) (a2 := a0 + 6) (B := [] ++ [(20, 6)] ++ [(20, 6)] ++ [(20, 6)] ++ [(20, 6)] ++ [(20, 16)]) _ (by first | rfl | (simp; done) | (simp; omega))]
    rw [blkE_at D arr (a := a0 + 1) (a2 := a0 + 5) (B := [] ++ [(20, 6)] ++ [(20, 6)] ++ [(20, 6)] ++ [(20, 6)]) ([(20, 16)] : List Kd) (by first | rfl | (simp; done) | (simp; omega))]
    rw [blkE_at D arr (a := a0 + 1) (a2 := a0 + 4) (B := [] ++ [(20, 6)] ++ [(20, 6)] ++ [(20, 6)]) ([(20, 6)] : List Kd) (by first | rfl | (simp; done) | (simp; omega))]
    rw [blkE_at D arr (a := a0 + 1) (a2 := a0 + 3) (B := [] ++ [(20, 6)] ++ [(20, 6)]) ([(20, 6)] : List Kd) (by first | rfl | (simp; done) | (simp; omega))]
    rw [blkE_at D arr (a := a0 + 1) (a2 := a0 + 2) (B := [] ++ [(20, 6)]) ([(20, 6)] : List Kd) (by first | rfl | (simp; done) | (simp; omega))]
    rw [blkE_at D arr (a := a0 + 1) (a2 := a0 + 1) (B := []) ([(20, 6)] : List Kd) (by first | rfl | (simp; done) | (simp; omega))]
    rw [blkE_at D arr (a := a0 + 6) (a2 := a0 + 7) (B := [(23, 7)]) _ (by first | rfl | (simp; done) | (simp; omega))]
    rw [blkE_at D arr (a := a0 + 7) (a2 := a0 + 55) (B := [] ++ blk6 ++ blk6 ++ blk6 ++ blk6 ++ blk6 ++ blk6) (blk6 : List Kd) (by first | rfl | (simp; done) | (simp; omega))]
    rw [blkE_at D arr (a := a0 + 7) (a2 := a0 + 47) (B := [] ++ blk6 ++ blk6 ++ blk6 ++ blk6 ++ blk6) (blk6 : List Kd) (by first | rfl | (simp; done) | (simp; omega))]
    rw [blkE_at D arr (a := a0 + 7) (a2 := a0 + 39) (B := [] ++ blk6 ++ blk6 ++ blk6 ++ blk6) (blk6 : List Kd) (by first | rfl | (simp; done) | (simp; omega))]
    rw [blkE_at D arr (a := a0 + 7) (a2 := a0 + 31) (B := [] ++ blk6 ++ blk6 ++ blk6) (blk6 : List Kd) (by first | rfl | (simp; done) | (simp; omega))]
    rw [blkE_at D arr (a := a0 + 7) (a2 := a0 + 23) (B := [] ++ blk6 ++ blk6) (blk6 : List Kd) (by first | rfl | (simp; done) | (simp; omega))]
    rw [blkE_at D arr (a := a0 + 7) (a2 := a0 + 15) (B := [] ++ blk6) (blk6 : List Kd) (by first | rfl | (simp; done) | (simp; omega))]
    rw [blkE_at D arr (a := a0 + 7) (a2 := a0 + 7) (B := []) (blk6 : List Kd) (by first | rfl | (simp; done) | (simp; omega))]
    simp only [blkE_i, blkE_b, blkE_nil]
    rfl
  refine g_aload 0 dX3_init_0 rfl ?_
  refine g_objinit wl_RX3_3 dX3_init_1 (Nat.le_of_ble_eq_true rfl) (Nat.le_of_ble_eq_true rfl) ?_
  refine g_aload 0 dX3_init_4 rfl ?_
  refine g_bipush (v := 6) dX3_init_5 (by decide) ?_
  refine g_newi (N := 6) (q := a0 + 1) (E2 := .inr (3, [.int 0, .int 0, .null, .null, .int 0, .null, .null, .null, .null, .null, .null]) :: ([] ++ [eI arr 6])) dX3_init_7 (by decide) (by decide) (by decide) (by first | (simp [blkE_len]; done) | (simp [blkE_len]; omega)) (Nat.le_of_ble_eq_true rfl) (Nat.le_of_ble_eq_true rfl) rfl ?_
  refine g_putF (ci := 3) (j := 2) (ref := "ProcessingMemory$Planner") (t1 := (.array .int)) (fs2 := [.int 0, .int 0, .ref (a0 + 1), .null, .int 0, .null, .null, .null, .null, .null, .null]) wc_3 tyX3_ok nmX3 rfl (by decide) wf_RX3_9 rfl rfl rfl (by decide +kernel) rfl rfl (by exact Nat.le_of_ble_eq_true rfl) rfl dX3_init_9 (by first | (simp [blkE_len]; done) | (simp [blkE_len]; omega)) ?_
  refine g_aload 0 dX3_init_12 rfl ?_
  refine g_bipush (v := 6) dX3_init_13 (by decide) ?_
  refine g_newi (N := 6) (q := a0 + 2) (E2 := .inr (3, [.int 0, .int 0, .ref (a0 + 1), .null, .int 0, .null, .null, .null, .null, .null, .null]) :: (([] ++ [eI arr 6]) ++ [eI arr 6])) dX3_init_15 (by decide) (by decide) (by decide) (by first | (simp [blkE_len]; done) | (simp [blkE_len]; omega)) (Nat.le_of_ble_eq_true rfl) (Nat.le_of_ble_eq_true rfl) rfl ?_
  refine g_putF (ci := 3) (j := 3) (ref := "ProcessingMemory$Planner") (t1 := (.array .int)) (fs2 := [.int 0, .int 0, .ref (a0 + 1), .ref (a0 + 2), .int 0, .null, .null, .null, .null, .null, .null]) wc_3 tyX3_ok nmX3 rfl (by decide) wf_RX3_15 rfl rfl rfl (by decide +kernel) rfl rfl (by exact Nat.le_of_ble_eq_true rfl) rfl dX3_init_17 (by first | (simp [blkE_len]; done) | (simp [blkE_len]; omega)) ?_
  refine g_aload 0 dX3_init_20 rfl ?_
  refine g_bipush (v := 6) dX3_init_21 (by decide) ?_
  refine g_newi (N := 6) (q := a0 + 3) (E2 := .inr (3, [.int 0, .int 0, .ref (a0 + 1), .ref (a0 + 2), .int 0, .null, .null, .null, .null, .null, .null]) :: (([] ++ [eI arr 6] ++ [eI arr 6]) ++ [eI arr 6])) dX3_init_23 (by decide) (by decide) (by decide) (by first | (simp [blkE_len]; done) | (simp [blkE_len]; omega)) (Nat.le_of_ble_eq_true rfl) (Nat.le_of_ble_eq_true rfl) rfl ?_
  refine g_putF (ci := 3) (j := 5) (ref := "ProcessingMemory$Planner") (t1 := (.array .int)) (fs2 := [.int 0, .int 0, .ref (a0 + 1), .ref (a0 + 2), .int 0, .ref (a0 + 3), .null, .null, .null, .null, .null]) wc_3 tyX3_ok nmX3 rfl (by decide) wf_RX3_18 rfl rfl rfl (by decide +kernel) rfl rfl (by exact Nat.le_of_ble_eq_true rfl) rfl dX3_init_25 (by first | (simp [blkE_len]; done) | (simp [blkE_len]; omega)) ?_
  refine g_aload 0 dX3_init_28 rfl ?_
  refine g_bipush (v := 6) dX3_init_29 (by decide) ?_
  refine g_newi (N := 6) (q := a0 + 4) (E2 := .inr (3, [.int 0, .int 0, .ref (a0 + 1), .ref (a0 + 2), .int 0, .ref (a0 + 3), .null, .null, .null, .null, .null]) :: (([] ++ [eI arr 6] ++ [eI arr 6] ++ [eI arr 6]) ++ [eI arr 6])) dX3_init_31 (by decide) (by decide) (by decide) (by first | (simp [blkE_len]; done) | (simp [blkE_len]; omega)) (Nat.le_of_ble_eq_true rfl) (Nat.le_of_ble_eq_true rfl) rfl ?_
  refine g_putF (ci := 3) (j := 6) (ref := "ProcessingMemory$Planner") (t1 := (.array .int)) (fs2 := [.int 0, .int 0, .ref (a0 + 1), .ref (a0 + 2), .int 0, .ref (a0 + 3), .ref (a0 + 4), .null, .null, .null, .null]) wc_3 tyX3_ok nmX3 rfl (by decide) wf_RX3_21 rfl rfl rfl (by decide +kernel) rfl rfl (by exact Nat.le_of_ble_eq_true rfl) rfl dX3_init_33 (by first | (simp [blkE_len]; done) | (simp [blkE_len]; omega)) ?_
  refine g_aload 0 dX3_init_36 rfl ?_
  refine g_bipush (v := 16) dX3_init_37 (by decide) ?_
  refine g_newi (N := 16) (q := a0 + 5) (E2 := .inr (3, [.int 0, .int 0, .ref (a0 + 1), .ref (a0 + 2), .int 0, .ref (a0 + 3), .ref (a0 + 4), .null, .null, .null, .null]) :: (([] ++ [eI arr 6] ++ [eI arr 6] ++ [eI arr 6] ++ [eI arr 6]) ++ [eI arr 16])) dX3_init_39 (by decide) (by decide) (by decide) (by first | (simp [blkE_len]; done) | (simp [blkE_len]; omega)) (Nat.le_of_ble_eq_true rfl) (Nat.le_of_ble_eq_true rfl) rfl ?_
  refine g_putF (ci := 3) (j := 7) (ref := "ProcessingMemory$Planner") (t1 := (.array .int)) (fs2 := [.int 0, .int 0, .ref (a0 + 1), .ref (a0 + 2), .int 0, .ref (a0 + 3), .ref (a0 + 4), .ref (a0 + 5), .null, .null, .null]) wc_3 tyX3_ok nmX3 rfl (by decide) wf_RX3_24 rfl rfl rfl (by decide +kernel) rfl rfl (by exact Nat.le_of_ble_eq_true rfl) rfl dX3_init_41 (by first | (simp [blkE_len]; done) | (simp [blkE_len]; omega)) ?_
  refine g_aload 0 dX3_init_44 rfl ?_
  refine g_bipush (v := 7) dX3_init_45 (by decide) ?_
  refine g_newq (C := RX6) (N := 7) (q := a0 + 6) (t := 3) (E2 := .inr (3, [.int 0, .int 0, .ref (a0 + 1), .ref (a0 + 2), .int 0, .ref (a0 + 3), .ref (a0 + 4), .ref (a0 + 5), .null, .null, .null]) :: (([] ++ [eI arr 6] ++ [eI arr 6] ++ [eI arr 6] ++ [eI arr 6] ++ [eI arr 16]) ++ [eQ arr 3 7 (fun _ => none)])) wk_RX3_27 (fun s h => h.2.2) rfl dX3_init_47 (by decide) (by decide) (by decide) (by first | (simp [blkE_len]; done) | (simp [blkE_len]; omega)) (Nat.le_of_ble_eq_true rfl) (Nat.le_of_ble_eq_true rfl) rfl ?_
  refine g_putF (ci := 3) (j := 8) (ref := "ProcessingMemory$Planner") (t1 := (.array (.object "ProcessingMemory$Times"))) (fs2 := [.int 0, .int 0, .ref (a0 + 1), .ref (a0 + 2), .int 0, .ref (a0 + 3), .ref (a0 + 4), .ref (a0 + 5), .ref (a0 + 6), .null, .null]) wc_3 tyX3_ok nmX3 rfl (by decide) wf_RX3_29 rfl rfl rfl (by decide +kernel) rfl rfl (by exact Nat.le_of_ble_eq_true rfl) rfl dX3_init_50 (by first | (simp [blkE_len]; done) | (simp [blkE_len]; omega)) ?_
  refine g_iconst (v := 0) dX3_init_53 (by decide) ?_
  refine g_istore dX3_init_54 (by decide) (ls2 := [(1, .int 0), (0, .ref a0)]) rfl ?_
  refine g_iload 0 dX3_init_55 rfl ?_
  refine g_bipush (v := 6) dX3_init_56 (by decide) ?_
  refine g_gtF (tgt := 80) dX3_init_58 (by decide) (by decide) ?_
  refine g_aload 1 dX3_init_61 rfl ?_
  refine g_get (ci := 3) (j := 8) (ref := "ProcessingMemory$Planner") wc_3 rfl (by decide) wf_RX3_29 rfl rfl dX3_init_62 ?_
  refine g_iload 0 dX3_init_65 rfl ?_
  refine g_new (ci := 6) (q := a0 + 7) (dfl := dfl6) (E2 := .inr (3, [.int 0, .int 0, .ref (a0 + 1), .ref (a0 + 2), .int 0, .ref (a0 + 3), .ref (a0 + 4), .ref (a0 + 5), .ref (a0 + 6), .null, .null]) :: (([] ++ [eI arr 6] ++ [eI arr 6] ++ [eI arr 6] ++ [eI arr 6] ++ [eI arr 16] ++ [eQ arr 3 7 (fun _ => none)]) ++ [.inr (6, dfl6)])) wc_6 tyX6_ok wk_RX3_27 wn_RX6 w0_RX6 rfl dfl6_ok dX3_init_66 (by first | (simp [blkE_len]; done) | (simp [blkE_len]; omega)) (Nat.le_of_ble_eq_true rfl) (Nat.le_of_ble_eq_true rfl) rfl ?_
  refine g_dup dX3_init_69 ?_
  refine g_initN (R := rmd 2 (62, 1216)) (a0 := a0) (st := [.ref (a0 + 7), .int 0, .ref (a0 + 6)]) (k := 7) (n := 54) (Es := .inr (3, [.int 0, .int 0, .ref (a0 + 1), .ref (a0 + 2), .int 0, .ref (a0 + 3), .ref (a0 + 4), .ref (a0 + 5), .ref (a0 + 6), .null, .null]) :: ([] ++ [eI arr 6] ++ [eI arr 6] ++ [eI arr 6] ++ [eI arr 6] ++ [eI arr 16] ++ [eQ arr 3 7 (fun _ => none)])) (q := a0 + 7) (E1 := .inr (3, [.int 0, .int 0, .ref (a0 + 1), .ref (a0 + 2), .int 0, .ref (a0 + 3), .ref (a0 + 4), .ref (a0 + 5), .ref (a0 + 6), .null, .null]) :: (([] ++ [eI arr 6] ++ [eI arr 6] ++ [eI arr 6] ++ [eI arr 6] ++ [eI arr 16] ++ [eQ arr 3 7 (fun _ => none)]) ++ [.inr (6, dfl6)])) (E2 := .inr (3, [.int 0, .int 0, .ref (a0 + 1), .ref (a0 + 2), .int 0, .ref (a0 + 3), .ref (a0 + 4), .ref (a0 + 5), .ref (a0 + 6), .null, .null]) :: (([] ++ [eI arr 6] ++ [eI arr 6] ++ [eI arr 6] ++ [eI arr 6] ++ [eI arr 16] ++ [eQ arr 3 7 (fun _ => none)]) ++ blkE D arr (a0 + 7) blk6)) ct_X6 rfl mw_X6_init wi_X6_init rfl mn_X6_init wl_RX3_33 (by exact Nat.le_of_ble_eq_true rfl) (by exact Nat.le_of_ble_eq_true rfl) (by exact Nat.le_of_ble_eq_true rfl) dX3_init_70 (by exact Nat.le_of_ble_eq_true rfl) (by first | (simp [blkE_len]; done) | (simp [blkE_len]; omega)) (by exact Nat.le_of_ble_eq_true rfl) (by exact Nat.le_of_ble_eq_true rfl) rfl rfl ?_
  refine g_aast (r := (RX6, TX6, 7)) (iA := 6) (iV := 7) (t := 3) (N := 7) (ci := 6) (E2 := .inr (3, [.int 0, .int 0, .ref (a0 + 1), .ref (a0 + 2), .int 0, .ref (a0 + 3), .ref (a0 + 4), .ref (a0 + 5), .ref (a0 + 6), .null, .null]) :: ([] ++ [eI arr 6] ++ [eI arr 6] ++ [eI arr 6] ++ [eI arr 6] ++ [eI arr 16] ++ [eQ arr 3 7 (va_up (fun _ => none) 0 (some (a0 + 7)))] ++ blkE D arr (a0 + 7) blk6)) (by rfl) (by rfl) rfl rfl (by unfold vp_in; decide) (ii := 0) (by decide) (by rfl) (by first | (simp [blkE_len]; done) | (simp [blkE_len]; omega)) dX3_init_73 rfl rfl ?_
  refine g_iinc (v := 1) (ls2 := [(1, .int 1), (0, .ref a0)]) 0 dX3_init_74 rfl (by decide) (by decide) rfl ?_
  refine g_goto (tgt := 55) dX3_init_77 (by decide) ?_
  refine g_iload 0 dX3_init_55 rfl ?_
  refine g_bipush (v := 6) dX3_init_56 (by decide) ?_
  refine g_gtF (tgt := 80) dX3_init_58 (by decide) (by decide) ?_
  refine g_aload 1 dX3_init_61 rfl ?_
  refine g_get (ci := 3) (j := 8) (ref := "ProcessingMemory$Planner") wc_3 rfl (by decide) wf_RX3_29 rfl rfl dX3_init_62 ?_
  refine g_iload 0 dX3_init_65 rfl ?_
  refine g_new (ci := 6) (q := a0 + 15) (dfl := dfl6) (E2 := .inr (3, [.int 0, .int 0, .ref (a0 + 1), .ref (a0 + 2), .int 0, .ref (a0 + 3), .ref (a0 + 4), .ref (a0 + 5), .ref (a0 + 6), .null, .null]) :: (([] ++ [eI arr 6] ++ [eI arr 6] ++ [eI arr 6] ++ [eI arr 6] ++ [eI arr 16] ++ [eQ arr 3 7 (va_up (fun _ => none) 0 (some (a0 + 7)))] ++ blkE D arr (a0 + 7) blk6) ++ [.inr (6, dfl6)])) wc_6 tyX6_ok wk_RX3_27 wn_RX6 w0_RX6 rfl dfl6_ok dX3_init_66 (by first | (simp [blkE_len]; done) | (simp [blkE_len]; omega)) (Nat.le_of_ble_eq_true rfl) (Nat.le_of_ble_eq_true rfl) rfl ?_
  refine g_dup dX3_init_69 ?_
  refine g_initN (R := rmd 2 (62, 1216)) (a0 := a0) (st := [.ref (a0 + 15), .int 1, .ref (a0 + 6)]) (k := 15) (n := 221) (Es := .inr (3, [.int 0, .int 0, .ref (a0 + 1), .ref (a0 + 2), .int 0, .ref (a0 + 3), .ref (a0 + 4), .ref (a0 + 5), .ref (a0 + 6), .null, .null]) :: ([] ++ [eI arr 6] ++ [eI arr 6] ++ [eI arr 6] ++ [eI arr 6] ++ [eI arr 16] ++ [eQ arr 3 7 (va_up (fun _ => none) 0 (some (a0 + 7)))] ++ blkE D arr (a0 + 7) blk6)) (q := a0 + 15) (E1 := .inr (3, [.int 0, .int 0, .ref (a0 + 1), .ref (a0 + 2), .int 0, .ref (a0 + 3), .ref (a0 + 4), .ref (a0 + 5), .ref (a0 + 6), .null, .null]) :: (([] ++ [eI arr 6] ++ [eI arr 6] ++ [eI arr 6] ++ [eI arr 6] ++ [eI arr 16] ++ [eQ arr 3 7 (va_up (fun _ => none) 0 (some (a0 + 7)))] ++ blkE D arr (a0 + 7) blk6) ++ [.inr (6, dfl6)])) (E2 := .inr (3, [.int 0, .int 0, .ref (a0 + 1), .ref (a0 + 2), .int 0, .ref (a0 + 3), .ref (a0 + 4), .ref (a0 + 5), .ref (a0 + 6), .null, .null]) :: (([] ++ [eI arr 6] ++ [eI arr 6] ++ [eI arr 6] ++ [eI arr 6] ++ [eI arr 16] ++ [eQ arr 3 7 (va_up (fun _ => none) 0 (some (a0 + 7)))] ++ blkE D arr (a0 + 7) blk6) ++ blkE D arr (a0 + 15) blk6)) ct_X6 rfl mw_X6_init wi_X6_init rfl mn_X6_init wl_RX3_33 (by exact Nat.le_of_ble_eq_true rfl) (by exact Nat.le_of_ble_eq_true rfl) (by exact Nat.le_of_ble_eq_true rfl) dX3_init_70 (by exact Nat.le_of_ble_eq_true rfl) (by first | (simp [blkE_len]; done) | (simp [blkE_len]; omega)) (by exact Nat.le_of_ble_eq_true rfl) (by exact Nat.le_of_ble_eq_true rfl) rfl rfl ?_
  refine g_aast (r := (RX6, TX6, 7)) (iA := 6) (iV := 15) (t := 3) (N := 7) (ci := 6) (E2 := .inr (3, [.int 0, .int 0, .ref (a0 + 1), .ref (a0 + 2), .int 0, .ref (a0 + 3), .ref (a0 + 4), .ref (a0 + 5), .ref (a0 + 6), .null, .null]) :: ([] ++ [eI arr 6] ++ [eI arr 6] ++ [eI arr 6] ++ [eI arr 6] ++ [eI arr 16] ++ [eQ arr 3 7 (va_up (va_up (fun _ => none) 0 (some (a0 + 7))) 1 (some (a0 + 15)))] ++ blkE D arr (a0 + 7) blk6 ++ blkE D arr (a0 + 15) blk6)) (by rfl) (by rfl) rfl rfl (by unfold vp_in; decide) (ii := 1) (by decide) (by rfl) (by first | (simp [blkE_len]; done) | (simp [blkE_len]; omega)) dX3_init_73 rfl rfl ?_
  refine g_iinc (v := 2) (ls2 := [(1, .int 2), (0, .ref a0)]) 0 dX3_init_74 rfl (by decide) (by decide) rfl ?_
  refine g_goto (tgt := 55) dX3_init_77 (by decide) ?_
  refine g_iload 0 dX3_init_55 rfl ?_
  refine g_bipush (v := 6) dX3_init_56 (by decide) ?_
  refine g_gtF (tgt := 80) dX3_init_58 (by decide) (by decide) ?_
  refine g_aload 1 dX3_init_61 rfl ?_
  refine g_get (ci := 3) (j := 8) (ref := "ProcessingMemory$Planner") wc_3 rfl (by decide) wf_RX3_29 rfl rfl dX3_init_62 ?_
  refine g_iload 0 dX3_init_65 rfl ?_
  refine g_new (ci := 6) (q := a0 + 23) (dfl := dfl6) (E2 := .inr (3, [.int 0, .int 0, .ref (a0 + 1), .ref (a0 + 2), .int 0, .ref (a0 + 3), .ref (a0 + 4), .ref (a0 + 5), .ref (a0 + 6), .null, .null]) :: (([] ++ [eI arr 6] ++ [eI arr 6] ++ [eI arr 6] ++ [eI arr 6] ++ [eI arr 16] ++ [eQ arr 3 7 (va_up (va_up (fun _ => none) 0 (some (a0 + 7))) 1 (some (a0 + 15)))] ++ blkE D arr (a0 + 7) blk6 ++ blkE D arr (a0 + 15) blk6) ++ [.inr (6, dfl6)])) wc_6 tyX6_ok wk_RX3_27 wn_RX6 w0_RX6 rfl dfl6_ok dX3_init_66 (by first | (simp [blkE_len]; done) | (simp [blkE_len]; omega)) (Nat.le_of_ble_eq_true rfl) (Nat.le_of_ble_eq_true rfl) rfl ?_
  refine g_dup dX3_init_69 ?_
  refine g_initN (R := rmd 2 (62, 1216)) (a0 := a0) (st := [.ref (a0 + 23), .int 2, .ref (a0 + 6)]) (k := 23) (n := 388) (Es := .inr (3, [.int 0, .int 0, .ref (a0 + 1), .ref (a0 + 2), .int 0, .ref (a0 + 3), .ref (a0 + 4), .ref (a0 + 5), .ref (a0 + 6), .null, .null]) :: ([] ++ [eI arr 6] ++ [eI arr 6] ++ [eI arr 6] ++ [eI arr 6] ++ [eI arr 16] ++ [eQ arr 3 7 (va_up (va_up (fun _ => none) 0 (some (a0 + 7))) 1 (some (a0 + 15)))] ++ blkE D arr (a0 + 7) blk6 ++ blkE D arr (a0 + 15) blk6)) (q := a0 + 23) (E1 := .inr (3, [.int 0, .int 0, .ref (a0 + 1), .ref (a0 + 2), .int 0, .ref (a0 + 3), .ref (a0 + 4), .ref (a0 + 5), .ref (a0 + 6), .null, .null]) :: (([] ++ [eI arr 6] ++ [eI arr 6] ++ [eI arr 6] ++ [eI arr 6] ++ [eI arr 16] ++ [eQ arr 3 7 (va_up (va_up (fun _ => none) 0 (some (a0 + 7))) 1 (some (a0 + 15)))] ++ blkE D arr (a0 + 7) blk6 ++ blkE D arr (a0 + 15) blk6) ++ [.inr (6, dfl6)])) (E2 := .inr (3, [.int 0, .int 0, .ref (a0 + 1), .ref (a0 + 2), .int 0, .ref (a0 + 3), .ref (a0 + 4), .ref (a0 + 5), .ref (a0 + 6), .null, .null]) :: (([] ++ [eI arr 6] ++ [eI arr 6] ++ [eI arr 6] ++ [eI arr 6] ++ [eI arr 16] ++ [eQ arr 3 7 (va_up (va_up (fun _ => none) 0 (some (a0 + 7))) 1 (some (a0 + 15)))] ++ blkE D arr (a0 + 7) blk6 ++ blkE D arr (a0 + 15) blk6) ++ blkE D arr (a0 + 23) blk6)) ct_X6 rfl mw_X6_init wi_X6_init rfl mn_X6_init wl_RX3_33 (by exact Nat.le_of_ble_eq_true rfl) (by exact Nat.le_of_ble_eq_true rfl) (by exact Nat.le_of_ble_eq_true rfl) dX3_init_70 (by exact Nat.le_of_ble_eq_true rfl) (by first | (simp [blkE_len]; done) | (simp [blkE_len]; omega)) (by exact Nat.le_of_ble_eq_true rfl) (by exact Nat.le_of_ble_eq_true rfl) rfl rfl ?_
  refine g_aast (r := (RX6, TX6, 7)) (iA := 6) (iV := 23) (t := 3) (N := 7) (ci := 6) (E2 := .inr (3, [.int 0, .int 0, .ref (a0 + 1), .ref (a0 + 2), .int 0, .ref (a0 + 3), .ref (a0 + 4), .ref (a0 + 5), .ref (a0 + 6), .null, .null]) :: ([] ++ [eI arr 6] ++ [eI arr 6] ++ [eI arr 6] ++ [eI arr 6] ++ [eI arr 16] ++ [eQ arr 3 7 (va_up (va_up (va_up (fun _ => none) 0 (some (a0 + 7))) 1 (some (a0 + 15))) 2 (some (a0 + 23)))] ++ blkE D arr (a0 + 7) blk6 ++ blkE D arr (a0 + 15) blk6 ++ blkE D arr (a0 + 23) blk6)) (by rfl) (by rfl) rfl rfl (by unfold vp_in; decide) (ii := 2) (by decide) (by rfl) (by first | (simp [blkE_len]; done) | (simp [blkE_len]; omega)) dX3_init_73 rfl rfl ?_
  refine g_iinc (v := 3) (ls2 := [(1, .int 3), (0, .ref a0)]) 0 dX3_init_74 rfl (by decide) (by decide) rfl ?_
  refine g_goto (tgt := 55) dX3_init_77 (by decide) ?_
  refine g_iload 0 dX3_init_55 rfl ?_
  refine g_bipush (v := 6) dX3_init_56 (by decide) ?_
  refine g_gtF (tgt := 80) dX3_init_58 (by decide) (by decide) ?_
  refine g_aload 1 dX3_init_61 rfl ?_
  refine g_get (ci := 3) (j := 8) (ref := "ProcessingMemory$Planner") wc_3 rfl (by decide) wf_RX3_29 rfl rfl dX3_init_62 ?_
  refine g_iload 0 dX3_init_65 rfl ?_
  refine g_new (ci := 6) (q := a0 + 31) (dfl := dfl6) (E2 := .inr (3, [.int 0, .int 0, .ref (a0 + 1), .ref (a0 + 2), .int 0, .ref (a0 + 3), .ref (a0 + 4), .ref (a0 + 5), .ref (a0 + 6), .null, .null]) :: (([] ++ [eI arr 6] ++ [eI arr 6] ++ [eI arr 6] ++ [eI arr 6] ++ [eI arr 16] ++ [eQ arr 3 7 (va_up (va_up (va_up (fun _ => none) 0 (some (a0 + 7))) 1 (some (a0 + 15))) 2 (some (a0 + 23)))] ++ blkE D arr (a0 + 7) blk6 ++ blkE D arr (a0 + 15) blk6 ++ blkE D arr (a0 + 23) blk6) ++ [.inr (6, dfl6)])) wc_6 tyX6_ok wk_RX3_27 wn_RX6 w0_RX6 rfl dfl6_ok dX3_init_66 (by first | (simp [blkE_len]; done) | (simp [blkE_len]; omega)) (Nat.le_of_ble_eq_true rfl) (Nat.le_of_ble_eq_true rfl) rfl ?_
  refine g_dup dX3_init_69 ?_
  refine g_initN (R := rmd 2 (62, 1216)) (a0 := a0) (st := [.ref (a0 + 31), .int 3, .ref (a0 + 6)]) (k := 31) (n := 555) (Es := .inr (3, [.int 0, .int 0, .ref (a0 + 1), .ref (a0 + 2), .int 0, .ref (a0 + 3), .ref (a0 + 4), .ref (a0 + 5), .ref (a0 + 6), .null, .null]) :: ([] ++ [eI arr 6] ++ [eI arr 6] ++ [eI arr 6] ++ [eI arr 6] ++ [eI arr 16] ++ [eQ arr 3 7 (va_up (va_up (va_up (fun _ => none) 0 (some (a0 + 7))) 1 (some (a0 + 15))) 2 (some (a0 + 23)))] ++ blkE D arr (a0 + 7) blk6 ++ blkE D arr (a0 + 15) blk6 ++ blkE D arr (a0 + 23) blk6)) (q := a0 + 31) (E1 := .inr (3, [.int 0, .int 0, .ref (a0 + 1), .ref (a0 + 2), .int 0, .ref (a0 + 3), .ref (a0 + 4), .ref (a0 + 5), .ref (a0 + 6), .null, .null]) :: (([] ++ [eI arr 6] ++ [eI arr 6] ++ [eI arr 6] ++ [eI arr 6] ++ [eI arr 16] ++ [eQ arr 3 7 (va_up (va_up (va_up (fun _ => none) 0 (some (a0 + 7))) 1 (some (a0 + 15))) 2 (some (a0 + 23)))] ++ blkE D arr (a0 + 7) blk6 ++ blkE D arr (a0 + 15) blk6 ++ blkE D arr (a0 + 23) blk6) ++ [.inr (6, dfl6)])) (E2 := .inr (3, [.int 0, .int 0, .ref (a0 + 1), .ref (a0 + 2), .int 0, .ref (a0 + 3), .ref (a0 + 4), .ref (a0 + 5), .ref (a0 + 6), .null, .null]) :: (([] ++ [eI arr 6] ++ [eI arr 6] ++ [eI arr 6] ++ [eI arr 6] ++ [eI arr 16] ++ [eQ arr 3 7 (va_up (va_up (va_up (fun _ => none) 0 (some (a0 + 7))) 1 (some (a0 + 15))) 2 (some (a0 + 23)))] ++ blkE D arr (a0 + 7) blk6 ++ blkE D arr (a0 + 15) blk6 ++ blkE D arr (a0 + 23) blk6) ++ blkE D arr (a0 + 31) blk6)) ct_X6 rfl mw_X6_init wi_X6_init rfl mn_X6_init wl_RX3_33 (by exact Nat.le_of_ble_eq_true rfl) (by exact Nat.le_of_ble_eq_true rfl) (by exact Nat.le_of_ble_eq_true rfl) dX3_init_70 (by exact Nat.le_of_ble_eq_true rfl) (by first | (simp [blkE_len]; done) | (simp [blkE_len]; omega)) (by exact Nat.le_of_ble_eq_true rfl) (by exact Nat.le_of_ble_eq_true rfl) rfl rfl ?_
  refine g_aast (r := (RX6, TX6, 7)) (iA := 6) (iV := 31) (t := 3) (N := 7) (ci := 6) (E2 := .inr (3, [.int 0, .int 0, .ref (a0 + 1), .ref (a0 + 2), .int 0, .ref (a0 + 3), .ref (a0 + 4), .ref (a0 + 5), .ref (a0 + 6), .null, .null]) :: ([] ++ [eI arr 6] ++ [eI arr 6] ++ [eI arr 6] ++ [eI arr 6] ++ [eI arr 16] ++ [eQ arr 3 7 (va_up (va_up (va_up (va_up (fun _ => none) 0 (some (a0 + 7))) 1 (some (a0 + 15))) 2 (some (a0 + 23))) 3 (some (a0 + 31)))] ++ blkE D arr (a0 + 7) blk6 ++ blkE D arr (a0 + 15) blk6 ++ blkE D arr (a0 + 23) blk6 ++ blkE D arr (a0 + 31) blk6)) (by rfl) (by rfl) rfl rfl (by unfold vp_in; decide) (ii := 3) (by decide) (by rfl) (by first | (simp [blkE_len]; done) | (simp [blkE_len]; omega)) dX3_init_73 rfl rfl ?_
  refine g_iinc (v := 4) (ls2 := [(1, .int 4), (0, .ref a0)]) 0 dX3_init_74 rfl (by decide) (by decide) rfl ?_
  refine g_goto (tgt := 55) dX3_init_77 (by decide) ?_
  refine g_iload 0 dX3_init_55 rfl ?_
  refine g_bipush (v := 6) dX3_init_56 (by decide) ?_
  refine g_gtF (tgt := 80) dX3_init_58 (by decide) (by decide) ?_
  refine g_aload 1 dX3_init_61 rfl ?_
  refine g_get (ci := 3) (j := 8) (ref := "ProcessingMemory$Planner") wc_3 rfl (by decide) wf_RX3_29 rfl rfl dX3_init_62 ?_
  refine g_iload 0 dX3_init_65 rfl ?_
  refine g_new (ci := 6) (q := a0 + 39) (dfl := dfl6) (E2 := .inr (3, [.int 0, .int 0, .ref (a0 + 1), .ref (a0 + 2), .int 0, .ref (a0 + 3), .ref (a0 + 4), .ref (a0 + 5), .ref (a0 + 6), .null, .null]) :: (([] ++ [eI arr 6] ++ [eI arr 6] ++ [eI arr 6] ++ [eI arr 6] ++ [eI arr 16] ++ [eQ arr 3 7 (va_up (va_up (va_up (va_up (fun _ => none) 0 (some (a0 + 7))) 1 (some (a0 + 15))) 2 (some (a0 + 23))) 3 (some (a0 + 31)))] ++ blkE D arr (a0 + 7) blk6 ++ blkE D arr (a0 + 15) blk6 ++ blkE D arr (a0 + 23) blk6 ++ blkE D arr (a0 + 31) blk6) ++ [.inr (6, dfl6)])) wc_6 tyX6_ok wk_RX3_27 wn_RX6 w0_RX6 rfl dfl6_ok dX3_init_66 (by first | (simp [blkE_len]; done) | (simp [blkE_len]; omega)) (Nat.le_of_ble_eq_true rfl) (Nat.le_of_ble_eq_true rfl) rfl ?_
  refine g_dup dX3_init_69 ?_
  refine g_initN (R := rmd 2 (62, 1216)) (a0 := a0) (st := [.ref (a0 + 39), .int 4, .ref (a0 + 6)]) (k := 39) (n := 722) (Es := .inr (3, [.int 0, .int 0, .ref (a0 + 1), .ref (a0 + 2), .int 0, .ref (a0 + 3), .ref (a0 + 4), .ref (a0 + 5), .ref (a0 + 6), .null, .null]) :: ([] ++ [eI arr 6] ++ [eI arr 6] ++ [eI arr 6] ++ [eI arr 6] ++ [eI arr 16] ++ [eQ arr 3 7 (va_up (va_up (va_up (va_up (fun _ => none) 0 (some (a0 + 7))) 1 (some (a0 + 15))) 2 (some (a0 + 23))) 3 (some (a0 + 31)))] ++ blkE D arr (a0 + 7) blk6 ++ blkE D arr (a0 + 15) blk6 ++ blkE D arr (a0 + 23) blk6 ++ blkE D arr (a0 + 31) blk6)) (q := a0 + 39) (E1 := .inr (3, [.int 0, .int 0, .ref (a0 + 1), .ref (a0 + 2), .int 0, .ref (a0 + 3), .ref (a0 + 4), .ref (a0 + 5), .ref (a0 + 6), .null, .null]) :: (([] ++ [eI arr 6] ++ [eI arr 6] ++ [eI arr 6] ++ [eI arr 6] ++ [eI arr 16] ++ [eQ arr 3 7 (va_up (va_up (va_up (va_up (fun _ => none) 0 (some (a0 + 7))) 1 (some (a0 + 15))) 2 (some (a0 + 23))) 3 (some (a0 + 31)))] ++ blkE D arr (a0 + 7) blk6 ++ blkE D arr (a0 + 15) blk6 ++ blkE D arr (a0 + 23) blk6 ++ blkE D arr (a0 + 31) blk6) ++ [.inr (6, dfl6)])) (E2 := .inr (3, [.int 0, .int 0, .ref (a0 + 1), .ref (a0 + 2), .int 0, .ref (a0 + 3), .ref (a0 + 4), .ref (a0 + 5), .ref (a0 + 6), .null, .null]) :: (([] ++ [eI arr 6] ++ [eI arr 6] ++ [eI arr 6] ++ [eI arr 6] ++ [eI arr 16] ++ [eQ arr 3 7 (va_up (va_up (va_up (va_up (fun _ => none) 0 (some (a0 + 7))) 1 (some (a0 + 15))) 2 (some (a0 + 23))) 3 (some (a0 + 31)))] ++ blkE D arr (a0 + 7) blk6 ++ blkE D arr (a0 + 15) blk6 ++ blkE D arr (a0 + 23) blk6 ++ blkE D arr (a0 + 31) blk6) ++ blkE D arr (a0 + 39) blk6)) ct_X6 rfl mw_X6_init wi_X6_init rfl mn_X6_init wl_RX3_33 (by exact Nat.le_of_ble_eq_true rfl) (by exact Nat.le_of_ble_eq_true rfl) (by exact Nat.le_of_ble_eq_true rfl) dX3_init_70 (by exact Nat.le_of_ble_eq_true rfl) (by first | (simp [blkE_len]; done) | (simp [blkE_len]; omega)) (by exact Nat.le_of_ble_eq_true rfl) (by exact Nat.le_of_ble_eq_true rfl) rfl rfl ?_
  refine g_aast (r := (RX6, TX6, 7)) (iA := 6) (iV := 39) (t := 3) (N := 7) (ci := 6) (E2 := .inr (3, [.int 0, .int 0, .ref (a0 + 1), .ref (a0 + 2), .int 0, .ref (a0 + 3), .ref (a0 + 4), .ref (a0 + 5), .ref (a0 + 6), .null, .null]) :: ([] ++ [eI arr 6] ++ [eI arr 6] ++ [eI arr 6] ++ [eI arr 6] ++ [eI arr 16] ++ [eQ arr 3 7 (va_up (va_up (va_up (va_up (va_up (fun _ => none) 0 (some (a0 + 7))) 1 (some (a0 + 15))) 2 (some (a0 + 23))) 3 (some (a0 + 31))) 4 (some (a0 + 39)))] ++ blkE D arr (a0 + 7) blk6 ++ blkE D arr (a0 + 15) blk6 ++ blkE D arr (a0 + 23) blk6 ++ blkE D arr (a0 + 31) blk6 ++ blkE D arr (a0 + 39) blk6)) (by rfl) (by rfl) rfl rfl (by unfold vp_in; decide) (ii := 4) (by decide) (by rfl) (by first | (simp [blkE_len]; done) | (simp [blkE_len]; omega)) dX3_init_73 rfl rfl ?_
  refine g_iinc (v := 5) (ls2 := [(1, .int 5), (0, .ref a0)]) 0 dX3_init_74 rfl (by decide) (by decide) rfl ?_
  refine g_goto (tgt := 55) dX3_init_77 (by decide) ?_
  refine g_iload 0 dX3_init_55 rfl ?_
  refine g_bipush (v := 6) dX3_init_56 (by decide) ?_
  refine g_gtF (tgt := 80) dX3_init_58 (by decide) (by decide) ?_
  refine g_aload 1 dX3_init_61 rfl ?_
  refine g_get (ci := 3) (j := 8) (ref := "ProcessingMemory$Planner") wc_3 rfl (by decide) wf_RX3_29 rfl rfl dX3_init_62 ?_
  refine g_iload 0 dX3_init_65 rfl ?_
  refine g_new (ci := 6) (q := a0 + 47) (dfl := dfl6) (E2 := .inr (3, [.int 0, .int 0, .ref (a0 + 1), .ref (a0 + 2), .int 0, .ref (a0 + 3), .ref (a0 + 4), .ref (a0 + 5), .ref (a0 + 6), .null, .null]) :: (([] ++ [eI arr 6] ++ [eI arr 6] ++ [eI arr 6] ++ [eI arr 6] ++ [eI arr 16] ++ [eQ arr 3 7 (va_up (va_up (va_up (va_up (va_up (fun _ => none) 0 (some (a0 + 7))) 1 (some (a0 + 15))) 2 (some (a0 + 23))) 3 (some (a0 + 31))) 4 (some (a0 + 39)))] ++ blkE D arr (a0 + 7) blk6 ++ blkE D arr (a0 + 15) blk6 ++ blkE D arr (a0 + 23) blk6 ++ blkE D arr (a0 + 31) blk6 ++ blkE D arr (a0 + 39) blk6) ++ [.inr (6, dfl6)])) wc_6 tyX6_ok wk_RX3_27 wn_RX6 w0_RX6 rfl dfl6_ok dX3_init_66 (by first | (simp [blkE_len]; done) | (simp [blkE_len]; omega)) (Nat.le_of_ble_eq_true rfl) (Nat.le_of_ble_eq_true rfl) rfl ?_
  refine g_dup dX3_init_69 ?_
  refine g_initN (R := rmd 2 (62, 1216)) (a0 := a0) (st := [.ref (a0 + 47), .int 5, .ref (a0 + 6)]) (k := 47) (n := 889) (Es := .inr (3, [.int 0, .int 0, .ref (a0 + 1), .ref (a0 + 2), .int 0, .ref (a0 + 3), .ref (a0 + 4), .ref (a0 + 5), .ref (a0 + 6), .null, .null]) :: ([] ++ [eI arr 6] ++ [eI arr 6] ++ [eI arr 6] ++ [eI arr 6] ++ [eI arr 16] ++ [eQ arr 3 7 (va_up (va_up (va_up (va_up (va_up (fun _ => none) 0 (some (a0 + 7))) 1 (some (a0 + 15))) 2 (some (a0 + 23))) 3 (some (a0 + 31))) 4 (some (a0 + 39)))] ++ blkE D arr (a0 + 7) blk6 ++ blkE D arr (a0 + 15) blk6 ++ blkE D arr (a0 + 23) blk6 ++ blkE D arr (a0 + 31) blk6 ++ blkE D arr (a0 + 39) blk6)) (q := a0 + 47) (E1 := .inr (3, [.int 0, .int 0, .ref (a0 + 1), .ref (a0 + 2), .int 0, .ref (a0 + 3), .ref (a0 + 4), .ref (a0 + 5), .ref (a0 + 6), .null, .null]) :: (([] ++ [eI arr 6] ++ [eI arr 6] ++ [eI arr 6] ++ [eI arr 6] ++ [eI arr 16] ++ [eQ arr 3 7 (va_up (va_up (va_up (va_up (va_up (fun _ => none) 0 (some (a0 + 7))) 1 (some (a0 + 15))) 2 (some (a0 + 23))) 3 (some (a0 + 31))) 4 (some (a0 + 39)))] ++ blkE D arr (a0 + 7) blk6 ++ blkE D arr (a0 + 15) blk6 ++ blkE D arr (a0 + 23) blk6 ++ blkE D arr (a0 + 31) blk6 ++ blkE D arr (a0 + 39) blk6) ++ [.inr (6, dfl6)])) (E2 := .inr (3, [.int 0, .int 0, .ref (a0 + 1), .ref (a0 + 2), .int 0, .ref (a0 + 3), .ref (a0 + 4), .ref (a0 + 5), .ref (a0 + 6), .null, .null]) :: (([] ++ [eI arr 6] ++ [eI arr 6] ++ [eI arr 6] ++ [eI arr 6] ++ [eI arr 16] ++ [eQ arr 3 7 (va_up (va_up (va_up (va_up (va_up (fun _ => none) 0 (some (a0 + 7))) 1 (some (a0 + 15))) 2 (some (a0 + 23))) 3 (some (a0 + 31))) 4 (some (a0 + 39)))] ++ blkE D arr (a0 + 7) blk6 ++ blkE D arr (a0 + 15) blk6 ++ blkE D arr (a0 + 23) blk6 ++ blkE D arr (a0 + 31) blk6 ++ blkE D arr (a0 + 39) blk6) ++ blkE D arr (a0 + 47) blk6)) ct_X6 rfl mw_X6_init wi_X6_init rfl mn_X6_init wl_RX3_33 (by exact Nat.le_of_ble_eq_true rfl) (by exact Nat.le_of_ble_eq_true rfl) (by exact Nat.le_of_ble_eq_true rfl) dX3_init_70 (by exact Nat.le_of_ble_eq_true rfl) (by first | (simp [blkE_len]; done) | (simp [blkE_len]; omega)) (by exact Nat.le_of_ble_eq_true rfl) (by exact Nat.le_of_ble_eq_true rfl) rfl rfl ?_
  refine g_aast (r := (RX6, TX6, 7)) (iA := 6) (iV := 47) (t := 3) (N := 7) (ci := 6) (E2 := .inr (3, [.int 0, .int 0, .ref (a0 + 1), .ref (a0 + 2), .int 0, .ref (a0 + 3), .ref (a0 + 4), .ref (a0 + 5), .ref (a0 + 6), .null, .null]) :: ([] ++ [eI arr 6] ++ [eI arr 6] ++ [eI arr 6] ++ [eI arr 6] ++ [eI arr 16] ++ [eQ arr 3 7 (va_up (va_up (va_up (va_up (va_up (va_up (fun _ => none) 0 (some (a0 + 7))) 1 (some (a0 + 15))) 2 (some (a0 + 23))) 3 (some (a0 + 31))) 4 (some (a0 + 39))) 5 (some (a0 + 47)))] ++ blkE D arr (a0 + 7) blk6 ++ blkE D arr (a0 + 15) blk6 ++ blkE D arr (a0 + 23) blk6 ++ blkE D arr (a0 + 31) blk6 ++ blkE D arr (a0 + 39) blk6 ++ blkE D arr (a0 + 47) blk6)) (by rfl) (by rfl) rfl rfl (by unfold vp_in; decide) (ii := 5) (by decide) (by rfl) (by first | (simp [blkE_len]; done) | (simp [blkE_len]; omega)) dX3_init_73 rfl rfl ?_
  refine g_iinc (v := 6) (ls2 := [(1, .int 6), (0, .ref a0)]) 0 dX3_init_74 rfl (by decide) (by decide) rfl ?_
  refine g_goto (tgt := 55) dX3_init_77 (by decide) ?_
  refine g_iload 0 dX3_init_55 rfl ?_
  refine g_bipush (v := 6) dX3_init_56 (by decide) ?_
  refine g_gtF (tgt := 80) dX3_init_58 (by decide) (by decide) ?_
  refine g_aload 1 dX3_init_61 rfl ?_
  refine g_get (ci := 3) (j := 8) (ref := "ProcessingMemory$Planner") wc_3 rfl (by decide) wf_RX3_29 rfl rfl dX3_init_62 ?_
  refine g_iload 0 dX3_init_65 rfl ?_
  refine g_new (ci := 6) (q := a0 + 55) (dfl := dfl6) (E2 := .inr (3, [.int 0, .int 0, .ref (a0 + 1), .ref (a0 + 2), .int 0, .ref (a0 + 3), .ref (a0 + 4), .ref (a0 + 5), .ref (a0 + 6), .null, .null]) :: (([] ++ [eI arr 6] ++ [eI arr 6] ++ [eI arr 6] ++ [eI arr 6] ++ [eI arr 16] ++ [eQ arr 3 7 (va_up (va_up (va_up (va_up (va_up (va_up (fun _ => none) 0 (some (a0 + 7))) 1 (some (a0 + 15))) 2 (some (a0 + 23))) 3 (some (a0 + 31))) 4 (some (a0 + 39))) 5 (some (a0 + 47)))] ++ blkE D arr (a0 + 7) blk6 ++ blkE D arr (a0 + 15) blk6 ++ blkE D arr (a0 + 23) blk6 ++ blkE D arr (a0 + 31) blk6 ++ blkE D arr (a0 + 39) blk6 ++ blkE D arr (a0 + 47) blk6) ++ [.inr (6, dfl6)])) wc_6 tyX6_ok wk_RX3_27 wn_RX6 w0_RX6 rfl dfl6_ok dX3_init_66 (by first | (simp [blkE_len]; done) | (simp [blkE_len]; omega)) (Nat.le_of_ble_eq_true rfl) (Nat.le_of_ble_eq_true rfl) rfl ?_
  refine g_dup dX3_init_69 ?_
  refine g_initN (R := rmd 2 (62, 1216)) (a0 := a0) (st := [.ref (a0 + 55), .int 6, .ref (a0 + 6)]) (k := 55) (n := 1056) (Es := .inr (3, [.int 0, .int 0, .ref (a0 + 1), .ref (a0 + 2), .int 0, .ref (a0 + 3), .ref (a0 + 4), .ref (a0 + 5), .ref (a0 + 6), .null, .null]) :: ([] ++ [eI arr 6] ++ [eI arr 6] ++ [eI arr 6] ++ [eI arr 6] ++ [eI arr 16] ++ [eQ arr 3 7 (va_up (va_up (va_up (va_up (va_up (va_up (fun _ => none) 0 (some (a0 + 7))) 1 (some (a0 + 15))) 2 (some (a0 + 23))) 3 (some (a0 + 31))) 4 (some (a0 + 39))) 5 (some (a0 + 47)))] ++ blkE D arr (a0 + 7) blk6 ++ blkE D arr (a0 + 15) blk6 ++ blkE D arr (a0 + 23) blk6 ++ blkE D arr (a0 + 31) blk6 ++ blkE D arr (a0 + 39) blk6 ++ blkE D arr (a0 + 47) blk6)) (q := a0 + 55) (E1 := .inr (3, [.int 0, .int 0, .ref (a0 + 1), .ref (a0 + 2), .int 0, .ref (a0 + 3), .ref (a0 + 4), .ref (a0 + 5), .ref (a0 + 6), .null, .null]) :: (([] ++ [eI arr 6] ++ [eI arr 6] ++ [eI arr 6] ++ [eI arr 6] ++ [eI arr 16] ++ [eQ arr 3 7 (va_up (va_up (va_up (va_up (va_up (va_up (fun _ => none) 0 (some (a0 + 7))) 1 (some (a0 + 15))) 2 (some (a0 + 23))) 3 (some (a0 + 31))) 4 (some (a0 + 39))) 5 (some (a0 + 47)))] ++ blkE D arr (a0 + 7) blk6 ++ blkE D arr (a0 + 15) blk6 ++ blkE D arr (a0 + 23) blk6 ++ blkE D arr (a0 + 31) blk6 ++ blkE D arr (a0 + 39) blk6 ++ blkE D arr (a0 + 47) blk6) ++ [.inr (6, dfl6)])) (E2 := .inr (3, [.int 0, .int 0, .ref (a0 + 1), .ref (a0 + 2), .int 0, .ref (a0 + 3), .ref (a0 + 4), .ref (a0 + 5), .ref (a0 + 6), .null, .null]) :: (([] ++ [eI arr 6] ++ [eI arr 6] ++ [eI arr 6] ++ [eI arr 6] ++ [eI arr 16] ++ [eQ arr 3 7 (va_up (va_up (va_up (va_up (va_up (va_up (fun _ => none) 0 (some (a0 + 7))) 1 (some (a0 + 15))) 2 (some (a0 + 23))) 3 (some (a0 + 31))) 4 (some (a0 + 39))) 5 (some (a0 + 47)))] ++ blkE D arr (a0 + 7) blk6 ++ blkE D arr (a0 + 15) blk6 ++ blkE D arr (a0 + 23) blk6 ++ blkE D arr (a0 + 31) blk6 ++ blkE D arr (a0 + 39) blk6 ++ blkE D arr (a0 + 47) blk6) ++ blkE D arr (a0 + 55) blk6)) ct_X6 rfl mw_X6_init wi_X6_init rfl mn_X6_init wl_RX3_33 (by exact Nat.le_of_ble_eq_true rfl) (by exact Nat.le_of_ble_eq_true rfl) (by exact Nat.le_of_ble_eq_true rfl) dX3_init_70 (by exact Nat.le_of_ble_eq_true rfl) (by first | (simp [blkE_len]; done) | (simp [blkE_len]; omega)) (by exact Nat.le_of_ble_eq_true rfl) (by exact Nat.le_of_ble_eq_true rfl) rfl rfl ?_
  refine g_aast (r := (RX6, TX6, 7)) (iA := 6) (iV := 55) (t := 3) (N := 7) (ci := 6) (E2 := .inr (3, [.int 0, .int 0, .ref (a0 + 1), .ref (a0 + 2), .int 0, .ref (a0 + 3), .ref (a0 + 4), .ref (a0 + 5), .ref (a0 + 6), .null, .null]) :: ([] ++ [eI arr 6] ++ [eI arr 6] ++ [eI arr 6] ++ [eI arr 6] ++ [eI arr 16] ++ [eQ arr 3 7 (va_up (va_up (va_up (va_up (va_up (va_up (va_up (fun _ => none) 0 (some (a0 + 7))) 1 (some (a0 + 15))) 2 (some (a0 + 23))) 3 (some (a0 + 31))) 4 (some (a0 + 39))) 5 (some (a0 + 47))) 6 (some (a0 + 55)))] ++ blkE D arr (a0 + 7) blk6 ++ blkE D arr (a0 + 15) blk6 ++ blkE D arr (a0 + 23) blk6 ++ blkE D arr (a0 + 31) blk6 ++ blkE D arr (a0 + 39) blk6 ++ blkE D arr (a0 + 47) blk6 ++ blkE D arr (a0 + 55) blk6)) (by rfl) (by rfl) rfl rfl (by unfold vp_in; decide) (ii := 6) (by decide) (by rfl) (by first | (simp [blkE_len]; done) | (simp [blkE_len]; omega)) dX3_init_73 rfl rfl ?_
  refine g_iinc (v := 7) (ls2 := [(1, .int 7), (0, .ref a0)]) 0 dX3_init_74 rfl (by decide) (by decide) rfl ?_
  refine g_goto (tgt := 55) dX3_init_77 (by decide) ?_
  refine g_iload 0 dX3_init_55 rfl ?_
  refine g_bipush (v := 6) dX3_init_56 (by decide) ?_
  refine g_gtT (tgt := 80) dX3_init_58 (by decide) (by decide) ?_
  exact g_ret dX3_init_80 (by rw [hE]; rfl) (fun H h => by rw [hE]; exact LW_swap (Es := .inr (3, [.int 0, .int 0, .ref (a0 + 1), .ref (a0 + 2), .int 0, .ref (a0 + 3), .ref (a0 + 4), .ref (a0 + 5), .ref (a0 + 6), .null, .null]) :: ([] ++ [eI arr 6] ++ [eI arr 6] ++ [eI arr 6] ++ [eI arr 6] ++ [eI arr 16])) (e := eQ arr 3 7 (va_up (va_up (va_up (va_up (va_up (va_up (va_up (fun _ => none) 0 (some (a0 + 7))) 1 (some (a0 + 15))) 2 (some (a0 + 23))) 3 (some (a0 + 31))) 4 (some (a0 + 39))) 5 (some (a0 + 47))) 6 (some (a0 + 55)))) (Fs := ([] ++ blkE D arr (a0 + 7) blk6 ++ blkE D arr (a0 + 15) blk6 ++ blkE D arr (a0 + 23) blk6 ++ blkE D arr (a0 + 31) blk6 ++ blkE D arr (a0 + 39) blk6 ++ blkE D arr (a0 + 47) blk6 ++ blkE D arr (a0 + 55) blk6)) (by exact h) (fun h => eQ_cg (fun j hj => by rcases (show j = 0 ∨ j = 1 ∨ j = 2 ∨ j = 3 ∨ j = 4 ∨ j = 5 ∨ j = 6 by omega) with rfl | rfl | rfl | rfl | rfl | rfl | rfl <;> rfl) h))
