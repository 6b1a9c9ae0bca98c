/-! ===== the whole constructors ===== -/
theorem lay_lt (ci k : Nat) : lay ci k < 200 := by
  have h1 : ∀ l ∈ layT, ∀ x ∈ l, x < 200 := by decide
  have hl : ∀ x ∈ layT.getD ci [], x < 200 := by
    intro x hx
    rw [List.getD_eq_getElem?_getD] at hx
    cases h2 : layT[ci]? with
    | none => rw [h2] at hx; cases hx
    | some l => rw [h2] at hx; exact h1 l (List.mem_of_getElem? h2) x hx
  unfold lay
  generalize layT.getD ci [] = l at hl ⊢
  rw [List.getD_eq_getElem?_getD]
  cases h3 : l[k]? with
  | none => exact Nat.le_of_ble_eq_true rfl
  | some x => exact hl x (List.mem_of_getElem? h3)
theorem fv_far {wp : Wp} {a0 t ci k : Nat} {f : Nat → Int32} (h9 : ∀ i, i < 900 → wp.1 i = a0 + i) (ht : t < 200) (hf : lay ci k = 2 → f k < 0) : fv (fun i => a0 + i, wp.2.1, wp.2.2.1, 0) t ci f k = fv wp t ci f k := by
  have hl := lay_lt ci k
  unfold fv
  split
  · rfl
  · rfl
  · rename_i h
    rw [if_pos (hf h), if_pos (hf h)]
  · rename_i z h
    rw [h] at hl
    show Value.ref (a0 + (t + z)) = Value.ref (wp.1 (t + z))
    rw [h9 (t + z) (by omega)]
theorem at_far {wp : Wp} {a0 t : Nat} {kd : Kd} {H : Heap} {q : Nat} (h9 : ∀ i, i < 900 → wp.1 i = a0 + i) (ht : t < 200) (hk : 22 ≤ kd.1 → kd.2 ≤ 7) (h : va_at wp.2.1 clX (q, ent (fun i => a0 + i, wp.2.1, wp.2.2.1, 0) t kd (zM kd)) H) : va_at wp.2.1 clX (q, ent wp t kd (zM kd)) H := by
  unfold ent at h ⊢
  by_cases h1 : kd.1 < 20
  · rw [if_pos h1] at h ⊢
    have e : fv (fun i => a0 + i, wp.2.1, wp.2.2.1, 0) t kd.1 (zM kd) = fv wp t kd.1 (zM kd) := by
      funext k
      refine fv_far h9 ht (fun h2 => ?_)
      unfold zM
      rw [if_pos ⟨h1, h2⟩]
      decide
    rw [e] at h
    exact h
  · rw [if_neg h1] at h ⊢
    by_cases h2 : kd.1 < 22
    · rw [if_pos h2] at h ⊢
      exact h
    · rw [if_neg h2] at h ⊢
      have hk7 := hk (by omega)
      by_cases h3 : kd.1 = 22
      · rw [if_pos h3] at h ⊢
        refine eQ_cg (arr := wp.2.2.1) (t := 2) (f := fun j => some (a0 + (t + (1 + 20 * j)))) (g := fun j => some (wp.1 (t + (1 + 20 * j)))) (fun j hj => ?_) h
        show some _ = some _
        rw [h9 _ (by omega)]
      · rw [if_neg h3] at h ⊢
        refine eQ_cg (arr := wp.2.2.1) (t := 3) (f := fun j => some (a0 + (t + (1 + 8 * j)))) (g := fun j => some (wp.1 (t + (1 + 8 * j)))) (fun j hj => ?_) h
        show some _ = some _
        rw [h9 _ (by omega)]
/-- the cells that a constructor made are a world -/
theorem wl_made {KS Kt : List Kd} {kd0 : Kd} {wp : Wp} {a0 : Nat} {M : Mem} {e0 : va_E} {H : Heap} (hKS : KS = kd0 :: Kt) (h9 : ∀ i, i < 900 → wp.1 i = a0 + i) (hlen : KS.length ≤ 199) (hk : ∀ kd ∈ Kt, 22 ≤ kd.1 → kd.2 ≤ 7) (hM : ∀ (t : Nat) (kd : Kd), Kt[t]? = some kd → M (t + 1) = zM kd) (h0 : va_at wp.2.1 clX (a0, e0) H → va_at wp.2.1 clX (a0, ent wp 0 kd0 (M 0)) H) (hP : va_P wp.2.1 clX (LW a0 (e0 :: blkE wp.2.1 wp.2.2.1 (a0 + 1) Kt)) H) : va_P wp.2.1 clX (wl KS wp M) H := by
  subst hKS
  intro t q hq
  obtain ⟨kd, h1, rfl⟩ := wl_of hq
  have ht : t < (kd0 :: Kt).length := (List.getElem?_eq_some_iff.mp h1).1
  rw [h9 t (by omega)]
  cases t with
  | zero =>
    cases h1
    exact h0 (hP 0 _ (LW_get (j := 0) rfl))
  | succ t =>
    have h2 : Kt[t]? = some kd := h1
    rw [hM t kd h2]
    refine at_far h9 (by omega) (hk kd (List.mem_of_getElem? h2)) ?_
    have h3 := hP (t + 1) _ (LW_get (j := t + 1) (e := ent (fun i => a0 + 1 + i, wp.2.1, wp.2.2.1, 0) t kd (zM kd)) (by simp [blkE, h2]))
    rw [← ent_shift, Nat.add_comm 1 t] at h3
    exact h3
/-- where the cells lie: those of the object from a0 on, the constants by sf -/
def wpA (D : va_G) (arr : Nat → ClassId) (base a0 : Nat) (sf : Nat → Nat) : Wp := (fun i => if i < 900 then a0 + i else sf i, D, arr, base)
theorem wpA_9 (D : va_G) (arr : Nat → ClassId) (base a0 : Nat) (sf : Nat → Nat) : ∀ i, i < 900 → (wpA D arr base a0 sf).1 i = a0 + i := fun i hi => if_pos hi
theorem wpA_ok {KS : List Kd} {D : va_G} {arr : Nat → ClassId} {base a0 : Nat} {sf : Nat → Nat} (hb : base ≤ a0) (hl : KS.length ≤ 199) : okW KS (wpA D arr base a0 sf) := by
  refine ⟨fun i j hi hj e => ?_, fun i hi => ?_⟩
  · rw [wpA_9 _ _ _ _ _ i (by omega), wpA_9 _ _ _ _ _ j (by omega)] at e
    omega
  · rw [wpA_9 _ _ _ _ _ i (by omega)]
    show base ≤ a0 + i
    omega
theorem Aw_ge {KS : List Kd} {D : va_G} {arr : Nat → ClassId} {base a0 sz : Nat} {sf : Nat → Nat} (hl : KS.length ≤ 199) (hz : a0 ≤ sz) : ∀ q, Aw KS (wpA D arr base a0 sf) sz q → a0 ≤ q := by
  intro q h
  rcases h with ⟨k, h1, rfl⟩ | h
  · rw [wpA_9 _ _ _ _ _ k (by omega)]
    omega
  · omega
theorem KSx_len : KSx.length = 177 := by decide +kernel
theorem KSm_len : KSm.length = 14 := by decide +kernel
/-- the new objects' numbers -/
def mX0 : Mem := fun t k => if t = 0 then (if k = 3 then -1 else if k = 5 then nI 7 else if k = 6 then nI 20 else 0) else zM (KSx.getD t (0, 0)) k
def mM0 : Mem := fun t k => if t = 0 then (if k = 15 then -1 else 0) else zM (KSm.getD t (0, 0)) k
def PcC (D : va_G) (arr : Nat → ClassId) (base a0 : Nat) (sf : Nat → Nat) (e0 : va_E) : Array Value → State → Prop := va_Pc [.ref a0] (fun U => U.heap.size = a0 + 1 ∧ va_P D clX (LW a0 [e0]) U.heap ∧ va_K D clX (tysA arr) U ∧ Nst U ∧ Ext ST1 (wpA D arr base a0 sf) U U.heap)
def QcC (KS : List Kd) (D : va_G) (arr : Nat → ClassId) (base a0 : Nat) (sf : Nat → Nat) (M : Mem) : Array Value → State → Outcome → State → Prop := va_Qv (fun _ : Unit => True) (fun _ t => va_P D clX (wl KS (wpA D arr base a0 sf) M) t.heap) (fun q => a0 ≤ q)
theorem pcC_blind {D : va_G} {arr : Nat → ClassId} {base a0 : Nat} {sf : Nat → Nat} {e0 : va_E} : FrameBlind (PcC D arr base a0 sf e0) := by
  intro a U g mk ⟨h0, h1, h2, h3, h4, h5⟩
  exact ⟨h0, h1, h2, va_K.moved (u := U) (U := U.calling g mk a) (Vm.Alike.refl U.vm) h3, Nst.same (s := U) (U := U.calling g mk a) rfl h4, Ext.same (U := U.calling g mk a) h5 rfl⟩
set_option maxRecDepth 100000 in
theorem mX0_t : ∀ (t : Nat) (kd : Kd), tl9[t]? = some kd → mX0 (t + 1) = zM kd := by
  intro t kd h
  have e : KSx[t + 1]? = some kd := by
    show blk9[t + 1]? = some kd
    rw [tl9_eq]
    exact h
  funext k
  unfold mX0
  rw [if_neg (Nat.succ_ne_zero t), List.getD_eq_getElem?_getD, e]
  rfl
set_option maxRecDepth 100000 in
theorem mM0_t : ∀ (t : Nat) (kd : Kd), tl10[t]? = some kd → mM0 (t + 1) = zM kd := by
  intro t kd h
  have e : KSm[t + 1]? = some kd := by
    show blk10[t + 1]? = some kd
    rw [tl10_eq]
    exact h
  funext k
  unfold mM0
  rw [if_neg (Nat.succ_ne_zero t), List.getD_eq_getElem?_getD, e]
  rfl
section CX
variable {D : va_G} {arr : Nat → ClassId} {base a0 : Nat} {sf : Nat → Nat}
/-- what the calls at the end of a constructor need -/
theorem cx_O {KS : List Kd} {s : State} (hl : KS.length ≤ 199) (hb : base ≤ a0) (hK : va_K D clX (tysA arr) s) (hE : Ext ST1 (wpA D arr base a0 sf) s s.heap) (hz : s.heap.size = a0 + 1) : Ox KS s (wpA D arr base a0 sf) := ⟨hK, hE, wpA_ok hb hl, by rw [hz]; show base ≤ a0 + 1; omega⟩
theorem cx_S {KS : List Kd} {s : State} {H : Heap} {locs : List Loc} (hl : KS.length ≤ 199) (hb : base ≤ a0) (hz : s.heap.size = a0 + 1) (hS : va_S (fun q => a0 ≤ q) s.heap H locs) : Sx KS (wpA D arr base a0 sf) (fun q => a0 ≤ q) s H locs := by
  have h1 := hS.1
  exact ⟨hS, fun q h => by show base ≤ q; have : a0 ≤ q := h; omega, Aw_ge hl (by omega)⟩
theorem mX0_z {k : Nat} : mX0 0 k = if k = 3 then -1 else if k = 5 then nI 7 else if k = 6 then nI 20 else 0 := rfl
set_option maxRecDepth 100000 in
set_option maxHeartbeats 4000000 in
/-- THE CLASS'S CONSTRUCTOR -/
theorem ct_X9 (l : Launch) (hst : l.stackTraces = false) (hb0 : base ≤ a0) {X1 X2 : Mem} (h1 : f_X4_clear 7 mX0 = some (0, X1)) (h2 : f_X5_clear 33 X1 = some (0, X2)) : Met l yX9_init (Cond.code yX9_init cX9_init 1 none :: WS) (rmd 10 (176, 12827)) (PcC D arr base a0 sf (.inr (9, dfl9))) (QcC KSx D arr base a0 sf X2) 176 12827 (fun q => a0 ≤ q) := by
  refine Met.ofW (cc := cX9_init) (maxL := 1) (ret := none) (by decide) rfl ?_
  intro p e s m args below meth c s₁ Bd hml hv
  obtain ⟨rfl, hz, hP, hK, hN, hE⟩ := hv
  have hts := atoms_spec (ws := Cond.code yX9_init cX9_init 1 none :: WS) Bd.pre
  have hts2 : ∀ w ∈ WS, w.before [Value.ref a0].toArray s = true := fun w hw => hts w (List.mem_cons_of_mem _ hw)
  have hl := lv_entry ([.ref a0] : List Value) (n := 1) (Nat.le_refl _)
  rw [lg_entry_eq]
  have hown : s.vm.findClass RX9 = some m.cls := findClass_of_methodNamed Bd.named
  have F : Fx RX9 cX9_init 1 p l s m [Value.ref a0].toArray c := ⟨Bd.exec, Bd.bytes, hml, hown, hts2, hst⟩
  have O : Ox KSx s (wpA D arr base a0 sf) := cx_O (by rw [KSx_len]; decide) hb0 hK hE hz
  refine gx_9 (Z := fun l s => l.stackTraces = false ∧ Ext ST1 (wpA D arr base a0 sf) s s.heap) (QQ := fun below args s => MQ below (QcC KSx D arr base a0 sf X2) args s 176 12827 (fun q => a0 ≤ q)) ?_ p l e s m _ below meth c s.heap [] _ ⟨Bd.exec, Bd.bytes, Bd.returns, hml, hown, hts2, Bd.notSynchronized, hK, hN, (name_of_methodNamed Bd.named Bd.method).1, hz, hst, hE⟩ (by rw [hz]; rfl) hP va_S.rf hl
  clear Bd hts hts2 hl hown hP hK hN hE hz hml
  intro p l e s m args below meth c H locs la C hzH hP hS hl
  obtain ⟨hx, hb, hr, hml, hown, hts, hlk, hK, hN, hi, hz, hst, hE⟩ := id C
  have F : Fx RX9 cX9_init 1 p l s m args c := ⟨hx, hb, hml, hown, hts, hst⟩
  have O : Ox KSx s (wpA D arr base a0 sf) := cx_O (by rw [KSx_len]; decide) hb0 hK hE hz
  have hP1 : va_P D clX (wl KSx (wpA D arr base a0 sf) mX0) H := wl_made tl9_eq (wpA_9 D arr base a0 sf) (by rw [KSx_len]; decide) (by decide) mX0_t (fun h => h) hP
  have e1 := ev_X4_clear 5 (by decide) 7 (blk_of rfl) mX0
  rw [h1] at e1
  have e2 := ev_X5_clear 5 (by decide) 33 (blk_of rfl) X1
  rw [h2] at e2
  refine lv_aload_n hx hb dX9_init_112 rfl (lv_at hl 0 rfl) ?_
  refine va_get (ref := "ProcessingMemory") (C := RX9) (T := TX9) (N := 12) hx hb hts wc_9 hown hK hP 0 (LW_get (a := a0) (j := 0) rfl) rfl 5 (by decide) (hts _ wf_RX9_23) (fun x h => h) (v := .ref (a0 + 7)) rfl dX9_init_113 ?_
  refine w_evV (KS := KSx) (wp := wpA D arr base a0 sf) (as := []) (t := 7) (ci := 4) (n0 := 0) e1 rfl mw_X4_clear wi_X4_clear wv_X4_clear rfl (by decide) rfl wl_RX9_55 mn_X4_clear rfl (by decide) (by decide) (by decide) dX9_init_116 rfl (by decide) F O hP1 (cx_S (by rw [KSx_len]; decide) hb0 hz hS) hl.1 (by decide) (by decide) (fun H1 locs1 hP2 hz2 hk2 hS2 => ?_)
  refine lv_aload_n hx hb dX9_init_119 rfl (lv_at hl 0 rfl) ?_
  refine va_get (ref := "ProcessingMemory") (C := RX9) (T := TX9) (N := 12) (ci := 9) (fs := (List.range 12).map (fv (wpA D arr base a0 sf) 0 9 (X1 0))) hx hb hts wc_9 hown hK hP2 0 (wl_get (t := 0) (kd := (9, 0)) rfl) rfl 7 (by decide) (hts _ wf_RX9_33) (fun x h => h) (v := .ref (a0 + 33)) rfl dX9_init_120 ?_
  refine w_evV (KS := KSx) (wp := wpA D arr base a0 sf) (as := []) (t := 33) (ci := 5) (n0 := 0) e2 rfl mw_X5_clear wi_X5_clear wv_X5_clear rfl (by decide) rfl wl_RX9_58 mn_X5_clear rfl (by decide) (by decide) (by decide) dX9_init_123 rfl (by decide) F O hP2 (cx_S (by rw [KSx_len]; decide) hb0 hz hS2) hl.1 (by decide) (by decide) (fun H2 locs2 hP3 hz3 hk3 hS3 => ?_)
  exact W.vret hx hb hr (fun t ht hW => ⟨⟨(), rfl, trivial, by show va_P D clX _ t.heap; rw [ht]; exact hP3⟩, hS3.F ht⟩) hS3.2.2 dX9_init_126 hlk
set_option maxRecDepth 100000 in
set_option maxHeartbeats 4000000 in
/-- THE REFERENCE'S CONSTRUCTOR -/
theorem ct_X10 (l : Launch) (hst : l.stackTraces = false) (hb0 : base ≤ a0) {X1 X2 : Mem} (h1 : f_X10_plain mM0 = some (0, X1)) (h2 : f_X10_takes X1 = some (0, X2)) : Met l yX10_init (Cond.code yX10_init cX10_init 1 none :: WS) (rmd 10 (13, 9171)) (PcC D arr base a0 sf (.inr (10, dfl10))) (QcC KSm D arr base a0 sf X2) 13 9171 (fun q => a0 ≤ q) := by
  refine Met.ofW (cc := cX10_init) (maxL := 1) (ret := none) (by decide) rfl ?_
  intro p e s m args below meth c s₁ Bd hml hv
  obtain ⟨rfl, hz, hP, hK, hN, hE⟩ := hv
  have hts := atoms_spec (ws := Cond.code yX10_init cX10_init 1 none :: WS) Bd.pre
  have hts2 : ∀ w ∈ WS, w.before [Value.ref a0].toArray s = true := fun w hw => hts w (List.mem_cons_of_mem _ hw)
  have hl := lv_entry ([.ref a0] : List Value) (n := 1) (Nat.le_refl _)
  rw [lg_entry_eq]
  have hown : s.vm.findClass RX10 = some m.cls := findClass_of_methodNamed Bd.named
  refine gx_10 (Z := fun l s => l.stackTraces = false ∧ Ext ST1 (wpA D arr base a0 sf) s s.heap) (QQ := fun below args s => MQ below (QcC KSm D arr base a0 sf X2) args s 13 9171 (fun q => a0 ≤ q)) ?_ p l e s m _ below meth c s.heap [] _ ⟨Bd.exec, Bd.bytes, Bd.returns, hml, hown, hts2, Bd.notSynchronized, hK, hN, (name_of_methodNamed Bd.named Bd.method).1, hz, hst, hE⟩ (by rw [hz]; rfl) hP va_S.rf hl
  clear Bd hts hts2 hl hown hP hK hN hE hz hml
  intro p l e s m args below meth c H locs la C hzH hP hS hl
  obtain ⟨hx, hb, hr, hml, hown, hts, hlk, hK, hN, hi, hz, hst, hE⟩ := id C
  have F : Fx RX10 cX10_init 1 p l s m args c := ⟨hx, hb, hml, hown, hts, hst⟩
  have O : Ox KSm s (wpA D arr base a0 sf) := cx_O (by rw [KSm_len]; decide) hb0 hK hE hz
  have hP1 : va_P D clX (wl KSm (wpA D arr base a0 sf) mM0) H := wl_made tl10_eq (wpA_9 D arr base a0 sf) (by rw [KSm_len]; decide) (by decide) mM0_t (fun h => h) hP
  have e1 := ev_X10_plain 5 (by decide) mM0
  rw [h1] at e1
  have e2 := ev_X10_takes 5 (by decide) X1
  rw [h2] at e2
  refine lv_aload_n hx hb dX10_init_119 rfl (lv_at hl 0 rfl) ?_
  refine w_evV (KS := KSm) (wp := wpA D arr base a0 sf) (as := []) (t := 0) (ci := 10) (n0 := 0) e1 rfl mw_X10_plain wi_X10_plain wv_X10_plain rfl (by decide) rfl wl_RX10_54 mn_X10_plain rfl (by decide) (by decide) (by decide) dX10_init_120 rfl (by decide) F O hP1 (cx_S (by rw [KSm_len]; decide) hb0 hz hS) hl.1 (by decide) (by decide) (fun H1 locs1 hP2 hz2 hk2 hS2 => ?_)
  refine lv_aload_n hx hb dX10_init_123 rfl (lv_at hl 0 rfl) ?_
  refine w_evV (KS := KSm) (wp := wpA D arr base a0 sf) (as := []) (t := 0) (ci := 10) (n0 := 0) e2 rfl mw_X10_takes wi_X10_takes wv_X10_takes rfl (by decide) rfl wl_RX10_57 mn_X10_takes rfl (by decide) (by decide) (by decide) dX10_init_124 rfl (by decide) F O hP2 (cx_S (by rw [KSm_len]; decide) hb0 hz hS2) hl.1 (by decide) (by decide) (fun H2 locs2 hP3 hz3 hk3 hS3 => ?_)
  exact W.vret hx hb hr (fun t ht hW => ⟨⟨(), rfl, trivial, by show va_P D clX _ t.heap; rw [ht]; exact hP3⟩, hS3.F ht⟩) hS3.2.2 dX10_init_127 hlk
end CX
