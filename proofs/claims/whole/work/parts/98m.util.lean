/-! ===== utilization: the methods that answer a double ===== -/
abbrev mdX9_utilization : MD := (yX9_utilization, cX9_utilization, 3, some .double)
theorem mw_X9_utilization : mdW mdX9_utilization := ⟨wm_X9_utilization, w0_RX9, by decide, by decide⟩
theorem mn_X9_utilization : (parseMethodDescriptor yX9_utilization.desc).map (fun d => d.parameters.length) = some 1 := by decide +kernel
abbrev mdX10_utilization : MD := (yX10_utilization, cX10_utilization, 2, some .double)
theorem mw_X10_utilization : mdW mdX10_utilization := ⟨wm_X10_utilization, w0_RX10, by decide, by decide⟩
theorem mn_X10_utilization : (parseMethodDescriptor yX10_utilization.desc).map (fun d => d.parameters.length) = some 1 := by decide +kernel
def QcD (KS : List Kd) (ST : StrT) (wp : Wp) (r : UInt64) (M : Mem) (sz : Nat) : Array Value → State → Outcome → State → Prop := va_Qd (fun v (_ : Unit) => v = r) (fun _ t => Wd KS ST wp M t) (Aw KS wp sz)
def EvD (KS : List Kd) (ST : StrT) (md : MD) (d : Nat) (q : Nat × Nat) (as : List AV) (M : Mem) (o : Option (UInt64 × Mem)) : Prop :=
  ∀ (l : Launch) (wp : Wp) (sz : Nat) (r : UInt64) (M' : Mem), l.stackTraces = false → okW KS wp → wp.2.2.2 ≤ sz → o = some (r, M') →
    Met l md.1 (Cond.code md.1 md.2.1 md.2.2.1 md.2.2.2 :: WS) (rmd d q) (PcW KS ST wp as M sz) (QcD KS ST wp r M' sz) q.1 q.2 (Aw KS wp sz)
def fnD (KS : List Kd) (ST : StrT) (q : Nat × Nat) : FNt UInt64 := fun wp sz below args s r M => MQ below (QcD KS ST wp r M sz) args s q.1 q.2 (Aw KS wp sz)
section UD
variable {KS : List Kd} {ST : StrT} {own : String} {cc : ByteArray} {nL : Nat} {ret : Option FieldType} {d : Nat} {pc : Nat} {ls : List (Nat × AV)} {st : List AV} {M : Mem} {q : Nat × Nat}
theorem evD_of {md : MD} {as : List AV} {o : Option (UInt64 × Mem)} (hp : plainName md.1.cls = true) (hlen : as.length ≤ md.2.2.1) (h : Cor KS ST md.1.cls md.2.1 md.2.2.1 md.2.2.2 d false (fnD KS ST q) (fun _ => q) 0 (enl 0 as) [] M o) : EvD KS ST md d q as M o := by
  intro l wp sz r M' hst ok hbz ho
  refine Met.ofW (cc := md.2.1) (maxL := md.2.2.1) (ret := md.2.2.2) hp rfl ?_
  intro p e s m args below meth c s₁ B hml hv
  obtain ⟨rfl, rfl, hP, hK, hE⟩ := hv
  have hts := atoms_spec (ws := Cond.code md.1 md.2.1 md.2.2.1 md.2.2.2 :: WS) B.pre
  have hl := lv_entry (trs wp as) (n := md.2.2.1) (by rw [lg_len]; exact hlen)
  rw [lg_entry_eq]
  rw [← enl_tr] at hl
  exact h p l e s m _ below meth c wp s.heap [] _ r M' ⟨B.exec, B.bytes, B.returns, hml, findClass_of_methodNamed B.named, fun w hw => hts w (List.mem_cons_of_mem _ hw), B.notSynchronized, hK, hE, ok, hbz, hst, fun h => by cases h⟩ hP va_S.rf hl (enl_nd as 0) ho
theorem d_end {tx : Bool} {p : Program} {l : Launch} {e : Env} {R : Room} {s : State} {m : MethodId} {args : Array Value} {below : List Frame} {meth : Method} {c : Code} {wp : Wp} {H : Heap} {locs : List Loc} {la : Array Slot} {r : UInt64} (C : Cx KS ST own cc nL (some .double) tx p l s m args meth c wp) (hP : va_P wp.2.1 clX (wl KS wp M) H) (hS : va_S (Aw KS wp s.heap.size) s.heap H locs) (hd : decode cc pc = .ok (.dreturn, 1)) : W p l e R s m args below meth c H locs 0 0 (fnD KS ST q wp s.heap.size below args s r M) (F0 m pc la [.double r]) := by
  obtain ⟨hx, hb, hr0, hml, hown, hts, hlk, hKK, hE, ok, hbz, -⟩ := id C
  refine W.widen (Nat.zero_le q.1) (Nat.zero_le q.2) ?_
  exact W.dret hx hb hr0 (fun t ht hW => ⟨⟨r, (), rfl, rfl, by rw [ht]; exact hP, va_K.moved hW.alike hKK, by rw [ht]; exact hE.next hW (fun a h1 h2 => hS.2.1 a h1 (fun h => h2 (Aw_B0 ok hbz a h)))⟩, hS.F ht⟩) hS.2.2 hd hlk
theorem cx_F {tx : Bool} {p : Program} {l : Launch} {s : State} {m : MethodId} {args : Array Value} {meth : Method} {c : Code} {wp : Wp} (C : Cx KS ST1 own cc nL ret tx p l s m args meth c wp) : Fx own cc nL p l s m args c ∧ Ox KS s wp := by
  obtain ⟨hx, hb, hr0, hml, hown, hts, hlk, hKK, hE, ok, hbz, hst, -⟩ := C
  exact ⟨⟨hx, hb, hml, hown, hts, hst⟩, ⟨hKK, hE, ok, hbz⟩⟩
theorem cx_SS {s : State} {wp : Wp} {H : Heap} {locs : List Loc} (O : Ox KS s wp) (hS : va_S (Aw KS wp s.heap.size) s.heap H locs) : Sx KS wp (Aw KS wp s.heap.size) s H locs := ⟨hS, Aw_B0 O.2.2.1 O.2.2.2, Aw_call hS⟩
/-- a method that may throw, where it doesn't -/
theorem c_xokV {ρ : Type} {tx : Bool} {FN : FNt ρ} {md : MD} {d2 idx np t ci n0 : Nat} {cq : vw_C} {as rs : List AV} {v : Int32} {M1 : Mem} {st0 : List AV} {o : Option (ρ × Mem)} (hE : EvX KS ST1 md d2 (.inr t :: as) M (some (.inl v, M1))) (hst : as.reverse ++ .inr t :: rs = st0) (hd2 : d2 < d) (hw : mdW md) (hi : Cond.instanceMethod md.1 ∈ WS) (hsel : Cond.selects cq.1 md.1 md.1 ∈ WS) (hK : KS[t]? = some (ci, n0)) (hci : ci < 20) (hq : clX[ci]? = some cq) (hlink : Cond.methodLink own idx md.1 ∈ WS) (hn : (parseMethodDescriptor md.1.desc).map (fun d => d.parameters.length) = some np) (hlen : as.length = np) (hmL : md.2.2.1 ≤ 45) (hrs : rs.length ≤ 8) (hret : md.2.2.2 = none) (hd : decode cc pc = .ok (.invokevirtual idx, 3))
    (kk : Cor KS ST1 own cc nL ret d tx FN (fun _ => (1, 6)) (pc + 3) ls rs M1 o) : Cor KS ST1 own cc nL ret d tx FN (fun _ => (1, 6)) pc ls st0 M o := by
  intro p l e s m args below meth c wp H locs la r M' C hP hS hl hnd ho
  subst hst
  obtain ⟨F, O⟩ := cx_F C
  refine w_xokV (as := as) (rest := trs wp rs) hE hret hw hi hsel hK hci hq hlink hn hlen hmL (show d2 + 1 ≤ d by omega) (show 64 + 64 * d2 ≤ 64 * d by omega) hd (by simp [trs, tr]) (by rw [trs_cat]; exact hrs) F O hP (cx_SS O hS) hl.1 (Nat.le_refl _) (Nat.le_refl _) (fun H1 locs1 hP1 hz1 hk1 hS1 => ?_)
  exact kk p l e s m args below meth c wp H1 locs1 la r M' C hP1 hS1 hl hnd ho
end UD
/-! the class -/
set_option maxRecDepth 20000 in
set_option maxHeartbeats 2000000 in
theorem ux_io (x1 : Int32) (M : Mem) (h : f_X9_requireBank x1 M = some (.inr eIO, M)) : EvX KSx ST1 mdX9_utilization 25 [.inr 0, .inl x1] M (some (.inr eIO, M)) := by
  refine evX_of rfl (Nat.le_of_ble_eq_true rfl) ?_
  show CorX KSx ST1 RX9 cX9_utilization 3 (some .double) 25 0 [(0, .inr 0), (1, .inl x1)] [] M (some (.inr eIO, M))
  rw [show (some (.inr eIO, M) : Option ((Int32 ⊕ String) × Mem)) = bndX (f_X9_requireBank x1 M) (fun _ _ => none) by rw [h]; rfl]
  refine c_aload_n (i := 0) dX9_utilization_0 rfl rfl ?_
  refine c_iload_n (i := 1) dX9_utilization_1 rfl rfl ?_
  exact c_callX (as := [.inl x1]) (rs := []) (ev_X9_requireBank 6 (Nat.le_refl _) x1 M) rfl (by decide) mw_X9_requireBank wi_X9_requireBank wv_X9_requireBank (blk_get0 KSx_b0) (by decide) rfl wl_RX9_251 mn_X9_requireBank rfl (by decide) (Nat.le_of_ble_eq_true rfl) rfl dX9_utilization_2 (fun v1 M2 h2 => by rw [h] at h2; cases h2)
set_option maxRecDepth 20000 in
set_option maxHeartbeats 2000000 in
theorem ux_is (x1 : Int32) (M : Mem) (h : f_X9_requireBank x1 M = some (rOk 0, M)) (h0 : f_X9_finish M = some (0, M)) : EvX KSx ST1 mdX9_utilization 25 [.inr 0, .inl x1] M (some (.inr eIS, M)) := by
  refine evX_of rfl (Nat.le_of_ble_eq_true rfl) ?_
  show CorX KSx ST1 RX9 cX9_utilization 3 (some .double) 25 0 [(0, .inr 0), (1, .inl x1)] [] M (some (.inr eIS, M))
  rw [show (some (.inr eIS, M) : Option ((Int32 ⊕ String) × Mem)) = bndX (f_X9_requireBank x1 M) (fun _ M2 => some (.inr eIS, M2)) by rw [h]; rfl]
  refine c_aload_n (i := 0) dX9_utilization_0 rfl rfl ?_
  refine c_iload_n (i := 1) dX9_utilization_1 rfl rfl ?_
  refine c_callX (as := [.inl x1]) (rs := []) (ev_X9_requireBank 6 (Nat.le_refl _) x1 M) rfl (by decide) mw_X9_requireBank wi_X9_requireBank wv_X9_requireBank (blk_get0 KSx_b0) (by decide) rfl wl_RX9_251 mn_X9_requireBank rfl (by decide) (Nat.le_of_ble_eq_true rfl) rfl dX9_utilization_2 (fun v1 M2 h2 => ?_)
  rw [h] at h2
  cases h2
  have hF := ev_X9_finish 5 (by decide) M
  rw [h0] at hF
  refine c_aload_n (i := 0) dX9_utilization_5 rfl rfl ?_
  refine c_callVp (as := []) (rs := []) hF rfl (by decide) mw_X9_finish wi_X9_finish wv_X9_finish (blk_get0 KSx_b0) (by decide) rfl wl_RX9_281 mn_X9_finish rfl (by decide) (Nat.le_of_ble_eq_true rfl) ⟨_, rfl⟩ dX9_utilization_6 ?_
  refine c_istore_n (i := 2) (ls2 := [(0, .inr 0), (1, .inl x1), (2, .inl 0)]) dX9_utilization_9 rfl (by decide) rfl ?_
  refine c_iload_n (i := 2) dX9_utilization_10 rfl rfl ?_
  refine c_Fl (b := ¬ (0 : Int32) = 0) (fun z => z rfl) ?_
  refine c_if_ne (tgt := 25) dX9_utilization_11 rfl (fun h3 => c_none) (fun h3 => ?_)
  exact th_66w (List.mem_of_getElem? (i := 18) rfl) (by decide) (Nat.le_of_ble_eq_true rfl) dX9_utilization_14 dX9_utilization_17 dX9_utilization_18 dX9_utilization_21 dX9_utilization_24
set_option maxRecDepth 20000 in
set_option maxHeartbeats 2000000 in
theorem ux_ok (b : Nat) (F : Int32) (M : Mem) (hb : b < 8) (h : f_X9_requireBank (nI b) M = some (rOk 0, M)) (h0 : f_X9_finish M = some (F, M)) (hF0 : ¬ F = 0) : EvD KSx ST1 mdX9_utilization 25 (1, 6) [.inr 0, .inl (nI b)] M (some (FP.ddiv (FP.i2d (M 44 b)) (FP.i2d F), M)) := by
  refine evD_of rfl (Nat.le_of_ble_eq_true rfl) ?_
  show Cor KSx ST1 RX9 cX9_utilization 3 (some .double) 25 false (fnD KSx ST1 (1, 6)) (fun _ => (1, 6)) 0 [(0, .inr 0), (1, .inl (nI b))] [] M _
  have hR := ev_X9_requireBank 6 (Nat.le_refl _) (nI b) M
  rw [h] at hR
  have hF := ev_X9_finish 5 (by decide) M
  rw [h0] at hF
  refine c_aload_n (i := 0) dX9_utilization_0 rfl rfl ?_
  refine c_iload_n (i := 1) dX9_utilization_1 rfl rfl ?_
  refine c_xokV (as := [.inl (nI b)]) (rs := []) hR rfl (by decide) mw_X9_requireBank wi_X9_requireBank wv_X9_requireBank (blk_get0 KSx_b0) (by decide) rfl wl_RX9_251 mn_X9_requireBank rfl (by decide) (Nat.le_of_ble_eq_true rfl) rfl dX9_utilization_2 ?_
  refine c_aload_n (i := 0) dX9_utilization_5 rfl rfl ?_
  refine c_callVp (as := []) (rs := []) hF rfl (by decide) mw_X9_finish wi_X9_finish wv_X9_finish (blk_get0 KSx_b0) (by decide) rfl wl_RX9_281 mn_X9_finish rfl (by decide) (Nat.le_of_ble_eq_true rfl) ⟨_, rfl⟩ dX9_utilization_6 ?_
  refine c_istore_n (i := 2) (ls2 := [(0, .inr 0), (1, .inl (nI b)), (2, .inl F)]) dX9_utilization_9 rfl (by decide) rfl ?_
  refine c_iload_n (i := 2) dX9_utilization_10 rfl rfl ?_
  refine c_T (b := ¬ F = 0) hF0 ?_
  refine c_if_ne (tgt := 25) dX9_utilization_11 rfl (fun h3 => ?_) (fun h3 => c_none)
  refine c_aload_n (i := 0) dX9_utilization_25 rfl rfl ?_
  refine gf_RX9_33 (blk_get0 KSx_b0) dX9_utilization_26 ?_
  refine gf_RX9_254 (blk_get0 (blk_sub (C := blk5) (i := 33) KSx_b0 rfl)) dX9_utilization_29 ?_
  refine gf_RX9_286 (blk_get0 (blk_sub (C := blk6) (i := 4) (blk_sub (C := blk5) (i := 33) KSx_b0 rfl) rfl)) dX9_utilization_32 ?_
  refine c_iload_n (i := 1) dX9_utilization_35 rfl rfl ?_
  refine c_iald (a := 44) (n := 8) rfl (nI_in hb (by decide)) dX9_utilization_36 ?_
  rw [ix_nI (show b < 2147483648 by omega)]
  intro p l e s m args below meth c wp H locs la r M' C hP hS hl hnd ho
  cases ho
  refine lv_i2d C.1 C.2.1 dX9_utilization_37 ?_
  refine lv_iload_n C.1 C.2.1 dX9_utilization_38 rfl (lk_at (i := 2) (v := .inl F) rfl hl) ?_
  refine lv_i2d C.1 C.2.1 dX9_utilization_39 ?_
  refine lv_ddiv C.1 C.2.1 dX9_utilization_40 (fl_div _ _ hF0) ?_
  exact d_end C hP hS dX9_utilization_41
/-! the reference -/
set_option maxRecDepth 20000 in
set_option maxHeartbeats 2000000 in
theorem um_any (x1 : Int32) (M M1 M2 : Mem) (v : Int32) {o : Option (UInt64 × Mem)} (e1 : up M 0 0 0 = M1) (hmay : f_X10_may (p_X10_isBank x1 M1) 1 M1 = some (v, M2)) (kk : Cor KSm ST1 RX10 cX10_utilization 2 (some .double) 25 false (fnD KSm ST1 (0, 0)) (fun _ => (0, 0)) 15 [(0, .inr 0), (1, .inl x1)] [.inl v] M2 o) : EvD KSm ST1 mdX10_utilization 25 (0, 0) [.inr 0, .inl x1] M o := by
  refine evD_of rfl (Nat.le_of_ble_eq_true rfl) ?_
  show Cor KSm ST1 RX10 cX10_utilization 2 (some .double) 25 false (fnD KSm ST1 (0, 0)) (fun _ => (0, 0)) 0 [(0, .inr 0), (1, .inl x1)] [] M _
  have hM := ev_X10_may 0 (Nat.le_refl _) (p_X10_isBank x1 M1) 1 M1
  rw [hmay] at hM
  refine c_aload_n (i := 0) dX10_utilization_0 rfl rfl ?_
  refine c_iconst dX10_utilization_1 (v := 0) rfl ?_
  refine pf_RX10_60 (blk_get0 KSm_b0) dX10_utilization_2 ?_
  rw [e1]
  refine c_aload_n (i := 0) dX10_utilization_5 rfl rfl ?_
  refine c_aload_n (i := 0) dX10_utilization_6 rfl rfl ?_
  refine c_iload_n (i := 1) dX10_utilization_7 rfl rfl ?_
  refine c_callVp (as := [.inl x1]) (rs := [.inr 0]) (ev_X10_isBank 1 (Nat.le_refl _) x1 M1) rfl (by decide) mw_X10_isBank wi_X10_isBank wv_X10_isBank (blk_get0 KSm_b0) (by decide) rfl wl_RX10_227 mn_X10_isBank rfl (by decide) (Nat.le_of_ble_eq_true rfl) ⟨_, rfl⟩ dX10_utilization_8 ?_
  refine c_iconst dX10_utilization_11 (v := 1) rfl ?_
  exact c_callVp (as := [.inl (p_X10_isBank x1 M1), .inl 1]) (rs := []) hM rfl (by decide) mw_X10_may wi_X10_may wv_X10_may (blk_get0 KSm_b0) (by decide) rfl wl_RX10_66 mn_X10_may rfl (by decide) (Nat.le_of_ble_eq_true rfl) ⟨_, rfl⟩ dX10_utilization_12 kk
/-- 0.0 is answered -/
theorem um_0 {x1 : Int32} {M : Mem} : Cor KSm ST1 RX10 cX10_utilization 2 (some .double) 25 false (fnD KSm ST1 (0, 0)) (fun _ => (0, 0)) 58 [(0, .inr 0), (1, .inl x1)] [] M (some (FP.dconst0, M)) := by
  intro p l e s m args below meth c wp H locs la r M' C hP hS hl hnd ho
  cases ho
  refine lv_dconst0 C.1 C.2.1 dX10_utilization_58 ?_
  exact d_end C hP hS dX10_utilization_59
theorem um_io (x1 : Int32) (M M1 : Mem) (e1 : up M 0 0 0 = M1) (t0 : M1 0 0 = 0) (hb : p_X10_isBank x1 M1 = 0) : EvD KSm ST1 mdX10_utilization 25 (0, 0) [.inr 0, .inl x1] M (some (FP.dconst0, up M1 0 0 1)) := by
  refine um_any x1 M M1 (up M1 0 0 1) 0 e1 (by rw [hb]; exact m_mayF t0 (by decide)) ?_
  refine c_T (b := (0 : Int32) = 0) rfl ?_
  exact c_if_eq (tgt := 58) dX10_utilization_15 rfl (fun _ => um_0) (fun _ => c_none)
set_option maxRecDepth 20000 in
set_option maxHeartbeats 2000000 in
theorem um_ends (x1 : Int32) (M M1 M2 : Mem) (F z v : Int32) {o : Option (UInt64 × Mem)} (e1 : up M 0 0 0 = M1) (t0 : M1 0 0 = 0) (hb : p_X10_isBank x1 M1 = 1) (hF : f_X10_ends M1 = some (F, M1)) (hz : (if F ≤ 0 then 0 else 1) = z) (hmay : f_X10_may z 2 M1 = some (v, M2)) (kk : Cor KSm ST1 RX10 cX10_utilization 2 (some .double) 25 false (fnD KSm ST1 (0, 0)) (fun _ => (0, 0)) 35 [(0, .inr 0), (1, .inl x1)] [.inl v] M2 o) : EvD KSm ST1 mdX10_utilization 25 (0, 0) [.inr 0, .inl x1] M o := by
  refine um_any x1 M M1 M1 1 e1 (by rw [hb]; exact m_mayT t0 (by decide)) ?_
  have hE := ev_X10_ends 5 (by decide) M1
  rw [hF] at hE
  have hM := ev_X10_may 0 (Nat.le_refl _) z 2 M1
  rw [hmay] at hM
  refine c_Fl (b := (1 : Int32) = 0) (by decide) ?_
  refine c_if_eq (tgt := 58) dX10_utilization_15 rfl (fun _ => c_none) (fun _ => ?_)
  refine c_aload_n (i := 0) dX10_utilization_18 rfl rfl ?_
  refine c_aload_n (i := 0) dX10_utilization_19 rfl rfl ?_
  refine c_callVp (as := []) (rs := [.inr 0]) hE rfl (by decide) mw_X10_ends wi_X10_ends wv_X10_ends (blk_get0 KSm_b0) (by decide) rfl wl_RX10_307 mn_X10_ends rfl (by decide) (Nat.le_of_ble_eq_true rfl) ⟨_, rfl⟩ dX10_utilization_20 ?_
  have K : Cor KSm ST1 RX10 cX10_utilization 2 (some .double) 25 false (fnD KSm ST1 (0, 0)) (fun _ => (0, 0)) 31 [(0, .inr 0), (1, .inl x1)] [.inl z, .inr 0] M1 o := by
    refine c_iconst dX10_utilization_31 (v := 2) rfl ?_
    exact c_callVp (as := [.inl z, .inl 2]) (rs := []) hM rfl (by decide) mw_X10_may wi_X10_may wv_X10_may (blk_get0 KSm_b0) (by decide) rfl wl_RX10_66 mn_X10_may rfl (by decide) (Nat.le_of_ble_eq_true rfl) ⟨_, rfl⟩ dX10_utilization_32 kk
  by_cases hle : F ≤ 0
  · rw [if_pos hle] at hz
    subst hz
    refine c_T (b := F ≤ 0) hle ?_
    refine c_if_le (tgt := 30) dX10_utilization_23 rfl (fun _ => ?_) (fun _ => c_none)
    exact c_iconst dX10_utilization_30 (v := 0) rfl K
  · rw [if_neg hle] at hz
    subst hz
    refine c_Fl (b := F ≤ 0) hle ?_
    refine c_if_le (tgt := 30) dX10_utilization_23 rfl (fun _ => c_none) (fun _ => ?_)
    refine c_iconst dX10_utilization_26 (v := 1) rfl ?_
    exact c_goto (tgt := 31) dX10_utilization_27 rfl K
theorem um_is (x1 : Int32) (M M1 : Mem) (e1 : up M 0 0 0 = M1) (t0 : M1 0 0 = 0) (hb : p_X10_isBank x1 M1 = 1) (hF : f_X10_ends M1 = some (0, M1)) : EvD KSm ST1 mdX10_utilization 25 (0, 0) [.inr 0, .inl x1] M (some (FP.dconst0, up M1 0 0 2)) := by
  refine um_ends x1 M M1 (up M1 0 0 2) 0 0 0 e1 t0 hb hF (by decide) (m_mayF t0 (by decide)) ?_
  refine c_T (b := (0 : Int32) = 0) rfl ?_
  exact c_if_eq (tgt := 58) dX10_utilization_35 rfl (fun _ => um_0) (fun _ => c_none)
set_option maxRecDepth 20000 in
set_option maxHeartbeats 2000000 in
theorem um_ok (b : Nat) (M M1 : Mem) (F : Int32) (e1 : up M 0 0 0 = M1) (t0 : M1 0 0 = 0) (hb8 : b < 8) (hb : p_X10_isBank (nI b) M1 = 1) (hF : f_X10_ends M1 = some (F, M1)) (hF0 : ¬ F ≤ 0) : EvD KSm ST1 mdX10_utilization 25 (0, 0) [.inr 0, .inl (nI b)] M (some (FP.ddiv (FP.i2d (M1 1 (152 + b))) (FP.i2d F), M1)) := by
  refine um_ends (nI b) M M1 M1 F 1 1 e1 t0 hb hF (by rw [if_neg hF0]) (m_mayT t0 (by decide)) ?_
  have hE := ev_X10_ends 5 (by decide) M1
  rw [hF] at hE
  have hne : ¬ F = 0 := fun z => hF0 (by rw [z]; decide)
  refine c_Fl (b := (1 : Int32) = 0) (by decide) ?_
  refine c_if_eq (tgt := 58) dX10_utilization_35 rfl (fun _ => c_none) (fun _ => ?_)
  refine c_aload_n (i := 0) dX10_utilization_38 rfl rfl ?_
  refine gf_RX10_9 (blk_get0 KSm_b0) dX10_utilization_39 ?_
  refine c_sipush dX10_utilization_42 (v := nI 152) rfl ?_
  refine c_iload_n (i := 1) dX10_utilization_45 rfl rfl ?_
  refine c_iadd dX10_utilization_46 ?_
  rw [nI_add]
  refine c_iald (a := 1) (n := 1671) rfl (nI_in (show 152 + b < 1671 by omega) (by decide)) dX10_utilization_47 ?_
  rw [ix_nI (show 152 + b < 2147483648 by omega)]
  intro p l e s m args below meth c wp H locs la r M' C hP hS hl hnd ho
  cases ho
  obtain ⟨F0x, O⟩ := cx_F C
  refine lv_i2d C.1 C.2.1 dX10_utilization_48 ?_
  refine lv_aload_n C.1 C.2.1 dX10_utilization_49 rfl (lk_at (i := 0) (v := .inr 0) rfl hl) ?_
  refine w_ev (KS := KSm) (wp := wp) (as := []) (t := 0) (ci := 10) (n0 := 0) (cq := (RX10, TX10, 25)) (rest := [.double (FP.i2d (M1 1 (152 + b)))]) hE ⟨_, rfl⟩ mw_X10_ends wi_X10_ends wv_X10_ends rfl (by decide) rfl wl_RX10_307 mn_X10_ends rfl (by decide) (by exact Nat.le_of_ble_eq_true rfl) (by exact Nat.le_of_ble_eq_true rfl) dX10_utilization_50 rfl (by exact Nat.le_of_ble_eq_true rfl) F0x O hP (cx_SS O hS) hl.1 (Nat.zero_le _) (Nat.zero_le _) (fun H1 locs1 hP1 hz1 hk1 hS1 => ?_)
  refine lv_i2d C.1 C.2.1 dX10_utilization_53 ?_
  refine lv_ddiv C.1 C.2.1 dX10_utilization_54 (fl_div _ _ hne) ?_
  refine lv_goto (tgt := 59) C.1 C.2.1 dX10_utilization_55 (by decide) ?_
  exact d_end C hP1 hS1 dX10_utilization_59
