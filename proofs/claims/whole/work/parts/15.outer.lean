section CO
variable {KS : List Kd} {ST : StrT} {own : String} {cc : ByteArray} {nL : Nat} {ret : Option FieldType} {d : Nat} {ρ : Type} {tx : Bool} {FN : FNt ρ} {cost : ρ → Nat × Nat} {pc : Nat} {ls : List (Nat × AV)} {st : List AV} {M : Mem} {o : Option (ρ × Mem)}
theorem c_ldcw {n : Nat} {v : Int32} (hw : Cond.constant own n v ∈ WS) (hd : decode cc pc = .ok (.ldc_w n, 3)) (k : Cor KS ST own cc nL ret d tx FN cost (pc + 3) ls (.inl v :: st) M o) : Cor KS ST own cc nL ret d tx FN cost pc ls st M o :=
  c_step (fun _ _ _ _ _ _ _ _ _ _ _ _ _ _ _ C _ _ _ k => lv_ldcw C.1 C.2.1 C.2.2.2.2.1 (C.2.2.2.2.2.1 _ hw) hd k) k
theorem c_i2c {x v : Int32} (hv : (x.toUInt32 % 65536).toInt32 = v) (hd : decode cc pc = .ok (.i2c, 1)) (k : Cor KS ST own cc nL ret d tx FN cost (pc + 1) ls (.inl v :: st) M o) : Cor KS ST own cc nL ret d tx FN cost pc ls (.inl x :: st) M o :=
  c_step (fun _ _ _ _ _ _ _ _ _ _ _ _ _ _ _ C _ _ _ k => lv_i2c C.1 C.2.1 hd hv k) k
theorem c_ldcS {n j : Nat} {text : String} (hm : (own, n, text, j) ∈ ST) (hd : decode cc pc = .ok (.ldc n, 2)) (k : Cor KS ST own cc nL ret d tx FN cost (pc + 2) ls (.inr j :: st) M o) : Cor KS ST own cc nL ret d tx FN cost pc ls st M o :=
  c_step (fun _ _ _ _ _ _ _ _ _ wp _ _ _ _ _ C _ _ _ k => va_ldcS (q := wp.1 j) C.1 C.2.1 C.2.2.2.2.1 (C.2.2.2.2.2.2.2.2.1.2.1 _ hm) hd k) k
theorem hS_B0 {wp : Wp} {s : State} {H : Heap} {locs : List Loc} (ok : okW KS wp) (hbz : wp.2.2.2 ≤ s.heap.size) (hS : va_S (Aw KS wp s.heap.size) s.heap H locs) : va_S (B0 wp) s.heap H locs := ⟨hS.1, fun q h1 h2 => hS.2.1 q h1 (fun h => h2 (Aw_B0 ok hbz q h)), fun l hl => Aw_B0 ok hbz _ (hS.2.2 l hl)⟩
/-- a static array of the class -/
theorem c_gets {n j : Nat} {host : String} (hj : 900 ≤ j ∧ j < 903) (hw : Cond.fieldLinkNest own n "ProcessingMemory" (statN j) "[I" host ∈ nestW) (hd : decode cc pc = .ok (.getstatic n, 3)) (k : Cor KS ST own cc nL ret d tx FN cost (pc + 3) ls (.inr j :: st) M o) : Cor KS ST own cc nL ret d tx FN cost pc ls st M o := by
  refine c_step (fun p l e s m args below meth c wp H locs la r Q C hP hS hl kk => ?_) k
  obtain ⟨hx, hb, hr, hml, hown, hts, hlk, hKK, hE, ok, hbz, -⟩ := C
  exact va_getsN hx hb (hE.2.2.2.2.2.2.2 j hj).1 (hS_B0 ok hbz hS) hown (va_Nw.use rfl (hE.1 _ hw)) (fun x h => h) hd kk
theorem c_sald {j : Nat} {i : Int32} (hj : 900 ≤ j ∧ j < 903) (hi : inb i 9) (hd : decode cc pc = .ok (.iaload, 1)) (k : Cor KS ST own cc nL ret d tx FN cost (pc + 1) ls (.inl (statA j (ix i)) :: st) M o) : Cor KS ST own cc nL ret d tx FN cost pc ls (.inl i :: .inr j :: st) M o := by
  refine c_step (fun p l e s m args below meth c wp H locs la r Q C hP hS hl kk => ?_) k
  obtain ⟨hx, hb, hr, hml, hown, hts, hlk, hKK, hE, ok, hbz, -⟩ := C
  exact va_ti hx hb (hE.2.2.2.2.2.2.2 j hj).2 (hS_B0 ok hbz hS) hi rfl hd kk
theorem c_copyS {idx j b n1 : Nat} {sp dp n : Int32} (hlink : Cond.methodLink own idx arraycopyName ∈ WS) (hj : 900 ≤ j ∧ j < 903) (hKb : KS[b]? = some (20, n1)) (hc : cpOk 9 n1 sp dp n) (hd0 : 0 < d) (hrs : st.length ≤ 8) (hd : decode cc pc = .ok (.invokestatic idx, 3)) (kk : Cor KS ST own cc nL ret d tx FN cost (pc + 3) ls st (upA M b (va_cpy (statA j) (M b) (ix sp) (ix dp) (ix n))) o) : Cor KS ST own cc nL ret d tx FN cost pc ls (.inl n :: .inl dp :: .inr b :: .inl sp :: .inr j :: st) M o := by
  intro p l e s m args below meth c wp H locs la r M' C hP hS hl hnd ho
  obtain ⟨hx, hb, hr, hml, hown, hts, hlk, hKK, hE, ok, hbz, -⟩ := id C
  obtain ⟨h1, h2, h3, h4, h5⟩ := hc
  have nn : ∀ z : Int32, ¬ z < 0 → z.toInt = (z.toNatClampNeg : Int) := by
    intro z hz
    have hz0 : (0 : Int) ≤ z.toInt := by
      have := Int32.not_lt.mp hz
      simpa using Int32.le_iff_toInt_le.mp this
    show z.toInt = ((z.toInt.toNat : Nat) : Int)
    omega
  have hD := wl_D ok M s.heap.size
  intro T hT X
  have hS0 := hS_B0 ok hbz hS
  obtain ⟨scr, hs1, hs2, hs3, hs4, -, hs5, hs7⟩ := (hE.2.2.2.2.2.2.2 j hj).2
  have hc0 : H[wp.1 j]? = some scr := by rw [hS0.2.1 _ (Array.getElem?_eq_some_iff.mp hs1).1 hs7]; exact hs1
  have hc1 : H[wp.1 b]? = some (vp_cell (wp.2.2.1 0) (n1, .inl (M b))) := hP b _ (wl_get hKb)
  obtain ⟨hs6, k0, hk0, cm0, hkk0⟩ := hs2
  obtain ⟨-, k1, hk1, cm1, hkk1⟩ := (hKK.2 0 _ rfl).1 n1 (fun i => .int (M b i))
  have h4' : sp.toNatClampNeg + n.toNatClampNeg ≤ 9 := h4
  have h5' : dp.toNatClampNeg + n.toNatClampNeg ≤ n1 := h5
  obtain ⟨vm', X', step⟩ := X.arraycopy hx hown (hts _ hlink) (hts _ wx_arraycopy_native) (hts _ wx_arraycopy_static) (hts _ wx_System) (src := wp.1 j) (dst := wp.1 b) (cs := scr) (cd := vp_cell (wp.2.2.1 0) (n1, .inl (M b))) (srcPos := sp) (destPos := dp) (n := n) (by rw [hT]; exact hc0) (by rw [hT]; exact hc1)
    hs6 (fun _ h => by cases h) hs3 (fun h => by cases h) hk0 hk1 hkk0 hkk1 (by simp [refKind]) h1 h2 h3
    (by rw [nn sp h1, nn n h3]; omega)
    (by rw [nn dp h2, nn n h3]; show ¬ _ > ((arrV _ n1 (fun i => .int (M b i))).slots.size : Int); rw [arrV_size]; omega)
    (fun vm₁ _ i hi => by
      have e : scr.slots.getD (sp.toNatClampNeg + i) .null = .int (statA j (sp.toNatClampNeg + i)) := by
        rw [Array.getD_eq_getD_getElem?, hs5 _ (by omega)]
        rfl
      refine ⟨?_, ?_⟩
      · rw [e]; rfl
      · rw [e]; exact trivial)
    (g := F0 m pc la (trs wp (.inl n :: .inl dp :: .inr b :: .inl sp :: .inr j :: st))) rfl (by rw [hml]; exact hl.1) (rest := trs wp st) rfl (by rw [hb]; exact hd) hd0 (by show 2 * 0 + _ + _ ≤ _; rw [trs_cat]; have := cp_room (k := st.length) hrs hd0; show 2 * 0 + st.length + _ ≤ 64 * d; omega)
  have e1 : copied scr (vp_cell (wp.2.2.1 0) (n1, .inl (M b))) sp dp n = vp_cell (wp.2.2.1 0) (n1, .inl (va_cpy (statA j) (M b) sp.toNatClampNeg dp.toNatClampNeg n.toNatClampNeg)) := va_copiedX (fun z => .int z) scr (wp.2.2.1 0) (statA j) (M b) hs5 h4'
  rw [e1] at X' step
  have hlt : wp.1 b < H.size := (Array.getElem?_eq_some_iff.mp hc1).1
  have oq : ∀ q : Nat, q ≠ wp.1 b → (H.setIfInBounds (wp.1 b) (vp_cell (wp.2.2.1 0) (n1, .inl (va_cpy (statA j) (M b) sp.toNatClampNeg dp.toNatClampNeg n.toNatClampNeg))))[q]? = H[q]? := fun q hq => by simp [Array.getElem?_setIfInBounds, Ne.symm hq]
  have hat : va_at wp.2.1 clX (wp.1 b, ent wp b (20, n1) (va_cpy (statA j) (M b) (ix sp) (ix dp) (ix n))) (H.setIfInBounds (wp.1 b) (vp_cell (wp.2.2.1 0) (n1, .inl (va_cpy (statA j) (M b) sp.toNatClampNeg dp.toNatClampNeg n.toNatClampNeg)))) := by
    show (H.setIfInBounds (wp.1 b) _)[wp.1 b]? = some (vp_cell (wp.2.2.1 0) (n1, .inl (va_cpy (statA j) (M b) sp.toNatClampNeg dp.toNatClampNeg n.toNatClampNeg)))
    simp [Array.getElem?_setIfInBounds, hlt]
  have hP1 := hP.set hD (wl_get (wp := wp) (M := M) hKb) hat oq
  rw [wl_set hKb] at hP1
  obtain ⟨t, a1, b1⟩ := kk p l e s m args below meth c wp _ _ la r M' C hP1 ⟨by simp; exact hS.1, fun q g1 g2 => by
      rw [oq q (fun e => g2 (by rw [e]; exact hD.2 b _ (wl_get hKb)))]
      exact hS.2.1 q g1 g2, fun q hq => by
      rcases List.mem_append.mp hq with h | h
      · exact hS.2.2 q h
      · obtain ⟨z, -, hz⟩ := List.mem_map.mp h
        rw [← hz]
        exact hD.2 b _ (wl_get hKb)⟩ hl hnd ho _ (show ((T.setVm vm').setCell (wp.1 b) _).heap = _ by rw [← hT]; rfl) X'
  exact ⟨t, step t a1, b1⟩
/-! String constants: their bytes -/
theorem c_strVal {n j : Nat} (hj : strOk j) (hw : Cond.fieldLink own n "java/lang/String" "value" "[B" ∈ WS) (hd : decode cc pc = .ok (.getfield n, 3)) (k : Cor KS ST own cc nL ret d tx FN cost (pc + 3) ls (.inr (j + 1000) :: st) M o) : Cor KS ST own cc nL ret d tx FN cost pc ls (.inr j :: st) M o := by
  refine c_step (fun p l e s m args below meth c wp H locs la r Q C hP hS hl kk => ?_) k
  obtain ⟨hx, hb, hr, hml, hown, hts, hlk, hKK, hE, ok, hbz, -⟩ := C
  exact vk_getf hx hb (hE.2.2.2.2.1 j hj).2.2.1 (hS_B0 ok hbz hS) hown (hts _ hw) (fun x h => h) hd kk
theorem c_strCoder {n j : Nat} (hj : strOk j) (hw : Cond.fieldLink own n "java/lang/String" "coder" "B" ∈ WS) (hd : decode cc pc = .ok (.getfield n, 3)) (k : Cor KS ST own cc nL ret d tx FN cost (pc + 3) ls (.inl 0 :: st) M o) : Cor KS ST own cc nL ret d tx FN cost pc ls (.inr j :: st) M o := by
  refine c_step (fun p l e s m args below meth c wp H locs la r Q C hP hS hl kk => ?_) k
  obtain ⟨hx, hb, hr, hml, hown, hts, hlk, hKK, hE, ok, hbz, -⟩ := C
  exact vk_getf hx hb (hE.2.2.2.2.1 j hj).2.1 (hS_B0 ok hbz hS) hown (hts _ hw) (fun x h => h) hd kk
theorem c_compact {n : Nat} (hw : Cond.fieldLink own n "java/lang/String" "COMPACT_STRINGS" "Z" ∈ WS) (hd : decode cc pc = .ok (.getstatic n, 3)) (k : Cor KS ST own cc nL ret d tx FN cost (pc + 3) ls (.inl 1 :: st) M o) : Cor KS ST own cc nL ret d tx FN cost pc ls st M o := by
  refine c_step (fun p l e s m args below meth c wp H locs la r Q C hP hS hl kk => ?_) k
  obtain ⟨hx, hb, hr, hml, hown, hts, hlk, hKK, hE, ok, hbz, -⟩ := C
  exact va_gets hx hb hE.2.2.2.2.2.1 (hS_B0 ok hbz hS) hown (hts _ hw) (fun x h => h) hd kk
theorem c_blen {j : Nat} (hj : strOk j) (hd : decode cc pc = .ok (.arraylength, 1)) (k : Cor KS ST own cc nL ret d tx FN cost (pc + 1) ls (.inl (nI (slen j)) :: st) M o) : Cor KS ST own cc nL ret d tx FN cost pc ls (.inr (j + 1000) :: st) M o := by
  refine c_step (fun p l e s m args below meth c wp H locs la r Q C hP hS hl kk => ?_) k
  obtain ⟨hx, hb, hr, hml, hown, hts, hlk, hKK, hE, ok, hbz, -⟩ := C
  exact va_tlen hx hb (hE.2.2.2.2.1 j hj).2.2.2 (hS_B0 ok hbz hS) rfl hd kk
theorem c_bld {j : Nat} {i : Int32} (hj : strOk j) (hi : inb i (slen j)) (hd : decode cc pc = .ok (.baload, 1)) (k : Cor KS ST own cc nL ret d tx FN cost (pc + 1) ls (.inl (sbyt j (ix i)) :: st) M o) : Cor KS ST own cc nL ret d tx FN cost pc ls (.inl i :: .inr (j + 1000) :: st) M o := by
  refine c_step (fun p l e s m args below meth c wp H locs la r Q C hP hS hl kk => ?_) k
  obtain ⟨hx, hb, hr, hml, hown, hts, hlk, hKK, hE, ok, hbz, -⟩ := C
  exact va_tb hx hb (hE.2.2.2.2.1 j hj).2.2.2 (hS_B0 ok hbz hS) hi rfl hd kk
/-- a call of a method of a String constant that writes nothing -/
theorem c_callStr {md : MD} {d2 idx n j : Nat} {as rs : List AV} {v : Int32} {st0 : List AV} (hj : strOk j) (hE : Ev KS ST md d2 (.inr j :: as) M (some (v, M))) (hst : as.reverse ++ .inr j :: rs = st0) (hd2 : d2 < d) (hw : mdW md) (hi : Cond.instanceMethod md.1 ∈ WS) (hsel : Cond.selects "java/lang/String" md.1 md.1 ∈ WS) (hlink : Cond.methodLink own idx md.1 ∈ WS) (hn : (parseMethodDescriptor md.1.desc).map (fun d => d.parameters.length) = some n) (hlen : as.length = n) (hmL : md.2.2.1 ≤ 45) (hrs : rs.length ≤ 8) (hret : ∃ ty, md.2.2.2 = some ty) (hd : decode cc pc = .ok (.invokevirtual idx, 3))
    (kk : Cor KS ST own cc nL ret d tx FN cost (pc + 3) ls (.inl v :: rs) M o) : Cor KS ST own cc nL ret d tx FN cost pc ls st0 M o := by
  intro p l e s m args below meth c wp H locs la r M' C hP hS hl hnd ho
  subst hst
  obtain ⟨hx, hb, hr, hml, hown, hts, hlk, hKK, hEx, ok, hbz, hst, -⟩ := id C
  have hM := hE l wp H.size v M hst ok (Nat.le_trans hbz hS.1) rfl
  obtain ⟨cell, g1, g2, g3, -⟩ := (hEx.2.2.2.2.1 j hj).1.kept (hS_B0 ok hbz hS).2.1
  have hr0 := va_runV (As := trs wp as) (rest := trs wp rs) (b := wp.1 j) (C := "java/lang/String") (n := n) (R := rmd d (cost r)) (below := below) (meth := meth) (e := e) (locs := locs) (g := F0 m pc la (trs wp (as.reverse ++ .inr j :: rs))) (cells := 0) (slots := 0) ⟨hx, hb, hml, hown, hts⟩ hM ⟨callB_of n hts (md_good hw) rfl rfl rfl (hts _ hw.2.1) (hts _ hlink) ⟨hw.2.2.1, hw.2.2.2, hn⟩ (room_ok hd2 hmL), hts _ hi, hts _ hsel⟩ ⟨pcW_blind, ⟨cell, g1, g2, g3⟩, fun U hU hW => pcW_at (as := .inr j :: as) ok hbz hP hKK hEx hS hU hW⟩ rfl (by simpa [trs] using hlen) hl.1 (by simp [trs, tr]) (lv_room (by rw [trs_cat]; exact hrs)) hd ⟨Nat.zero_le _, Nat.zero_le _⟩
  exact call_back (as := .inr j :: as) (d2 := 0) (oc := none) hret hr0 hS (fun H1 locs1 hP1 hS1 => kk p l e s m args below meth c wp H1 locs1 la r M' C hP1 hS1 hl hnd ho)
end CO
section CN
variable {KS : List Kd} {ST : StrT} {own : String} {cc : ByteArray} {nL : Nat} {ret : Option FieldType} {d : Nat} {pc : Nat} {ls : List (Nat × AV)} {st : List AV} {M : Mem}
theorem c_nret {v : Int32} {ty : FieldType} (hr : ret = some ty) (hv : narrow ty (.int v) = .int v) (hd : decode cc pc = .ok (.ireturn, 1)) : CorM KS ST own cc nL ret d pc ls [.inl v] M (some (v, M)) := by
  intro p l e s m args below meth c wp H locs la r M' C hP hS hl hn ho
  cases ho
  obtain ⟨hx, hb, hr0, hml, hown, hts, hlk, hKK, hE, ok, hbz, -⟩ := id C
  subst hr
  exact W.zret hx hb hr0 hv (fun t ht hW => ⟨⟨v, (), rfl, rfl, by rw [ht]; exact hP, va_K.moved hW.alike hKK, by rw [ht]; exact hE.next hW (fun a h1 h2 => hS.2.1 a h1 (fun h => h2 (Aw_B0 ok hbz a h)))⟩, hS.F ht⟩) hS.2.2 hd hlk
end CN
