def DX9_longestChain (σ : gSt) : Option (Int × gSt) :=
  (DX9_longest σ).bind fun q2 => (DX9_tells q2.2 q2.1).bind fun q5 => some (q5.1, q5.2)
set_option maxHeartbeats 4000000 in
set_option maxRecDepth 100000 in
theorem metX9_longestChain (l : Launch) (D : va_G) (G : gAd) (σ : gSt) (μ : gLg) (r : Int) (σ' : gSt) (h : DX9_longestChain σ = some (r, σ')) : Met l yX9_longestChain (gWs yX9_longestChain cX9_longestChain 1 (some (Jvm.ClassFile.FieldType.int))) ({ frames := 4, cells := 0, slots := 0, locals := 87 } : Room) (gPc D G [.ref (G.1 136)] σ μ) (gQi D G r σ' μ) 0 0 (gA G) := by
  refine Met.ofW (cc := cX9_longestChain) (maxL := 1) (ret := (some (Jvm.ClassFile.FieldType.int))) (by decide) rfl ?_
  intro p e s m args below meth c s₁ B hml hv
  obtain ⟨rfl, hP, hX⟩ := hv
  have hx := B.exec
  have hb0 := B.bytes
  have hr := B.returns
  have hts0 := atoms_spec (ws := (gWs yX9_longestChain cX9_longestChain 1 (some (Jvm.ClassFile.FieldType.int)))) B.pre
  have hts : ∀ w ∈ gLW, w.before _ s = true := fun w hw => hts0 w (List.mem_cons_of_mem _ hw)
  have hown : s.vm.findClass RX9 = some m.cls := findClass_of_methodNamed B.named
  have hlocks := B.notSynchronized
  have hH : gH D G s s.heap [] σ μ := ⟨hP, va_S.rf⟩
  have hl := lv_entry ([.ref (G.1 136)]) (n := 1) (Nat.le_of_ble_eq_true rfl)
  rw [lg_entry_eq]
  generalize (lg_sl ([.ref (G.1 136)]) ++ List.replicate (1 - (lg_sl ([.ref (G.1 136)])).length) Slot.unset).toArray = ls at hl ⊢
  have hl : lv_has ls 1 [(0, .ref (G.1 136))] := hl
  unfold DX9_longestChain at h
  refine lv_aload_n hx hb0 dX9_longestChain_0 rfl (lv_at hl 0 rfl) ?_
  refine lv_aload_n hx hb0 dX9_longestChain_1 rfl (lv_at hl 0 rfl) ?_
  obtain ⟨q2, e2, h⟩ := gBind_some h
  refine g_callVi (k := 136) (T := TX9) (N := 19) (As := []) (rest := [.ref (G.1 136)]) ⟨hx, hb0, hml, hown, hts⟩ (metX9_longest l D G σ μ q2.1 q2.2 e2) (g_cwV (C := RX9) 0 hts q_ml_X9_177 q_im_X9_longest q_se_X9_longest q_in_X9 q_co_X9_longest ⟨rfl, rfl⟩ (by decide +kernel) ⟨Nat.le_of_ble_eq_true rfl, Nat.le_of_ble_eq_true rfl⟩) hX hH (rfl : gKinds[136]? = _) rfl rfl hl.1 rfl (Nat.le_of_ble_eq_true rfl) dX9_longestChain_2 ⟨Nat.zero_le _, Nat.zero_le _⟩ (fun H locs hH => ?_)
  obtain ⟨q5, e5, h⟩ := gBind_some h
  refine g_callVi (k := 136) (T := TX9) (N := 19) (As := [.int (gI q2.1)]) (rest := []) ⟨hx, hb0, hml, hown, hts⟩ (metX9_tells l D G q2.2 μ q2.1 q5.1 q5.2 e5) (g_cwV (C := RX9) 1 hts q_ml_X9_47 q_im_X9_tells q_se_X9_tells q_in_X9 q_co_X9_tells ⟨rfl, rfl⟩ (by decide +kernel) ⟨Nat.le_of_ble_eq_true rfl, Nat.le_of_ble_eq_true rfl⟩) hX hH (rfl : gKinds[136]? = _) rfl rfl hl.1 rfl (Nat.le_of_ble_eq_true rfl) dX9_longestChain_5 ⟨Nat.zero_le _, Nat.zero_le _⟩ (fun H locs hH => ?_)
  exact g_iretS hx hb0 hr hH hlocks dX9_longestChain_8 h
def DX9_append (σ : gSt) (a1 : Int) : Option (Int × gSt) :=
  (DX9_in σ a1 (0 : Int) (127 : Int)).bind fun q4 => gIf (q4 = (0 : Int)) q4 (0 : Int) ((DX9_fails σ (1 : Int)).bind fun q12 => some (q12.1, q12.2)) (gIf ((σ 136 5) = (150 : Int)) (σ 136 5) (150 : Int) ((DX9_fails σ (2 : Int)).bind fun q28 => some (q28.1, q28.2)) (gAt (σ 136 5) 150 ((DX9_tells (gUp (gUp σ 140 (Int.toNat (σ 136 5)) a1) 136 5 (((gUp σ 140 (Int.toNat (σ 136 5)) a1) 136 5) + (1 : Int))) ((gUp (gUp σ 140 (Int.toNat (σ 136 5)) a1) 136 5 (((gUp σ 140 (Int.toNat (σ 136 5)) a1) 136 5) + (1 : Int))) 136 5)).bind fun q57 => some (q57.1, q57.2))))
set_option maxHeartbeats 4000000 in
set_option maxRecDepth 100000 in
theorem metX9_append (l : Launch) (D : va_G) (G : gAd) (σ : gSt) (μ : gLg) (a1 : Int) (r : Int) (σ' : gSt) (h : DX9_append σ a1 = some (r, σ')) : Met l yX9_append (gWs yX9_append cX9_append 2 (some (Jvm.ClassFile.FieldType.int))) ({ frames := 1, cells := 0, slots := 0, locals := 22 } : Room) (gPc D G [.ref (G.1 136), .int (gI a1)] σ μ) (gQi D G r σ' μ) 0 0 (gA G) := by
  refine Met.ofW (cc := cX9_append) (maxL := 2) (ret := (some (Jvm.ClassFile.FieldType.int))) (by decide) rfl ?_
  intro p e s m args below meth c s₁ B hml hv
  obtain ⟨rfl, hP, hX⟩ := hv
  have hx := B.exec
  have hb0 := B.bytes
  have hr := B.returns
  have hts0 := atoms_spec (ws := (gWs yX9_append cX9_append 2 (some (Jvm.ClassFile.FieldType.int)))) B.pre
  have hts : ∀ w ∈ gLW, w.before _ s = true := fun w hw => hts0 w (List.mem_cons_of_mem _ hw)
  have hown : s.vm.findClass RX9 = some m.cls := findClass_of_methodNamed B.named
  have hlocks := B.notSynchronized
  have hH : gH D G s s.heap [] σ μ := ⟨hP, va_S.rf⟩
  have hl := lv_entry ([.ref (G.1 136), .int (gI a1)]) (n := 2) (Nat.le_of_ble_eq_true rfl)
  rw [lg_entry_eq]
  generalize (lg_sl ([.ref (G.1 136), .int (gI a1)]) ++ List.replicate (2 - (lg_sl ([.ref (G.1 136), .int (gI a1)])).length) Slot.unset).toArray = ls at hl ⊢
  have hl : lv_has ls 2 [(0, .ref (G.1 136)), (1, .int (gI a1))] := hl
  unfold DX9_append at h
  refine lv_iload_n hx hb0 dX9_append_0 rfl (lv_at hl 1 rfl) ?_
  refine lv_iconst (v := gI (0 : Int)) hx hb0 dX9_append_1 (by decide) ?_
  refine lv_bipush (v := gI (127 : Int)) hx hb0 dX9_append_2 (by decide) ?_
  obtain ⟨q4, e4, h⟩ := gBind_some h
  refine g_callSi (As := [.int (gI a1), .int (gI (0 : Int)), .int (gI (127 : Int))]) (rest := []) ⟨hx, hb0, hml, hown, hts⟩ (metX9_in l D G σ μ a1 (0 : Int) (127 : Int) q4 e4) (g_cwS 3 hts q_ml_X9_51 q_st_X9_in q_in_X9 q_co_X9_in ⟨rfl, rfl⟩ (by decide +kernel) ⟨Nat.le_of_ble_eq_true rfl, Nat.le_of_ble_eq_true rfl⟩) hX hH rfl hl.1 rfl (Nat.le_of_ble_eq_true rfl) dX9_append_4 ⟨Nat.zero_le _, Nat.zero_le _⟩ (fun H locs hH => ?_)
  refine g_if_ne (tgt := 16) hx hb0 dX9_append_7 (by decide) h (fun h => ?_) (fun h => ?_)
  · refine lv_aload_n hx hb0 dX9_append_16 rfl (lv_at hl 0 rfl) ?_
    refine g_getI hx hb0 hts q_ws_X9 hown hX hH (C := RX9) (T := TX9) (N := 19) (k := 136) (i := 5) (rfl : gKinds[136]? = _) rfl (by decide) (hts _ q_fl_X9_181) rfl rfl dX9_append_17 ?_
    refine lv_sipush (v := gI (150 : Int)) hx hb0 dX9_append_20 (by decide) ?_
    refine g_icmp_ne (tgt := 32) hx hb0 dX9_append_23 (by decide) h (fun h => ?_) (fun h => ?_)
    · refine lv_aload_n hx hb0 dX9_append_32 rfl (lv_at hl 0 rfl) ?_
      refine g_getR hx hb0 hts q_ws_X9 hown hX hH (C := RX9) (T := TX9) (N := 19) (k := 136) (i := 4) (j := 140) (rfl : gKinds[136]? = _) rfl (by decide) (hts _ q_fl_X9_19) rfl rfl dX9_append_33 ?_
      refine lv_aload_n hx hb0 dX9_append_36 rfl (lv_at hl 0 rfl) ?_
      refine g_getI hx hb0 hts q_ws_X9 hown hX hH (C := RX9) (T := TX9) (N := 19) (k := 136) (i := 5) (rfl : gKinds[136]? = _) rfl (by decide) (hts _ q_fl_X9_181) rfl rfl dX9_append_37 ?_
      refine lv_iload_n hx hb0 dX9_append_40 rfl (lv_at hl 1 rfl) ?_
      refine g_iast hx hb0 hX hH (k := 140) (rfl : gKinds[140]? = _) (by decide) dX9_append_41 h (fun h H locs hH => ?_)
      refine lv_aload_n hx hb0 dX9_append_42 rfl (lv_at hl 0 rfl) ?_
      refine lv_dup hx hb0 dX9_append_43 rfl ?_
      refine g_getI hx hb0 hts q_ws_X9 hown hX hH (C := RX9) (T := TX9) (N := 19) (k := 136) (i := 5) (rfl : gKinds[136]? = _) rfl (by decide) (hts _ q_fl_X9_181) rfl rfl dX9_append_44 ?_
      refine lv_iconst (v := gI (1 : Int)) hx hb0 dX9_append_47 (by decide) ?_
      refine g_iadd hx hb0 dX9_append_48 ?_
      refine g_putI hx hb0 hts q_ws_X9 tyX9 tyX9_ok nmX9 hown hX hH (C := RX9) (T := TX9) (N := 19) (k := 136) (i := 5) (rfl : gKinds[136]? = _) rfl (by decide) (hts _ q_fl_X9_181) rfl rfl rfl rfl dX9_append_49 (fun H locs hH => ?_)
      refine lv_aload_n hx hb0 dX9_append_52 rfl (lv_at hl 0 rfl) ?_
      refine lv_aload_n hx hb0 dX9_append_53 rfl (lv_at hl 0 rfl) ?_
      refine g_getI hx hb0 hts q_ws_X9 hown hX hH (C := RX9) (T := TX9) (N := 19) (k := 136) (i := 5) (rfl : gKinds[136]? = _) rfl (by decide) (hts _ q_fl_X9_181) rfl rfl dX9_append_54 ?_
      obtain ⟨q57, e57, h⟩ := gBind_some h
      refine g_callVi (k := 136) (T := TX9) (N := 19) (As := [.int (gI ((gUp (gUp σ 140 (Int.toNat (σ 136 5)) a1) 136 5 (((gUp σ 140 (Int.toNat (σ 136 5)) a1) 136 5) + (1 : Int))) 136 5))]) (rest := []) ⟨hx, hb0, hml, hown, hts⟩ (metX9_tells l D G (gUp (gUp σ 140 (Int.toNat (σ 136 5)) a1) 136 5 (((gUp σ 140 (Int.toNat (σ 136 5)) a1) 136 5) + (1 : Int))) μ ((gUp (gUp σ 140 (Int.toNat (σ 136 5)) a1) 136 5 (((gUp σ 140 (Int.toNat (σ 136 5)) a1) 136 5) + (1 : Int))) 136 5) q57.1 q57.2 e57) (g_cwV (C := RX9) 1 hts q_ml_X9_47 q_im_X9_tells q_se_X9_tells q_in_X9 q_co_X9_tells ⟨rfl, rfl⟩ (by decide +kernel) ⟨Nat.le_of_ble_eq_true rfl, Nat.le_of_ble_eq_true rfl⟩) hX hH (rfl : gKinds[136]? = _) rfl rfl hl.1 rfl (Nat.le_of_ble_eq_true rfl) dX9_append_57 ⟨Nat.zero_le _, Nat.zero_le _⟩ (fun H locs hH => ?_)
      exact g_iretS hx hb0 hr hH hlocks dX9_append_60 h
    · refine lv_aload_n hx hb0 dX9_append_26 rfl (lv_at hl 0 rfl) ?_
      refine lv_iconst (v := gI (2 : Int)) hx hb0 dX9_append_27 (by decide) ?_
      obtain ⟨q28, e28, h⟩ := gBind_some h
      refine g_callVi (k := 136) (T := TX9) (N := 19) (As := [.int (gI (2 : Int))]) (rest := []) ⟨hx, hb0, hml, hown, hts⟩ (metX9_fails l D G σ μ (2 : Int) q28.1 q28.2 e28) (g_cwV (C := RX9) 1 hts q_ml_X9_63 q_im_X9_fails q_se_X9_fails q_in_X9 q_co_X9_fails ⟨rfl, rfl⟩ (by decide +kernel) ⟨Nat.le_of_ble_eq_true rfl, Nat.le_of_ble_eq_true rfl⟩) hX hH (rfl : gKinds[136]? = _) rfl rfl hl.1 rfl (Nat.le_of_ble_eq_true rfl) dX9_append_28 ⟨Nat.zero_le _, Nat.zero_le _⟩ (fun H locs hH => ?_)
      exact g_iretS hx hb0 hr hH hlocks dX9_append_31 h
  · refine lv_aload_n hx hb0 dX9_append_10 rfl (lv_at hl 0 rfl) ?_
    refine lv_iconst (v := gI (1 : Int)) hx hb0 dX9_append_11 (by decide) ?_
    obtain ⟨q12, e12, h⟩ := gBind_some h
    refine g_callVi (k := 136) (T := TX9) (N := 19) (As := [.int (gI (1 : Int))]) (rest := []) ⟨hx, hb0, hml, hown, hts⟩ (metX9_fails l D G σ μ (1 : Int) q12.1 q12.2 e12) (g_cwV (C := RX9) 1 hts q_ml_X9_63 q_im_X9_fails q_se_X9_fails q_in_X9 q_co_X9_fails ⟨rfl, rfl⟩ (by decide +kernel) ⟨Nat.le_of_ble_eq_true rfl, Nat.le_of_ble_eq_true rfl⟩) hX hH (rfl : gKinds[136]? = _) rfl rfl hl.1 rfl (Nat.le_of_ble_eq_true rfl) dX9_append_12 ⟨Nat.zero_le _, Nat.zero_le _⟩ (fun H locs hH => ?_)
    exact g_iretS hx hb0 hr hH hlocks dX9_append_15 h
def DX9_clearText (σ : gSt) : Option (Int × gSt) :=
  (DX9_tells (gUp σ 136 5 (0 : Int)) (σ 136 5)).bind fun q12 => some (q12.1, q12.2)
set_option maxHeartbeats 4000000 in
set_option maxRecDepth 100000 in
theorem metX9_clearText (l : Launch) (D : va_G) (G : gAd) (σ : gSt) (μ : gLg) (r : Int) (σ' : gSt) (h : DX9_clearText σ = some (r, σ')) : Met l yX9_clearText (gWs yX9_clearText cX9_clearText 2 (some (Jvm.ClassFile.FieldType.int))) ({ frames := 1, cells := 0, slots := 0, locals := 21 } : Room) (gPc D G [.ref (G.1 136)] σ μ) (gQi D G r σ' μ) 0 0 (gA G) := by
  refine Met.ofW (cc := cX9_clearText) (maxL := 2) (ret := (some (Jvm.ClassFile.FieldType.int))) (by decide) rfl ?_
  intro p e s m args below meth c s₁ B hml hv
  obtain ⟨rfl, hP, hX⟩ := hv
  have hx := B.exec
  have hb0 := B.bytes
  have hr := B.returns
  have hts0 := atoms_spec (ws := (gWs yX9_clearText cX9_clearText 2 (some (Jvm.ClassFile.FieldType.int)))) B.pre
  have hts : ∀ w ∈ gLW, w.before _ s = true := fun w hw => hts0 w (List.mem_cons_of_mem _ hw)
  have hown : s.vm.findClass RX9 = some m.cls := findClass_of_methodNamed B.named
  have hlocks := B.notSynchronized
  have hH : gH D G s s.heap [] σ μ := ⟨hP, va_S.rf⟩
  have hl := lv_entry ([.ref (G.1 136)]) (n := 2) (Nat.le_of_ble_eq_true rfl)
  rw [lg_entry_eq]
  generalize (lg_sl ([.ref (G.1 136)]) ++ List.replicate (2 - (lg_sl ([.ref (G.1 136)])).length) Slot.unset).toArray = ls at hl ⊢
  have hl : lv_has ls 2 [(0, .ref (G.1 136))] := hl
  unfold DX9_clearText at h
  refine lv_aload_n hx hb0 dX9_clearText_0 rfl (lv_at hl 0 rfl) ?_
  refine g_getI hx hb0 hts q_ws_X9 hown hX hH (C := RX9) (T := TX9) (N := 19) (k := 136) (i := 5) (rfl : gKinds[136]? = _) rfl (by decide) (hts _ q_fl_X9_181) rfl rfl dX9_clearText_1 ?_
  refine lv_istore_n (lv' := [(1, .int (gI (σ 136 5))), (0, .ref (G.1 136))]) hx hb0 dX9_clearText_4 rfl hl (by decide) rfl (fun ls hl => ?_)
  refine lv_aload_n hx hb0 dX9_clearText_5 rfl (lv_at hl 1 rfl) ?_
  refine lv_iconst (v := gI (0 : Int)) hx hb0 dX9_clearText_6 (by decide) ?_
  refine g_putI hx hb0 hts q_ws_X9 tyX9 tyX9_ok nmX9 hown hX hH (C := RX9) (T := TX9) (N := 19) (k := 136) (i := 5) (rfl : gKinds[136]? = _) rfl (by decide) (hts _ q_fl_X9_181) rfl rfl rfl rfl dX9_clearText_7 (fun H locs hH => ?_)
  refine lv_aload_n hx hb0 dX9_clearText_10 rfl (lv_at hl 1 rfl) ?_
  refine lv_iload_n hx hb0 dX9_clearText_11 rfl (lv_at hl 0 rfl) ?_
  obtain ⟨q12, e12, h⟩ := gBind_some h
  refine g_callVi (k := 136) (T := TX9) (N := 19) (As := [.int (gI (σ 136 5))]) (rest := []) ⟨hx, hb0, hml, hown, hts⟩ (metX9_tells l D G (gUp σ 136 5 (0 : Int)) μ (σ 136 5) q12.1 q12.2 e12) (g_cwV (C := RX9) 1 hts q_ml_X9_47 q_im_X9_tells q_se_X9_tells q_in_X9 q_co_X9_tells ⟨rfl, rfl⟩ (by decide +kernel) ⟨Nat.le_of_ble_eq_true rfl, Nat.le_of_ble_eq_true rfl⟩) hX hH (rfl : gKinds[136]? = _) rfl rfl hl.1 rfl (Nat.le_of_ble_eq_true rfl) dX9_clearText_12 ⟨Nat.zero_le _, Nat.zero_le _⟩ (fun H locs hH => ?_)
  exact g_iretS hx hb0 hr hH hlocks dX9_clearText_15 h
def DX9_isAt (σ : gSt) (a1 : Int) (a2 : Int) : Option (Int) :=
  gIf ((σ 136 16) < (σ 136 5)) (σ 136 16) (σ 136 5) (gAt (σ 136 16) 150 ((DX9_in σ (σ 140 (Int.toNat (σ 136 16))) a1 a2).bind fun q22 => gIf (q22 = (0 : Int)) q22 (0 : Int) (gBo (0 : Int) (some (0 : Int))) (gBo (1 : Int) (some (1 : Int))))) (gBo (0 : Int) (some (0 : Int)))
set_option maxHeartbeats 4000000 in
set_option maxRecDepth 100000 in
theorem metX9_isAt (l : Launch) (D : va_G) (G : gAd) (σ : gSt) (μ : gLg) (a1 : Int) (a2 : Int) (r : Int) (h : DX9_isAt σ a1 a2 = some r) : Met l yX9_isAt (gWs yX9_isAt cX9_isAt 3 (some (Jvm.ClassFile.FieldType.boolean))) ({ frames := 1, cells := 0, slots := 0, locals := 22 } : Room) (gPc D G [.ref (G.1 136), .int (gI a1), .int (gI a2)] σ μ) (gQi D G r σ μ) 0 0 (gA G) := by
  refine Met.ofW (cc := cX9_isAt) (maxL := 3) (ret := (some (Jvm.ClassFile.FieldType.boolean))) (by decide) rfl ?_
  intro p e s m args below meth c s₁ B hml hv
  obtain ⟨rfl, hP, hX⟩ := hv
  have hx := B.exec
  have hb0 := B.bytes
  have hr := B.returns
  have hts0 := atoms_spec (ws := (gWs yX9_isAt cX9_isAt 3 (some (Jvm.ClassFile.FieldType.boolean)))) B.pre
  have hts : ∀ w ∈ gLW, w.before _ s = true := fun w hw => hts0 w (List.mem_cons_of_mem _ hw)
  have hown : s.vm.findClass RX9 = some m.cls := findClass_of_methodNamed B.named
  have hlocks := B.notSynchronized
  have hH : gH D G s s.heap [] σ μ := ⟨hP, va_S.rf⟩
  have hl := lv_entry ([.ref (G.1 136), .int (gI a1), .int (gI a2)]) (n := 3) (Nat.le_of_ble_eq_true rfl)
  rw [lg_entry_eq]
  generalize (lg_sl ([.ref (G.1 136), .int (gI a1), .int (gI a2)]) ++ List.replicate (3 - (lg_sl ([.ref (G.1 136), .int (gI a1), .int (gI a2)])).length) Slot.unset).toArray = ls at hl ⊢
  have hl : lv_has ls 3 [(0, .ref (G.1 136)), (1, .int (gI a1)), (2, .int (gI a2))] := hl
  unfold DX9_isAt at h
  refine lv_aload_n hx hb0 dX9_isAt_0 rfl (lv_at hl 0 rfl) ?_
  refine g_getI hx hb0 hts q_ws_X9 hown hX hH (C := RX9) (T := TX9) (N := 19) (k := 136) (i := 16) (rfl : gKinds[136]? = _) rfl (by decide) (hts _ q_fl_X9_184) rfl rfl dX9_isAt_1 ?_
  refine lv_aload_n hx hb0 dX9_isAt_4 rfl (lv_at hl 0 rfl) ?_
  refine g_getI hx hb0 hts q_ws_X9 hown hX hH (C := RX9) (T := TX9) (N := 19) (k := 136) (i := 5) (rfl : gKinds[136]? = _) rfl (by decide) (hts _ q_fl_X9_181) rfl rfl dX9_isAt_5 ?_
  refine g_icmp_ge (tgt := 32) hx hb0 dX9_isAt_8 (by decide) h (fun h => ?_) (fun h => ?_)
  · refine lv_iconst (v := gI (0 : Int)) hx hb0 dX9_isAt_32 (by decide) ?_
    exact g_zretP hx hb0 hr hH hlocks dX9_isAt_33 h
  · refine lv_aload_n hx hb0 dX9_isAt_11 rfl (lv_at hl 0 rfl) ?_
    refine g_getR hx hb0 hts q_ws_X9 hown hX hH (C := RX9) (T := TX9) (N := 19) (k := 136) (i := 4) (j := 140) (rfl : gKinds[136]? = _) rfl (by decide) (hts _ q_fl_X9_19) rfl rfl dX9_isAt_12 ?_
    refine lv_aload_n hx hb0 dX9_isAt_15 rfl (lv_at hl 0 rfl) ?_
    refine g_getI hx hb0 hts q_ws_X9 hown hX hH (C := RX9) (T := TX9) (N := 19) (k := 136) (i := 16) (rfl : gKinds[136]? = _) rfl (by decide) (hts _ q_fl_X9_184) rfl rfl dX9_isAt_16 ?_
    refine g_iald hx hb0 hX hH (k := 140) (rfl : gKinds[140]? = _) (by decide) dX9_isAt_19 h (fun h => ?_)
    refine lv_iload_n hx hb0 dX9_isAt_20 rfl (lv_at hl 1 rfl) ?_
    refine lv_iload_n hx hb0 dX9_isAt_21 rfl (lv_at hl 2 rfl) ?_
    obtain ⟨q22, e22, h⟩ := gBind_some h
    refine g_callSi (As := [.int (gI (σ 140 (Int.toNat (σ 136 16)))), .int (gI a1), .int (gI a2)]) (rest := []) ⟨hx, hb0, hml, hown, hts⟩ (metX9_in l D G σ μ (σ 140 (Int.toNat (σ 136 16))) a1 a2 q22 e22) (g_cwS 3 hts q_ml_X9_51 q_st_X9_in q_in_X9 q_co_X9_in ⟨rfl, rfl⟩ (by decide +kernel) ⟨Nat.le_of_ble_eq_true rfl, Nat.le_of_ble_eq_true rfl⟩) hX hH rfl hl.1 rfl (Nat.le_of_ble_eq_true rfl) dX9_isAt_22 ⟨Nat.zero_le _, Nat.zero_le _⟩ (fun H locs hH => ?_)
    refine g_if_eq (tgt := 32) hx hb0 dX9_isAt_25 (by decide) h (fun h => ?_) (fun h => ?_)
    · refine lv_iconst (v := gI (0 : Int)) hx hb0 dX9_isAt_32 (by decide) ?_
      exact g_zretP hx hb0 hr hH hlocks dX9_isAt_33 h
    · refine lv_iconst (v := gI (1 : Int)) hx hb0 dX9_isAt_28 (by decide) ?_
      refine lv_goto (tgt := 33) hx hb0 dX9_isAt_29 (by decide) ?_
      exact g_zretP hx hb0 hr hH hlocks dX9_isAt_33 h
def DX9_takes_J21 (σ : gSt) (q3 : Int) (t0_21 : Int) : Option (Int × gSt) :=
  gBo q3 (some (q3, (gUp σ 136 16 ((σ 136 16) + t0_21))))
def DX9_takes (σ : gSt) (a1 : Int) : Option (Int × gSt) :=
  (DX9_isAt σ a1 a1).bind fun q3 => gIf (q3 = (0 : Int)) q3 (0 : Int) ((DX9_takes_J21 σ q3 (0 : Int))) ((DX9_takes_J21 σ q3 (1 : Int)))
set_option maxHeartbeats 4000000 in
set_option maxRecDepth 100000 in
theorem metX9_takes (l : Launch) (D : va_G) (G : gAd) (σ : gSt) (μ : gLg) (a1 : Int) (r : Int) (σ' : gSt) (h : DX9_takes σ a1 = some (r, σ')) : Met l yX9_takes (gWs yX9_takes cX9_takes 3 (some (Jvm.ClassFile.FieldType.boolean))) ({ frames := 2, cells := 0, slots := 0, locals := 44 } : Room) (gPc D G [.ref (G.1 136), .int (gI a1)] σ μ) (gQi D G r σ' μ) 0 0 (gA G) := by
  refine Met.ofW (cc := cX9_takes) (maxL := 3) (ret := (some (Jvm.ClassFile.FieldType.boolean))) (by decide) rfl ?_
  intro p e s m args below meth c s₁ B hml hv
  obtain ⟨rfl, hP, hX⟩ := hv
  have hx := B.exec
  have hb0 := B.bytes
  have hr := B.returns
  have hts0 := atoms_spec (ws := (gWs yX9_takes cX9_takes 3 (some (Jvm.ClassFile.FieldType.boolean)))) B.pre
  have hts : ∀ w ∈ gLW, w.before _ s = true := fun w hw => hts0 w (List.mem_cons_of_mem _ hw)
  have hown : s.vm.findClass RX9 = some m.cls := findClass_of_methodNamed B.named
  have hlocks := B.notSynchronized
  have hH : gH D G s s.heap [] σ μ := ⟨hP, va_S.rf⟩
  have hl := lv_entry ([.ref (G.1 136), .int (gI a1)]) (n := 3) (Nat.le_of_ble_eq_true rfl)
  rw [lg_entry_eq]
  generalize (lg_sl ([.ref (G.1 136), .int (gI a1)]) ++ List.replicate (3 - (lg_sl ([.ref (G.1 136), .int (gI a1)])).length) Slot.unset).toArray = ls at hl ⊢
  have hl : lv_has ls 3 [(0, .ref (G.1 136)), (1, .int (gI a1))] := hl
  unfold DX9_takes at h
  refine lv_aload_n hx hb0 dX9_takes_0 rfl (lv_at hl 0 rfl) ?_
  refine lv_iload_n hx hb0 dX9_takes_1 rfl (lv_at hl 1 rfl) ?_
  refine lv_iload_n hx hb0 dX9_takes_2 rfl (lv_at hl 1 rfl) ?_
  obtain ⟨q3, e3, h⟩ := gBind_some h
  refine g_callVi (k := 136) (T := TX9) (N := 19) (As := [.int (gI a1), .int (gI a1)]) (rest := []) ⟨hx, hb0, hml, hown, hts⟩ (metX9_isAt l D G σ μ a1 a1 q3 e3) (g_cwV (C := RX9) 2 hts q_ml_X9_187 q_im_X9_isAt q_se_X9_isAt q_in_X9 q_co_X9_isAt ⟨rfl, rfl⟩ (by decide +kernel) ⟨Nat.le_of_ble_eq_true rfl, Nat.le_of_ble_eq_true rfl⟩) hX hH (rfl : gKinds[136]? = _) rfl rfl hl.1 rfl (Nat.le_of_ble_eq_true rfl) dX9_takes_3 ⟨Nat.zero_le _, Nat.zero_le _⟩ (fun H locs hH => ?_)
  refine lv_istore_n (lv' := [(2, .int (gI q3)), (0, .ref (G.1 136)), (1, .int (gI a1))]) hx hb0 dX9_takes_6 rfl hl (by decide) rfl (fun ls hl => ?_)
  refine lv_aload_n hx hb0 dX9_takes_7 rfl (lv_at hl 1 rfl) ?_
  refine lv_dup hx hb0 dX9_takes_8 rfl ?_
  refine g_getI hx hb0 hts q_ws_X9 hown hX hH (C := RX9) (T := TX9) (N := 19) (k := 136) (i := 16) (rfl : gKinds[136]? = _) rfl (by decide) (hts _ q_fl_X9_184) rfl rfl dX9_takes_9 ?_
  refine lv_iload_n hx hb0 dX9_takes_12 rfl (lv_at hl 0 rfl) ?_
  have hJ21 : ∀ (t0_21 : Int) (H : Heap) (locs : List Loc) (ls : Array Slot), gH D G s H locs σ μ → lv_has ls 3 [(2, .int (gI q3))] → (DX9_takes_J21 σ q3 t0_21) = some (r, σ') → W p l e (headSpec (gWs yX9_takes cX9_takes 3 (some (Jvm.ClassFile.FieldType.boolean))) ({ frames := 2, cells := 0, slots := 0, locals := 44 } : Room)).room s m ([.ref (G.1 136), .int (gI a1)] : List Value).toArray below meth c H locs 0 0 (MQ below (gQi D G r σ' μ) ([.ref (G.1 136), .int (gI a1)] : List Value).toArray s 0 0 (gA G)) (F0 m 21 ls [.int (gI t0_21), .int (gI (σ 136 16)), .ref (G.1 136)]) := by
    intro t0_21 H locs ls hH hl h
    unfold DX9_takes_J21 at h
    refine g_iadd hx hb0 dX9_takes_21 ?_
    refine g_putI hx hb0 hts q_ws_X9 tyX9 tyX9_ok nmX9 hown hX hH (C := RX9) (T := TX9) (N := 19) (k := 136) (i := 16) (rfl : gKinds[136]? = _) rfl (by decide) (hts _ q_fl_X9_184) rfl rfl rfl rfl dX9_takes_22 (fun H locs hH => ?_)
    refine lv_iload_n hx hb0 dX9_takes_25 rfl (lv_at hl 0 rfl) ?_
    exact g_zretS hx hb0 hr hH hlocks dX9_takes_26 h
  refine g_if_eq (tgt := 20) hx hb0 dX9_takes_13 (by decide) h (fun h => ?_) (fun h => ?_)
  · refine lv_iconst (v := gI (0 : Int)) hx hb0 dX9_takes_20 (by decide) ?_
    exact hJ21 _ _ _ _ hH (lv_sub hl [0] rfl) h
  · refine lv_iconst (v := gI (1 : Int)) hx hb0 dX9_takes_16 (by decide) ?_
    refine lv_goto (tgt := 21) hx hb0 dX9_takes_17 (by decide) ?_
    exact hJ21 _ _ _ _ hH (lv_sub hl [0] rfl) h
def DX9_isNumber_K68 (σ : gSt) (σ68 : gSt) : Option (Int × gSt) :=
  gIf ((σ 136 16) < (σ68 136 16)) (σ68 136 16) (σ 136 16) ((DX9_isAt σ68 (48 : Int) (57 : Int)).bind fun q81 => gIf (q81 = (0 : Int)) q81 (0 : Int) (gBo (1 : Int) (some ((1 : Int), σ68))) (gBo (0 : Int) (some ((0 : Int), σ68)))) (gBo (0 : Int) (some ((0 : Int), σ68)))
def DX9_isNumber_L10 (K68 : gSt → Option (Int × gSt)) (σ : gSt) (a1 : Int) : Nat → gSt → Option (Int × gSt)
  | 0, _ => none
  | f10 + 1, σ10 => gIf (((σ10 136 16) - (σ 136 16)) < a1) ((σ10 136 16) - (σ 136 16)) a1 ((DX9_isAt σ10 (48 : Int) (57 : Int)).bind fun q25 => gIf (q25 = (0 : Int)) q25 (0 : Int) ((K68 σ10)) (gAt (σ10 136 16) 150 (((DX9_isNumber_L10 K68 σ a1 f10) (gUp (gUp σ10 136 17 ((((10 : Int) * (σ10 136 17)) + (σ10 140 (Int.toNat (σ10 136 16)))) - (48 : Int))) 136 16 (((gUp σ10 136 17 ((((10 : Int) * (σ10 136 17)) + (σ10 140 (Int.toNat (σ10 136 16)))) - (48 : Int))) 136 16) + (1 : Int))))))) ((K68 σ10))
def DX9_isNumber (σ : gSt) (a1 : Int) : Option (Int × gSt) :=
  (DX9_isNumber_L10 (DX9_isNumber_K68 σ) σ a1 gFuel (gUp σ 136 17 (0 : Int)))
set_option maxHeartbeats 4000000 in
set_option maxRecDepth 100000 in
theorem metX9_isNumber (l : Launch) (D : va_G) (G : gAd) (σ : gSt) (μ : gLg) (a1 : Int) (r : Int) (σ' : gSt) (h : DX9_isNumber σ a1 = some (r, σ')) : Met l yX9_isNumber (gWs yX9_isNumber cX9_isNumber 3 (some (Jvm.ClassFile.FieldType.boolean))) ({ frames := 2, cells := 0, slots := 0, locals := 44 } : Room) (gPc D G [.ref (G.1 136), .int (gI a1)] σ μ) (gQi D G r σ' μ) 0 0 (gA G) := by
  refine Met.ofW (cc := cX9_isNumber) (maxL := 3) (ret := (some (Jvm.ClassFile.FieldType.boolean))) (by decide) rfl ?_
  intro p e s m args below meth c s₁ B hml hv
  obtain ⟨rfl, hP, hX⟩ := hv
  have hx := B.exec
  have hb0 := B.bytes
  have hr := B.returns
  have hts0 := atoms_spec (ws := (gWs yX9_isNumber cX9_isNumber 3 (some (Jvm.ClassFile.FieldType.boolean)))) B.pre
  have hts : ∀ w ∈ gLW, w.before _ s = true := fun w hw => hts0 w (List.mem_cons_of_mem _ hw)
  have hown : s.vm.findClass RX9 = some m.cls := findClass_of_methodNamed B.named
  have hlocks := B.notSynchronized
  have hH : gH D G s s.heap [] σ μ := ⟨hP, va_S.rf⟩
  have hl := lv_entry ([.ref (G.1 136), .int (gI a1)]) (n := 3) (Nat.le_of_ble_eq_true rfl)
  rw [lg_entry_eq]
  generalize (lg_sl ([.ref (G.1 136), .int (gI a1)]) ++ List.replicate (3 - (lg_sl ([.ref (G.1 136), .int (gI a1)])).length) Slot.unset).toArray = ls at hl ⊢
  have hl : lv_has ls 3 [(0, .ref (G.1 136)), (1, .int (gI a1))] := hl
  unfold DX9_isNumber at h
  refine lv_aload_n hx hb0 dX9_isNumber_0 rfl (lv_at hl 0 rfl) ?_
  refine g_getI hx hb0 hts q_ws_X9 hown hX hH (C := RX9) (T := TX9) (N := 19) (k := 136) (i := 16) (rfl : gKinds[136]? = _) rfl (by decide) (hts _ q_fl_X9_184) rfl rfl dX9_isNumber_1 ?_
  refine lv_istore_n (lv' := [(2, .int (gI (σ 136 16))), (0, .ref (G.1 136)), (1, .int (gI a1))]) hx hb0 dX9_isNumber_4 rfl hl (by decide) rfl (fun ls hl => ?_)
  refine lv_aload_n hx hb0 dX9_isNumber_5 rfl (lv_at hl 1 rfl) ?_
  refine lv_iconst (v := gI (0 : Int)) hx hb0 dX9_isNumber_6 (by decide) ?_
  refine g_putI hx hb0 hts q_ws_X9 tyX9 tyX9_ok nmX9 hown hX hH (C := RX9) (T := TX9) (N := 19) (k := 136) (i := 17) (rfl : gKinds[136]? = _) rfl (by decide) (hts _ q_fl_X9_190) rfl rfl rfl rfl dX9_isNumber_7 (fun H locs hH => ?_)
  have hK68 : ∀ (σ68 : gSt) (H : Heap) (locs : List Loc) (ls : Array Slot), gH D G s H locs σ68 μ → lv_has ls 3 [(2, .int (gI (σ 136 16))), (0, .ref (G.1 136))] → (DX9_isNumber_K68 σ σ68) = some (r, σ') → W p l e (headSpec (gWs yX9_isNumber cX9_isNumber 3 (some (Jvm.ClassFile.FieldType.boolean))) ({ frames := 2, cells := 0, slots := 0, locals := 44 } : Room)).room s m ([.ref (G.1 136), .int (gI a1)] : List Value).toArray below meth c H locs 0 0 (MQ below (gQi D G r σ' μ) ([.ref (G.1 136), .int (gI a1)] : List Value).toArray s 0 0 (gA G)) (F0 m 68 ls []) := by
    intro σ68 H locs ls hH hl h
    unfold DX9_isNumber_K68 at h
    refine lv_aload_n hx hb0 dX9_isNumber_68 rfl (lv_at hl 1 rfl) ?_
    refine g_getI hx hb0 hts q_ws_X9 hown hX hH (C := RX9) (T := TX9) (N := 19) (k := 136) (i := 16) (rfl : gKinds[136]? = _) rfl (by decide) (hts _ q_fl_X9_184) rfl rfl dX9_isNumber_69 ?_
    refine lv_iload_n hx hb0 dX9_isNumber_72 rfl (lv_at hl 0 rfl) ?_
    refine g_icmp_le (tgt := 91) hx hb0 dX9_isNumber_73 (by decide) h (fun h => ?_) (fun h => ?_)
    · refine lv_iconst (v := gI (0 : Int)) hx hb0 dX9_isNumber_91 (by decide) ?_
      exact g_zretS hx hb0 hr hH hlocks dX9_isNumber_92 h
    · refine lv_aload_n hx hb0 dX9_isNumber_76 rfl (lv_at hl 1 rfl) ?_
      refine lv_bipush (v := gI (48 : Int)) hx hb0 dX9_isNumber_77 (by decide) ?_
      refine lv_bipush (v := gI (57 : Int)) hx hb0 dX9_isNumber_79 (by decide) ?_
      obtain ⟨q81, e81, h⟩ := gBind_some h
      refine g_callVi (k := 136) (T := TX9) (N := 19) (As := [.int (gI (48 : Int)), .int (gI (57 : Int))]) (rest := []) ⟨hx, hb0, hml, hown, hts⟩ (metX9_isAt l D G σ68 μ (48 : Int) (57 : Int) q81 e81) (g_cwV (C := RX9) 2 hts q_ml_X9_187 q_im_X9_isAt q_se_X9_isAt q_in_X9 q_co_X9_isAt ⟨rfl, rfl⟩ (by decide +kernel) ⟨Nat.le_of_ble_eq_true rfl, Nat.le_of_ble_eq_true rfl⟩) hX hH (rfl : gKinds[136]? = _) rfl rfl hl.1 rfl (Nat.le_of_ble_eq_true rfl) dX9_isNumber_81 ⟨Nat.zero_le _, Nat.zero_le _⟩ (fun H locs hH => ?_)
      refine g_if_ne (tgt := 91) hx hb0 dX9_isNumber_84 (by decide) h (fun h => ?_) (fun h => ?_)
      · refine lv_iconst (v := gI (0 : Int)) hx hb0 dX9_isNumber_91 (by decide) ?_
        exact g_zretS hx hb0 hr hH hlocks dX9_isNumber_92 h
      · refine lv_iconst (v := gI (1 : Int)) hx hb0 dX9_isNumber_87 (by decide) ?_
        refine lv_goto (tgt := 92) hx hb0 dX9_isNumber_88 (by decide) ?_
        exact g_zretS hx hb0 hr hH hlocks dX9_isNumber_92 h
  have hL10 : ∀ (f10 : Nat) (σ10 : gSt) (H : Heap) (locs : List Loc) (ls : Array Slot), gH D G s H locs σ10 μ → lv_has ls 3 [(2, .int (gI (σ 136 16))), (0, .ref (G.1 136)), (1, .int (gI a1))] → (DX9_isNumber_L10 (DX9_isNumber_K68 σ) σ a1 f10 σ10) = some (r, σ') → W p l e (headSpec (gWs yX9_isNumber cX9_isNumber 3 (some (Jvm.ClassFile.FieldType.boolean))) ({ frames := 2, cells := 0, slots := 0, locals := 44 } : Room)).room s m ([.ref (G.1 136), .int (gI a1)] : List Value).toArray below meth c H locs 0 0 (MQ below (gQi D G r σ' μ) ([.ref (G.1 136), .int (gI a1)] : List Value).toArray s 0 0 (gA G)) (F0 m 10 ls []) := by
    intro f10
    induction f10 with
    | zero => intro σ10 H locs ls hH hl h; cases h
    | succ f10 ih10 =>
      intro σ10 H locs ls hH hl h
      unfold DX9_isNumber_L10 at h
      refine lv_aload_n hx hb0 dX9_isNumber_10 rfl (lv_at hl 1 rfl) ?_
      refine g_getI hx hb0 hts q_ws_X9 hown hX hH (C := RX9) (T := TX9) (N := 19) (k := 136) (i := 16) (rfl : gKinds[136]? = _) rfl (by decide) (hts _ q_fl_X9_184) rfl rfl dX9_isNumber_11 ?_
      refine lv_iload_n hx hb0 dX9_isNumber_14 rfl (lv_at hl 0 rfl) ?_
      refine g_isub hx hb0 dX9_isNumber_15 ?_
      refine lv_iload_n hx hb0 dX9_isNumber_16 rfl (lv_at hl 2 rfl) ?_
      refine g_icmp_ge (tgt := 68) hx hb0 dX9_isNumber_17 (by decide) h (fun h => ?_) (fun h => ?_)
      · exact hK68 _ _ _ _ hH (lv_sub hl [0, 1] rfl) h
      · refine lv_aload_n hx hb0 dX9_isNumber_20 rfl (lv_at hl 1 rfl) ?_
        refine lv_bipush (v := gI (48 : Int)) hx hb0 dX9_isNumber_21 (by decide) ?_
        refine lv_bipush (v := gI (57 : Int)) hx hb0 dX9_isNumber_23 (by decide) ?_
        obtain ⟨q25, e25, h⟩ := gBind_some h
        refine g_callVi (k := 136) (T := TX9) (N := 19) (As := [.int (gI (48 : Int)), .int (gI (57 : Int))]) (rest := []) ⟨hx, hb0, hml, hown, hts⟩ (metX9_isAt l D G σ10 μ (48 : Int) (57 : Int) q25 e25) (g_cwV (C := RX9) 2 hts q_ml_X9_187 q_im_X9_isAt q_se_X9_isAt q_in_X9 q_co_X9_isAt ⟨rfl, rfl⟩ (by decide +kernel) ⟨Nat.le_of_ble_eq_true rfl, Nat.le_of_ble_eq_true rfl⟩) hX hH (rfl : gKinds[136]? = _) rfl rfl hl.1 rfl (Nat.le_of_ble_eq_true rfl) dX9_isNumber_25 ⟨Nat.zero_le _, Nat.zero_le _⟩ (fun H locs hH => ?_)
        refine g_if_eq (tgt := 68) hx hb0 dX9_isNumber_28 (by decide) h (fun h => ?_) (fun h => ?_)
        · exact hK68 _ _ _ _ hH (lv_sub hl [0, 1] rfl) h
        · refine lv_aload_n hx hb0 dX9_isNumber_31 rfl (lv_at hl 1 rfl) ?_
          refine lv_bipush (v := gI (10 : Int)) hx hb0 dX9_isNumber_32 (by decide) ?_
          refine lv_aload_n hx hb0 dX9_isNumber_34 rfl (lv_at hl 1 rfl) ?_
          refine g_getI hx hb0 hts q_ws_X9 hown hX hH (C := RX9) (T := TX9) (N := 19) (k := 136) (i := 17) (rfl : gKinds[136]? = _) rfl (by decide) (hts _ q_fl_X9_190) rfl rfl dX9_isNumber_35 ?_
          refine g_imul hx hb0 dX9_isNumber_38 ?_
          refine lv_aload_n hx hb0 dX9_isNumber_39 rfl (lv_at hl 1 rfl) ?_
          refine g_getR hx hb0 hts q_ws_X9 hown hX hH (C := RX9) (T := TX9) (N := 19) (k := 136) (i := 4) (j := 140) (rfl : gKinds[136]? = _) rfl (by decide) (hts _ q_fl_X9_19) rfl rfl dX9_isNumber_40 ?_
          refine lv_aload_n hx hb0 dX9_isNumber_43 rfl (lv_at hl 1 rfl) ?_
          refine g_getI hx hb0 hts q_ws_X9 hown hX hH (C := RX9) (T := TX9) (N := 19) (k := 136) (i := 16) (rfl : gKinds[136]? = _) rfl (by decide) (hts _ q_fl_X9_184) rfl rfl dX9_isNumber_44 ?_
          refine g_iald hx hb0 hX hH (k := 140) (rfl : gKinds[140]? = _) (by decide) dX9_isNumber_47 h (fun h => ?_)
          refine g_iadd hx hb0 dX9_isNumber_48 ?_
          refine lv_bipush (v := gI (48 : Int)) hx hb0 dX9_isNumber_49 (by decide) ?_
          refine g_isub hx hb0 dX9_isNumber_51 ?_
          refine g_putI hx hb0 hts q_ws_X9 tyX9 tyX9_ok nmX9 hown hX hH (C := RX9) (T := TX9) (N := 19) (k := 136) (i := 17) (rfl : gKinds[136]? = _) rfl (by decide) (hts _ q_fl_X9_190) rfl rfl rfl rfl dX9_isNumber_52 (fun H locs hH => ?_)
          refine lv_aload_n hx hb0 dX9_isNumber_55 rfl (lv_at hl 1 rfl) ?_
          refine lv_dup hx hb0 dX9_isNumber_56 rfl ?_
          refine g_getI hx hb0 hts q_ws_X9 hown hX hH (C := RX9) (T := TX9) (N := 19) (k := 136) (i := 16) (rfl : gKinds[136]? = _) rfl (by decide) (hts _ q_fl_X9_184) rfl rfl dX9_isNumber_57 ?_
          refine lv_iconst (v := gI (1 : Int)) hx hb0 dX9_isNumber_60 (by decide) ?_
          refine g_iadd hx hb0 dX9_isNumber_61 ?_
          refine g_putI hx hb0 hts q_ws_X9 tyX9 tyX9_ok nmX9 hown hX hH (C := RX9) (T := TX9) (N := 19) (k := 136) (i := 16) (rfl : gKinds[136]? = _) rfl (by decide) (hts _ q_fl_X9_184) rfl rfl rfl rfl dX9_isNumber_62 (fun H locs hH => ?_)
          refine lv_goto (tgt := 10) hx hb0 dX9_isNumber_65 (by decide) ?_
          exact ih10 _ _ _ _ hH (lv_sub hl [0, 1, 2] rfl) h
  exact hL10 gFuel _ _ _ _ hH (lv_sub hl [0, 1, 2] rfl) h
def DX9_isWithin_J42 (σ : gSt) (q8 : Int × gSt) (t0_42 : Int) : Option (Int × gSt) :=
  gIf (t0_42 = (0 : Int)) t0_42 (0 : Int) (gBo t0_42 (some (t0_42, (gUp q8.2 136 16 (σ 136 16))))) (gBo t0_42 (some (t0_42, (gUp q8.2 136 16 (q8.2 136 16)))))
def DX9_isWithin_J41 (σ : gSt) (q8 : Int × gSt) : Option (Int × gSt) :=
  (DX9_isWithin_J42 σ q8 (0 : Int))
def DX9_isWithin (σ : gSt) (a1 : Int) (a2 : Int) (a3 : Int) (a4 : Int) : Option (Int × gSt) :=
  (DX9_isNumber σ a1).bind fun q8 => gIf (q8.1 = (0 : Int)) q8.1 (0 : Int) (gBo (0 : Int) (some ((0 : Int), q8.2))) ((DX9_in q8.2 (q8.2 136 17) a2 a3).bind fun q22 => gIf (q22 = (0 : Int)) q22 (0 : Int) ((DX9_isWithin_J41 σ q8)) (gIf ((q8.2 136 17) = a4) (q8.2 136 17) a4 ((DX9_isWithin_J41 σ q8)) ((DX9_isWithin_J42 σ q8 (1 : Int)))))
set_option maxHeartbeats 4000000 in
set_option maxRecDepth 100000 in
theorem metX9_isWithin (l : Launch) (D : va_G) (G : gAd) (σ : gSt) (μ : gLg) (a1 : Int) (a2 : Int) (a3 : Int) (a4 : Int) (r : Int) (σ' : gSt) (h : DX9_isWithin σ a1 a2 a3 a4 = some (r, σ')) : Met l yX9_isWithin (gWs yX9_isWithin cX9_isWithin 7 (some (Jvm.ClassFile.FieldType.boolean))) ({ frames := 3, cells := 0, slots := 0, locals := 66 } : Room) (gPc D G [.ref (G.1 136), .int (gI a1), .int (gI a2), .int (gI a3), .int (gI a4)] σ μ) (gQi D G r σ' μ) 0 0 (gA G) := by
  refine Met.ofW (cc := cX9_isWithin) (maxL := 7) (ret := (some (Jvm.ClassFile.FieldType.boolean))) (by decide) rfl ?_
  intro p e s m args below meth c s₁ B hml hv
  obtain ⟨rfl, hP, hX⟩ := hv
  have hx := B.exec
  have hb0 := B.bytes
  have hr := B.returns
  have hts0 := atoms_spec (ws := (gWs yX9_isWithin cX9_isWithin 7 (some (Jvm.ClassFile.FieldType.boolean)))) B.pre
  have hts : ∀ w ∈ gLW, w.before _ s = true := fun w hw => hts0 w (List.mem_cons_of_mem _ hw)
  have hown : s.vm.findClass RX9 = some m.cls := findClass_of_methodNamed B.named
  have hlocks := B.notSynchronized
  have hH : gH D G s s.heap [] σ μ := ⟨hP, va_S.rf⟩
  have hl := lv_entry ([.ref (G.1 136), .int (gI a1), .int (gI a2), .int (gI a3), .int (gI a4)]) (n := 7) (Nat.le_of_ble_eq_true rfl)
  rw [lg_entry_eq]
  generalize (lg_sl ([.ref (G.1 136), .int (gI a1), .int (gI a2), .int (gI a3), .int (gI a4)]) ++ List.replicate (7 - (lg_sl ([.ref (G.1 136), .int (gI a1), .int (gI a2), .int (gI a3), .int (gI a4)])).length) Slot.unset).toArray = ls at hl ⊢
  have hl : lv_has ls 7 [(0, .ref (G.1 136)), (1, .int (gI a1)), (2, .int (gI a2)), (3, .int (gI a3)), (4, .int (gI a4))] := hl
  unfold DX9_isWithin at h
  refine lv_aload_n hx hb0 dX9_isWithin_0 rfl (lv_at hl 0 rfl) ?_
  refine g_getI hx hb0 hts q_ws_X9 hown hX hH (C := RX9) (T := TX9) (N := 19) (k := 136) (i := 16) (rfl : gKinds[136]? = _) rfl (by decide) (hts _ q_fl_X9_184) rfl rfl dX9_isWithin_1 ?_
  refine lv_istore (lv' := [(5, .int (gI (σ 136 16))), (0, .ref (G.1 136)), (1, .int (gI a1)), (2, .int (gI a2)), (3, .int (gI a3)), (4, .int (gI a4))]) hx hb0 dX9_isWithin_4 hl (by decide) rfl (fun ls hl => ?_)
  refine lv_aload_n hx hb0 dX9_isWithin_6 rfl (lv_at hl 1 rfl) ?_
  refine lv_iload_n hx hb0 dX9_isWithin_7 rfl (lv_at hl 2 rfl) ?_
  obtain ⟨q8, e8, h⟩ := gBind_some h
  refine g_callVi (k := 136) (T := TX9) (N := 19) (As := [.int (gI a1)]) (rest := []) ⟨hx, hb0, hml, hown, hts⟩ (metX9_isNumber l D G σ μ a1 q8.1 q8.2 e8) (g_cwV (C := RX9) 1 hts q_ml_X9_193 q_im_X9_isNumber q_se_X9_isNumber q_in_X9 q_co_X9_isNumber ⟨rfl, rfl⟩ (by decide +kernel) ⟨Nat.le_of_ble_eq_true rfl, Nat.le_of_ble_eq_true rfl⟩) hX hH (rfl : gKinds[136]? = _) rfl rfl hl.1 rfl (Nat.le_of_ble_eq_true rfl) dX9_isWithin_8 ⟨Nat.zero_le _, Nat.zero_le _⟩ (fun H locs hH => ?_)
  refine g_if_ne (tgt := 16) hx hb0 dX9_isWithin_11 (by decide) h (fun h => ?_) (fun h => ?_)
  · refine lv_aload_n hx hb0 dX9_isWithin_16 rfl (lv_at hl 1 rfl) ?_
    refine g_getI hx hb0 hts q_ws_X9 hown hX hH (C := RX9) (T := TX9) (N := 19) (k := 136) (i := 17) (rfl : gKinds[136]? = _) rfl (by decide) (hts _ q_fl_X9_190) rfl rfl dX9_isWithin_17 ?_
    refine lv_iload_n hx hb0 dX9_isWithin_20 rfl (lv_at hl 3 rfl) ?_
    refine lv_iload_n hx hb0 dX9_isWithin_21 rfl (lv_at hl 4 rfl) ?_
    obtain ⟨q22, e22, h⟩ := gBind_some h
    refine g_callSi (As := [.int (gI (q8.2 136 17)), .int (gI a2), .int (gI a3)]) (rest := []) ⟨hx, hb0, hml, hown, hts⟩ (metX9_in l D G q8.2 μ (q8.2 136 17) a2 a3 q22 e22) (g_cwS 3 hts q_ml_X9_51 q_st_X9_in q_in_X9 q_co_X9_in ⟨rfl, rfl⟩ (by decide +kernel) ⟨Nat.le_of_ble_eq_true rfl, Nat.le_of_ble_eq_true rfl⟩) hX hH rfl hl.1 rfl (Nat.le_of_ble_eq_true rfl) dX9_isWithin_22 ⟨Nat.zero_le _, Nat.zero_le _⟩ (fun H locs hH => ?_)
    have hJ42 : ∀ (t0_42 : Int) (H : Heap) (locs : List Loc) (ls : Array Slot), gH D G s H locs q8.2 μ → lv_has ls 7 [(5, .int (gI (σ 136 16))), (0, .ref (G.1 136))] → (DX9_isWithin_J42 σ q8 t0_42) = some (r, σ') → W p l e (headSpec (gWs yX9_isWithin cX9_isWithin 7 (some (Jvm.ClassFile.FieldType.boolean))) ({ frames := 3, cells := 0, slots := 0, locals := 66 } : Room)).room s m ([.ref (G.1 136), .int (gI a1), .int (gI a2), .int (gI a3), .int (gI a4)] : List Value).toArray below meth c H locs 0 0 (MQ below (gQi D G r σ' μ) ([.ref (G.1 136), .int (gI a1), .int (gI a2), .int (gI a3), .int (gI a4)] : List Value).toArray s 0 0 (gA G)) (F0 m 42 ls [.int (gI t0_42)]) := by
      intro t0_42 H locs ls hH hl h
      unfold DX9_isWithin_J42 at h
      refine lv_istore (lv' := [(6, .int (gI t0_42)), (5, .int (gI (σ 136 16))), (0, .ref (G.1 136))]) hx hb0 dX9_isWithin_42 hl (by decide) rfl (fun ls hl => ?_)
      refine lv_aload_n hx hb0 dX9_isWithin_44 rfl (lv_at hl 2 rfl) ?_
      refine lv_iload hx hb0 dX9_isWithin_45 (lv_at hl 0 rfl) ?_
      refine g_if_eq (tgt := 57) hx hb0 dX9_isWithin_47 (by decide) h (fun h => ?_) (fun h => ?_)
      · refine lv_iload hx hb0 dX9_isWithin_57 (lv_at hl 1 rfl) ?_
        refine g_putI hx hb0 hts q_ws_X9 tyX9 tyX9_ok nmX9 hown hX hH (C := RX9) (T := TX9) (N := 19) (k := 136) (i := 16) (rfl : gKinds[136]? = _) rfl (by decide) (hts _ q_fl_X9_184) rfl rfl rfl rfl dX9_isWithin_59 (fun H locs hH => ?_)
        refine lv_iload hx hb0 dX9_isWithin_62 (lv_at hl 0 rfl) ?_
        exact g_zretS hx hb0 hr hH hlocks dX9_isWithin_64 h
      · refine lv_aload_n hx hb0 dX9_isWithin_50 rfl (lv_at hl 2 rfl) ?_
        refine g_getI hx hb0 hts q_ws_X9 hown hX hH (C := RX9) (T := TX9) (N := 19) (k := 136) (i := 16) (rfl : gKinds[136]? = _) rfl (by decide) (hts _ q_fl_X9_184) rfl rfl dX9_isWithin_51 ?_
        refine lv_goto (tgt := 59) hx hb0 dX9_isWithin_54 (by decide) ?_
        refine g_putI hx hb0 hts q_ws_X9 tyX9 tyX9_ok nmX9 hown hX hH (C := RX9) (T := TX9) (N := 19) (k := 136) (i := 16) (rfl : gKinds[136]? = _) rfl (by decide) (hts _ q_fl_X9_184) rfl rfl rfl rfl dX9_isWithin_59 (fun H locs hH => ?_)
        refine lv_iload hx hb0 dX9_isWithin_62 (lv_at hl 0 rfl) ?_
        exact g_zretS hx hb0 hr hH hlocks dX9_isWithin_64 h
    have hJ41 : ∀  (H : Heap) (locs : List Loc) (ls : Array Slot), gH D G s H locs q8.2 μ → lv_has ls 7 [(5, .int (gI (σ 136 16))), (0, .ref (G.1 136))] → (DX9_isWithin_J41 σ q8) = some (r, σ') → W p l e (headSpec (gWs yX9_isWithin cX9_isWithin 7 (some (Jvm.ClassFile.FieldType.boolean))) ({ frames := 3, cells := 0, slots := 0, locals := 66 } : Room)).room s m ([.ref (G.1 136), .int (gI a1), .int (gI a2), .int (gI a3), .int (gI a4)] : List Value).toArray below meth c H locs 0 0 (MQ below (gQi D G r σ' μ) ([.ref (G.1 136), .int (gI a1), .int (gI a2), .int (gI a3), .int (gI a4)] : List Value).toArray s 0 0 (gA G)) (F0 m 41 ls []) := by
      intro H locs ls hH hl h
      unfold DX9_isWithin_J41 at h
      refine lv_iconst (v := gI (0 : Int)) hx hb0 dX9_isWithin_41 (by decide) ?_
      exact hJ42 _ _ _ _ hH (lv_sub hl [0, 1] rfl) h
    refine g_if_eq (tgt := 41) hx hb0 dX9_isWithin_25 (by decide) h (fun h => ?_) (fun h => ?_)
    · exact hJ41  _ _ _ hH (lv_sub hl [0, 1] rfl) h
    · refine lv_aload_n hx hb0 dX9_isWithin_28 rfl (lv_at hl 1 rfl) ?_
      refine g_getI hx hb0 hts q_ws_X9 hown hX hH (C := RX9) (T := TX9) (N := 19) (k := 136) (i := 17) (rfl : gKinds[136]? = _) rfl (by decide) (hts _ q_fl_X9_190) rfl rfl dX9_isWithin_29 ?_
      refine lv_iload hx hb0 dX9_isWithin_32 (lv_at hl 5 rfl) ?_
      refine g_icmp_eq (tgt := 41) hx hb0 dX9_isWithin_34 (by decide) h (fun h => ?_) (fun h => ?_)
      · exact hJ41  _ _ _ hH (lv_sub hl [0, 1] rfl) h
      · refine lv_iconst (v := gI (1 : Int)) hx hb0 dX9_isWithin_37 (by decide) ?_
        refine lv_goto (tgt := 42) hx hb0 dX9_isWithin_38 (by decide) ?_
        exact hJ42 _ _ _ _ hH (lv_sub hl [0, 1] rfl) h
  · refine lv_iconst (v := gI (0 : Int)) hx hb0 dX9_isWithin_14 (by decide) ?_
    exact g_zretS hx hb0 hr hH hlocks dX9_isWithin_15 h
def DX9_isItem_J141  (σ141 : gSt) : Option (Int × gSt) :=
  (DX9_isAt σ141 (97 : Int) (97 : Int)).bind fun q146 => gIf (q146 = (0 : Int)) q146 (0 : Int) (gBo (0 : Int) (some ((0 : Int), σ141))) (gAt (77 : Int) 138 (gIf ((σ141 137 (Int.toNat (77 : Int))) = (30 : Int)) (σ141 137 (Int.toNat (77 : Int))) (30 : Int) (gBo (0 : Int) (some ((0 : Int), σ141))) (gAt (4 : Int) 138 ((DX9_isWithin (gUp σ141 136 16 ((σ141 136 16) + (1 : Int))) (2 : Int) (0 : Int) (((gUp σ141 136 16 ((σ141 136 16) + (1 : Int))) 137 (Int.toNat (4 : Int))) - (1 : Int)) (-1 : Int)).bind fun q188 => gIf (q188.1 = (0 : Int)) q188.1 (0 : Int) (gBo (0 : Int) (some ((0 : Int), q188.2))) ((DX9_takes q188.2 (44 : Int)).bind fun q204 => gIf (q204.1 = (0 : Int)) q204.1 (0 : Int) (gBo (0 : Int) (some ((0 : Int), q204.2))) (gAt (4 : Int) 138 ((DX9_isWithin q204.2 (2 : Int) (0 : Int) ((q204.2 137 (Int.toNat (4 : Int))) - (1 : Int)) (q188.2 136 17)).bind fun q222 => gIf (q222.1 = (0 : Int)) q222.1 (0 : Int) (gBo (0 : Int) (some ((0 : Int), q222.2))) ((DX9_takes q222.2 (59 : Int)).bind fun q231 => gIf (q231.1 = (0 : Int)) q231.1 (0 : Int) (gBo (0 : Int) (some ((0 : Int), q231.2))) ((DX9_hasArrow q231.2 (q188.2 136 17) (q231.2 136 17)).bind fun q245 => gIf (q245 = (0 : Int)) q245 (0 : Int) ((DX9_arrowComes q231.2 (q188.2 136 17) (q231.2 136 17)).bind fun q257 => gBo (1 : Int) (some ((1 : Int), q257))) (gBo (1 : Int) (some ((1 : Int), q231.2))))))))))))
def DX9_isItem (σ : gSt) : Option (Int × gSt) :=
  (DX9_isAt σ (116 : Int) (116 : Int)).bind fun q5 => gIf (q5 = (0 : Int)) q5 (0 : Int) ((DX9_isItem_J141 σ)) (gAt (4 : Int) 138 (gIf ((σ 137 (Int.toNat (4 : Int))) < (24 : Int)) (σ 137 (Int.toNat (4 : Int))) (24 : Int) ((DX9_isAt (gUp σ 136 16 ((σ 136 16) + (1 : Int))) (48 : Int) (53 : Int)).bind fun q37 => gIf (q37 = (0 : Int)) q37 (0 : Int) (gBo (0 : Int) (some ((0 : Int), (gUp σ 136 16 ((σ 136 16) + (1 : Int)))))) (gAt ((gUp σ 136 16 ((σ 136 16) + (1 : Int))) 136 16) 150 ((DX9_takes (gUp (gUp σ 136 16 ((σ 136 16) + (1 : Int))) 136 16 (((gUp σ 136 16 ((σ 136 16) + (1 : Int))) 136 16) + (1 : Int))) (44 : Int)).bind fun q71 => gIf (q71.1 = (0 : Int)) q71.1 (0 : Int) (gBo (0 : Int) (some ((0 : Int), q71.2))) ((DX9_isWithin q71.2 (3 : Int) (0 : Int) (199 : Int) (-1 : Int)).bind fun q84 => gIf (q84.1 = (0 : Int)) q84.1 (0 : Int) (gBo (0 : Int) (some ((0 : Int), q84.2))) ((DX9_takes q84.2 (44 : Int)).bind fun q100 => gIf (q100.1 = (0 : Int)) q100.1 (0 : Int) (gBo (0 : Int) (some ((0 : Int), q100.2))) ((DX9_isWithin q100.2 (2 : Int) (1 : Int) (60 : Int) (-1 : Int)).bind fun q112 => gIf (q112.1 = (0 : Int)) q112.1 (0 : Int) (gBo (0 : Int) (some ((0 : Int), q112.2))) ((DX9_takes q112.2 (59 : Int)).bind fun q121 => gIf (q121.1 = (0 : Int)) q121.1 (0 : Int) (gBo (0 : Int) (some ((0 : Int), q121.2))) ((DX9_comes q121.2 (((gUp σ 136 16 ((σ 136 16) + (1 : Int))) 140 (Int.toNat ((gUp σ 136 16 ((σ 136 16) + (1 : Int))) 136 16))) - (48 : Int)) (q84.2 136 17) (q121.2 136 17)).bind fun q136 => gBo (1 : Int) (some ((1 : Int), q136)))))))))) ((DX9_isItem_J141 σ))))
set_option maxHeartbeats 4000000 in
set_option maxRecDepth 100000 in
theorem metX9_isItem (l : Launch) (D : va_G) (G : gAd) (σ : gSt) (μ : gLg) (r : Int) (σ' : gSt) (h : DX9_isItem σ = some (r, σ')) : Met l yX9_isItem (gWs yX9_isItem cX9_isItem 3 (some (Jvm.ClassFile.FieldType.boolean))) ({ frames := 4, cells := 0, slots := 0, locals := 92 } : Room) (gPc D G [.ref (G.1 136)] σ μ) (gQi D G r σ' μ) 0 0 (gA G) := by
  refine Met.ofW (cc := cX9_isItem) (maxL := 3) (ret := (some (Jvm.ClassFile.FieldType.boolean))) (by decide) rfl ?_
  intro p e s m args below meth c s₁ B hml hv
  obtain ⟨rfl, hP, hX⟩ := hv
  have hx := B.exec
  have hb0 := B.bytes
  have hr := B.returns
  have hts0 := atoms_spec (ws := (gWs yX9_isItem cX9_isItem 3 (some (Jvm.ClassFile.FieldType.boolean)))) B.pre
  have hts : ∀ w ∈ gLW, w.before _ s = true := fun w hw => hts0 w (List.mem_cons_of_mem _ hw)
  have hown : s.vm.findClass RX9 = some m.cls := findClass_of_methodNamed B.named
  have hlocks := B.notSynchronized
  have hH : gH D G s s.heap [] σ μ := ⟨hP, va_S.rf⟩
  have hl := lv_entry ([.ref (G.1 136)]) (n := 3) (Nat.le_of_ble_eq_true rfl)
  rw [lg_entry_eq]
  generalize (lg_sl ([.ref (G.1 136)]) ++ List.replicate (3 - (lg_sl ([.ref (G.1 136)])).length) Slot.unset).toArray = ls at hl ⊢
  have hl : lv_has ls 3 [(0, .ref (G.1 136))] := hl
  unfold DX9_isItem at h
  refine lv_aload_n hx hb0 dX9_isItem_0 rfl (lv_at hl 0 rfl) ?_
  refine lv_bipush (v := gI (116 : Int)) hx hb0 dX9_isItem_1 (by decide) ?_
  refine lv_bipush (v := gI (116 : Int)) hx hb0 dX9_isItem_3 (by decide) ?_
  obtain ⟨q5, e5, h⟩ := gBind_some h
  refine g_callVi (k := 136) (T := TX9) (N := 19) (As := [.int (gI (116 : Int)), .int (gI (116 : Int))]) (rest := []) ⟨hx, hb0, hml, hown, hts⟩ (metX9_isAt l D G σ μ (116 : Int) (116 : Int) q5 e5) (g_cwV (C := RX9) 2 hts q_ml_X9_187 q_im_X9_isAt q_se_X9_isAt q_in_X9 q_co_X9_isAt ⟨rfl, rfl⟩ (by decide +kernel) ⟨Nat.le_of_ble_eq_true rfl, Nat.le_of_ble_eq_true rfl⟩) hX hH (rfl : gKinds[136]? = _) rfl rfl hl.1 rfl (Nat.le_of_ble_eq_true rfl) dX9_isItem_5 ⟨Nat.zero_le _, Nat.zero_le _⟩ (fun H locs hH => ?_)
  have hJ141 : ∀ (σ141 : gSt) (H : Heap) (locs : List Loc) (ls : Array Slot), gH D G s H locs σ141 μ → lv_has ls 3 [(0, .ref (G.1 136))] → (DX9_isItem_J141 σ141) = some (r, σ') → W p l e (headSpec (gWs yX9_isItem cX9_isItem 3 (some (Jvm.ClassFile.FieldType.boolean))) ({ frames := 4, cells := 0, slots := 0, locals := 92 } : Room)).room s m ([.ref (G.1 136)] : List Value).toArray below meth c H locs 0 0 (MQ below (gQi D G r σ' μ) ([.ref (G.1 136)] : List Value).toArray s 0 0 (gA G)) (F0 m 141 ls []) := by
    intro σ141 H locs ls hH hl h
    unfold DX9_isItem_J141 at h
    refine lv_aload_n hx hb0 dX9_isItem_141 rfl (lv_at hl 0 rfl) ?_
    refine lv_bipush (v := gI (97 : Int)) hx hb0 dX9_isItem_142 (by decide) ?_
    refine lv_bipush (v := gI (97 : Int)) hx hb0 dX9_isItem_144 (by decide) ?_
    obtain ⟨q146, e146, h⟩ := gBind_some h
    refine g_callVi (k := 136) (T := TX9) (N := 19) (As := [.int (gI (97 : Int)), .int (gI (97 : Int))]) (rest := []) ⟨hx, hb0, hml, hown, hts⟩ (metX9_isAt l D G σ141 μ (97 : Int) (97 : Int) q146 e146) (g_cwV (C := RX9) 2 hts q_ml_X9_187 q_im_X9_isAt q_se_X9_isAt q_in_X9 q_co_X9_isAt ⟨rfl, rfl⟩ (by decide +kernel) ⟨Nat.le_of_ble_eq_true rfl, Nat.le_of_ble_eq_true rfl⟩) hX hH (rfl : gKinds[136]? = _) rfl rfl hl.1 rfl (Nat.le_of_ble_eq_true rfl) dX9_isItem_146 ⟨Nat.zero_le _, Nat.zero_le _⟩ (fun H locs hH => ?_)
    refine g_if_eq (tgt := 164) hx hb0 dX9_isItem_149 (by decide) h (fun h => ?_) (fun h => ?_)
    · refine lv_iconst (v := gI (0 : Int)) hx hb0 dX9_isItem_164 (by decide) ?_
      exact g_zretS hx hb0 hr hH hlocks dX9_isItem_165 h
    · refine lv_aload_n hx hb0 dX9_isItem_152 rfl (lv_at hl 0 rfl) ?_
      refine g_getR hx hb0 hts q_ws_X9 hown hX hH (C := RX9) (T := TX9) (N := 19) (k := 136) (i := 0) (j := 137) (rfl : gKinds[136]? = _) rfl (by decide) (hts _ q_fl_X9_7) rfl rfl dX9_isItem_153 ?_
      refine lv_bipush (v := gI (77 : Int)) hx hb0 dX9_isItem_156 (by decide) ?_
      refine g_iald hx hb0 hX hH (k := 137) (rfl : gKinds[137]? = _) (by decide) dX9_isItem_158 h (fun h => ?_)
      refine lv_bipush (v := gI (30 : Int)) hx hb0 dX9_isItem_159 (by decide) ?_
      refine g_icmp_ne (tgt := 166) hx hb0 dX9_isItem_161 (by decide) h (fun h => ?_) (fun h => ?_)
      · refine lv_aload_n hx hb0 dX9_isItem_166 rfl (lv_at hl 0 rfl) ?_
        refine lv_dup hx hb0 dX9_isItem_167 rfl ?_
        refine g_getI hx hb0 hts q_ws_X9 hown hX hH (C := RX9) (T := TX9) (N := 19) (k := 136) (i := 16) (rfl : gKinds[136]? = _) rfl (by decide) (hts _ q_fl_X9_184) rfl rfl dX9_isItem_168 ?_
        refine lv_iconst (v := gI (1 : Int)) hx hb0 dX9_isItem_171 (by decide) ?_
        refine g_iadd hx hb0 dX9_isItem_172 ?_
        refine g_putI hx hb0 hts q_ws_X9 tyX9 tyX9_ok nmX9 hown hX hH (C := RX9) (T := TX9) (N := 19) (k := 136) (i := 16) (rfl : gKinds[136]? = _) rfl (by decide) (hts _ q_fl_X9_184) rfl rfl rfl rfl dX9_isItem_173 (fun H locs hH => ?_)
        refine lv_aload_n hx hb0 dX9_isItem_176 rfl (lv_at hl 0 rfl) ?_
        refine lv_iconst (v := gI (2 : Int)) hx hb0 dX9_isItem_177 (by decide) ?_
        refine lv_iconst (v := gI (0 : Int)) hx hb0 dX9_isItem_178 (by decide) ?_
        refine lv_aload_n hx hb0 dX9_isItem_179 rfl (lv_at hl 0 rfl) ?_
        refine g_getR hx hb0 hts q_ws_X9 hown hX hH (C := RX9) (T := TX9) (N := 19) (k := 136) (i := 0) (j := 137) (rfl : gKinds[136]? = _) rfl (by decide) (hts _ q_fl_X9_7) rfl rfl dX9_isItem_180 ?_
        refine lv_iconst (v := gI (4 : Int)) hx hb0 dX9_isItem_183 (by decide) ?_
        refine g_iald hx hb0 hX hH (k := 137) (rfl : gKinds[137]? = _) (by decide) dX9_isItem_184 h (fun h => ?_)
        refine lv_iconst (v := gI (1 : Int)) hx hb0 dX9_isItem_185 (by decide) ?_
        refine g_isub hx hb0 dX9_isItem_186 ?_
        refine lv_iconst (v := gI (-1 : Int)) hx hb0 dX9_isItem_187 (by decide) ?_
        obtain ⟨q188, e188, h⟩ := gBind_some h
        refine g_callVi (k := 136) (T := TX9) (N := 19) (As := [.int (gI (2 : Int)), .int (gI (0 : Int)), .int (gI (((gUp σ141 136 16 ((σ141 136 16) + (1 : Int))) 137 (Int.toNat (4 : Int))) - (1 : Int))), .int (gI (-1 : Int))]) (rest := []) ⟨hx, hb0, hml, hown, hts⟩ (metX9_isWithin l D G (gUp σ141 136 16 ((σ141 136 16) + (1 : Int))) μ (2 : Int) (0 : Int) (((gUp σ141 136 16 ((σ141 136 16) + (1 : Int))) 137 (Int.toNat (4 : Int))) - (1 : Int)) (-1 : Int) q188.1 q188.2 e188) (g_cwV (C := RX9) 4 hts q_ml_X9_199 q_im_X9_isWithin q_se_X9_isWithin q_in_X9 q_co_X9_isWithin ⟨rfl, rfl⟩ (by decide +kernel) ⟨Nat.le_of_ble_eq_true rfl, Nat.le_of_ble_eq_true rfl⟩) hX hH (rfl : gKinds[136]? = _) rfl rfl hl.1 rfl (Nat.le_of_ble_eq_true rfl) dX9_isItem_188 ⟨Nat.zero_le _, Nat.zero_le _⟩ (fun H locs hH => ?_)
        refine g_if_ne (tgt := 196) hx hb0 dX9_isItem_191 (by decide) h (fun h => ?_) (fun h => ?_)
        · refine lv_aload_n hx hb0 dX9_isItem_196 rfl (lv_at hl 0 rfl) ?_
          refine g_getI hx hb0 hts q_ws_X9 hown hX hH (C := RX9) (T := TX9) (N := 19) (k := 136) (i := 17) (rfl : gKinds[136]? = _) rfl (by decide) (hts _ q_fl_X9_190) rfl rfl dX9_isItem_197 ?_
          refine lv_istore_n (lv' := [(1, .int (gI (q188.2 136 17))), (0, .ref (G.1 136))]) hx hb0 dX9_isItem_200 rfl hl (by decide) rfl (fun ls hl => ?_)
          refine lv_aload_n hx hb0 dX9_isItem_201 rfl (lv_at hl 1 rfl) ?_
          refine lv_bipush (v := gI (44 : Int)) hx hb0 dX9_isItem_202 (by decide) ?_
          obtain ⟨q204, e204, h⟩ := gBind_some h
          refine g_callVi (k := 136) (T := TX9) (N := 19) (As := [.int (gI (44 : Int))]) (rest := []) ⟨hx, hb0, hml, hown, hts⟩ (metX9_takes l D G q188.2 μ (44 : Int) q204.1 q204.2 e204) (g_cwV (C := RX9) 1 hts q_ml_X9_196 q_im_X9_takes q_se_X9_takes q_in_X9 q_co_X9_takes ⟨rfl, rfl⟩ (by decide +kernel) ⟨Nat.le_of_ble_eq_true rfl, Nat.le_of_ble_eq_true rfl⟩) hX hH (rfl : gKinds[136]? = _) rfl rfl hl.1 rfl (Nat.le_of_ble_eq_true rfl) dX9_isItem_204 ⟨Nat.zero_le _, Nat.zero_le _⟩ (fun H locs hH => ?_)
          refine g_if_eq (tgt := 237) hx hb0 dX9_isItem_207 (by decide) h (fun h => ?_) (fun h => ?_)
          · refine lv_iconst (v := gI (0 : Int)) hx hb0 dX9_isItem_237 (by decide) ?_
            exact g_zretS hx hb0 hr hH hlocks dX9_isItem_238 h
          · refine lv_aload_n hx hb0 dX9_isItem_210 rfl (lv_at hl 1 rfl) ?_
            refine lv_iconst (v := gI (2 : Int)) hx hb0 dX9_isItem_211 (by decide) ?_
            refine lv_iconst (v := gI (0 : Int)) hx hb0 dX9_isItem_212 (by decide) ?_
            refine lv_aload_n hx hb0 dX9_isItem_213 rfl (lv_at hl 1 rfl) ?_
            refine g_getR hx hb0 hts q_ws_X9 hown hX hH (C := RX9) (T := TX9) (N := 19) (k := 136) (i := 0) (j := 137) (rfl : gKinds[136]? = _) rfl (by decide) (hts _ q_fl_X9_7) rfl rfl dX9_isItem_214 ?_
            refine lv_iconst (v := gI (4 : Int)) hx hb0 dX9_isItem_217 (by decide) ?_
            refine g_iald hx hb0 hX hH (k := 137) (rfl : gKinds[137]? = _) (by decide) dX9_isItem_218 h (fun h => ?_)
            refine lv_iconst (v := gI (1 : Int)) hx hb0 dX9_isItem_219 (by decide) ?_
            refine g_isub hx hb0 dX9_isItem_220 ?_
            refine lv_iload_n hx hb0 dX9_isItem_221 rfl (lv_at hl 0 rfl) ?_
            obtain ⟨q222, e222, h⟩ := gBind_some h
            refine g_callVi (k := 136) (T := TX9) (N := 19) (As := [.int (gI (2 : Int)), .int (gI (0 : Int)), .int (gI ((q204.2 137 (Int.toNat (4 : Int))) - (1 : Int))), .int (gI (q188.2 136 17))]) (rest := []) ⟨hx, hb0, hml, hown, hts⟩ (metX9_isWithin l D G q204.2 μ (2 : Int) (0 : Int) ((q204.2 137 (Int.toNat (4 : Int))) - (1 : Int)) (q188.2 136 17) q222.1 q222.2 e222) (g_cwV (C := RX9) 4 hts q_ml_X9_199 q_im_X9_isWithin q_se_X9_isWithin q_in_X9 q_co_X9_isWithin ⟨rfl, rfl⟩ (by decide +kernel) ⟨Nat.le_of_ble_eq_true rfl, Nat.le_of_ble_eq_true rfl⟩) hX hH (rfl : gKinds[136]? = _) rfl rfl hl.1 rfl (Nat.le_of_ble_eq_true rfl) dX9_isItem_222 ⟨Nat.zero_le _, Nat.zero_le _⟩ (fun H locs hH => ?_)
            refine g_if_eq (tgt := 237) hx hb0 dX9_isItem_225 (by decide) h (fun h => ?_) (fun h => ?_)
            · refine lv_iconst (v := gI (0 : Int)) hx hb0 dX9_isItem_237 (by decide) ?_
              exact g_zretS hx hb0 hr hH hlocks dX9_isItem_238 h
            · refine lv_aload_n hx hb0 dX9_isItem_228 rfl (lv_at hl 1 rfl) ?_
              refine lv_bipush (v := gI (59 : Int)) hx hb0 dX9_isItem_229 (by decide) ?_
              obtain ⟨q231, e231, h⟩ := gBind_some h
              refine g_callVi (k := 136) (T := TX9) (N := 19) (As := [.int (gI (59 : Int))]) (rest := []) ⟨hx, hb0, hml, hown, hts⟩ (metX9_takes l D G q222.2 μ (59 : Int) q231.1 q231.2 e231) (g_cwV (C := RX9) 1 hts q_ml_X9_196 q_im_X9_takes q_se_X9_takes q_in_X9 q_co_X9_takes ⟨rfl, rfl⟩ (by decide +kernel) ⟨Nat.le_of_ble_eq_true rfl, Nat.le_of_ble_eq_true rfl⟩) hX hH (rfl : gKinds[136]? = _) rfl rfl hl.1 rfl (Nat.le_of_ble_eq_true rfl) dX9_isItem_231 ⟨Nat.zero_le _, Nat.zero_le _⟩ (fun H locs hH => ?_)
              refine g_if_ne (tgt := 239) hx hb0 dX9_isItem_234 (by decide) h (fun h => ?_) (fun h => ?_)
              · refine lv_aload_n hx hb0 dX9_isItem_239 rfl (lv_at hl 1 rfl) ?_
                refine lv_iload_n hx hb0 dX9_isItem_240 rfl (lv_at hl 0 rfl) ?_
                refine lv_aload_n hx hb0 dX9_isItem_241 rfl (lv_at hl 1 rfl) ?_
                refine g_getI hx hb0 hts q_ws_X9 hown hX hH (C := RX9) (T := TX9) (N := 19) (k := 136) (i := 17) (rfl : gKinds[136]? = _) rfl (by decide) (hts _ q_fl_X9_190) rfl rfl dX9_isItem_242 ?_
                obtain ⟨q245, e245, h⟩ := gBind_some h
                refine g_callVi (k := 136) (T := TX9) (N := 19) (As := [.int (gI (q188.2 136 17)), .int (gI (q231.2 136 17))]) (rest := []) ⟨hx, hb0, hml, hown, hts⟩ (metX9_hasArrow l D G q231.2 μ (q188.2 136 17) (q231.2 136 17) q245 e245) (g_cwV (C := RX9) 2 hts q_ml_X9_93 q_im_X9_hasArrow q_se_X9_hasArrow q_in_X9 q_co_X9_hasArrow ⟨rfl, rfl⟩ (by decide +kernel) ⟨Nat.le_of_ble_eq_true rfl, Nat.le_of_ble_eq_true rfl⟩) hX hH (rfl : gKinds[136]? = _) rfl rfl hl.1 rfl (Nat.le_of_ble_eq_true rfl) dX9_isItem_245 ⟨Nat.zero_le _, Nat.zero_le _⟩ (fun H locs hH => ?_)
                refine g_if_ne (tgt := 260) hx hb0 dX9_isItem_248 (by decide) h (fun h => ?_) (fun h => ?_)
                · refine lv_iconst (v := gI (1 : Int)) hx hb0 dX9_isItem_260 (by decide) ?_
                  exact g_zretS hx hb0 hr hH hlocks dX9_isItem_261 h
                · refine lv_aload_n hx hb0 dX9_isItem_251 rfl (lv_at hl 1 rfl) ?_
                  refine lv_iload_n hx hb0 dX9_isItem_252 rfl (lv_at hl 0 rfl) ?_
                  refine lv_aload_n hx hb0 dX9_isItem_253 rfl (lv_at hl 1 rfl) ?_
                  refine g_getI hx hb0 hts q_ws_X9 hown hX hH (C := RX9) (T := TX9) (N := 19) (k := 136) (i := 17) (rfl : gKinds[136]? = _) rfl (by decide) (hts _ q_fl_X9_190) rfl rfl dX9_isItem_254 ?_
                  obtain ⟨q257, e257, h⟩ := gBind_some h
                  refine g_callVv (k := 136) (T := TX9) (N := 19) (As := [.int (gI (q188.2 136 17)), .int (gI (q231.2 136 17))]) (rest := []) ⟨hx, hb0, hml, hown, hts⟩ (metX9_arrowComes l D G q231.2 μ (q188.2 136 17) (q231.2 136 17) q257 e257) (g_cwV (C := RX9) 2 hts q_ml_X9_96 q_im_X9_arrowComes q_se_X9_arrowComes q_in_X9 q_co_X9_arrowComes ⟨rfl, rfl⟩ (by decide +kernel) ⟨Nat.le_of_ble_eq_true rfl, Nat.le_of_ble_eq_true rfl⟩) hX hH (rfl : gKinds[136]? = _) rfl rfl hl.1 rfl (Nat.le_of_ble_eq_true rfl) dX9_isItem_257 ⟨Nat.zero_le _, Nat.zero_le _⟩ (fun H locs hH => ?_)
                  refine lv_iconst (v := gI (1 : Int)) hx hb0 dX9_isItem_260 (by decide) ?_
                  exact g_zretS hx hb0 hr hH hlocks dX9_isItem_261 h
              · refine lv_iconst (v := gI (0 : Int)) hx hb0 dX9_isItem_237 (by decide) ?_
                exact g_zretS hx hb0 hr hH hlocks dX9_isItem_238 h
        · refine lv_iconst (v := gI (0 : Int)) hx hb0 dX9_isItem_194 (by decide) ?_
          exact g_zretS hx hb0 hr hH hlocks dX9_isItem_195 h
      · refine lv_iconst (v := gI (0 : Int)) hx hb0 dX9_isItem_164 (by decide) ?_
        exact g_zretS hx hb0 hr hH hlocks dX9_isItem_165 h
  refine g_if_eq (tgt := 141) hx hb0 dX9_isItem_8 (by decide) h (fun h => ?_) (fun h => ?_)
  · exact hJ141 _ _ _ _ hH (lv_sub hl [0] rfl) h
  · refine lv_aload_n hx hb0 dX9_isItem_11 rfl (lv_at hl 0 rfl) ?_
    refine g_getR hx hb0 hts q_ws_X9 hown hX hH (C := RX9) (T := TX9) (N := 19) (k := 136) (i := 0) (j := 137) (rfl : gKinds[136]? = _) rfl (by decide) (hts _ q_fl_X9_7) rfl rfl dX9_isItem_12 ?_
    refine lv_iconst (v := gI (4 : Int)) hx hb0 dX9_isItem_15 (by decide) ?_
    refine g_iald hx hb0 hX hH (k := 137) (rfl : gKinds[137]? = _) (by decide) dX9_isItem_16 h (fun h => ?_)
    refine lv_bipush (v := gI (24 : Int)) hx hb0 dX9_isItem_17 (by decide) ?_
    refine g_icmp_ge (tgt := 141) hx hb0 dX9_isItem_19 (by decide) h (fun h => ?_) (fun h => ?_)
    · exact hJ141 _ _ _ _ hH (lv_sub hl [0] rfl) h
    · refine lv_aload_n hx hb0 dX9_isItem_22 rfl (lv_at hl 0 rfl) ?_
      refine lv_dup hx hb0 dX9_isItem_23 rfl ?_
      refine g_getI hx hb0 hts q_ws_X9 hown hX hH (C := RX9) (T := TX9) (N := 19) (k := 136) (i := 16) (rfl : gKinds[136]? = _) rfl (by decide) (hts _ q_fl_X9_184) rfl rfl dX9_isItem_24 ?_
      refine lv_iconst (v := gI (1 : Int)) hx hb0 dX9_isItem_27 (by decide) ?_
      refine g_iadd hx hb0 dX9_isItem_28 ?_
      refine g_putI hx hb0 hts q_ws_X9 tyX9 tyX9_ok nmX9 hown hX hH (C := RX9) (T := TX9) (N := 19) (k := 136) (i := 16) (rfl : gKinds[136]? = _) rfl (by decide) (hts _ q_fl_X9_184) rfl rfl rfl rfl dX9_isItem_29 (fun H locs hH => ?_)
      refine lv_aload_n hx hb0 dX9_isItem_32 rfl (lv_at hl 0 rfl) ?_
      refine lv_bipush (v := gI (48 : Int)) hx hb0 dX9_isItem_33 (by decide) ?_
      refine lv_bipush (v := gI (53 : Int)) hx hb0 dX9_isItem_35 (by decide) ?_
      obtain ⟨q37, e37, h⟩ := gBind_some h
      refine g_callVi (k := 136) (T := TX9) (N := 19) (As := [.int (gI (48 : Int)), .int (gI (53 : Int))]) (rest := []) ⟨hx, hb0, hml, hown, hts⟩ (metX9_isAt l D G (gUp σ 136 16 ((σ 136 16) + (1 : Int))) μ (48 : Int) (53 : Int) q37 e37) (g_cwV (C := RX9) 2 hts q_ml_X9_187 q_im_X9_isAt q_se_X9_isAt q_in_X9 q_co_X9_isAt ⟨rfl, rfl⟩ (by decide +kernel) ⟨Nat.le_of_ble_eq_true rfl, Nat.le_of_ble_eq_true rfl⟩) hX hH (rfl : gKinds[136]? = _) rfl rfl hl.1 rfl (Nat.le_of_ble_eq_true rfl) dX9_isItem_37 ⟨Nat.zero_le _, Nat.zero_le _⟩ (fun H locs hH => ?_)
      refine g_if_ne (tgt := 45) hx hb0 dX9_isItem_40 (by decide) h (fun h => ?_) (fun h => ?_)
      · refine lv_aload_n hx hb0 dX9_isItem_45 rfl (lv_at hl 0 rfl) ?_
        refine g_getR hx hb0 hts q_ws_X9 hown hX hH (C := RX9) (T := TX9) (N := 19) (k := 136) (i := 4) (j := 140) (rfl : gKinds[136]? = _) rfl (by decide) (hts _ q_fl_X9_19) rfl rfl dX9_isItem_46 ?_
        refine lv_aload_n hx hb0 dX9_isItem_49 rfl (lv_at hl 0 rfl) ?_
        refine g_getI hx hb0 hts q_ws_X9 hown hX hH (C := RX9) (T := TX9) (N := 19) (k := 136) (i := 16) (rfl : gKinds[136]? = _) rfl (by decide) (hts _ q_fl_X9_184) rfl rfl dX9_isItem_50 ?_
        refine g_iald hx hb0 hX hH (k := 140) (rfl : gKinds[140]? = _) (by decide) dX9_isItem_53 h (fun h => ?_)
        refine lv_bipush (v := gI (48 : Int)) hx hb0 dX9_isItem_54 (by decide) ?_
        refine g_isub hx hb0 dX9_isItem_56 ?_
        refine lv_istore_n (lv' := [(1, .int (gI (((gUp σ 136 16 ((σ 136 16) + (1 : Int))) 140 (Int.toNat ((gUp σ 136 16 ((σ 136 16) + (1 : Int))) 136 16))) - (48 : Int)))), (0, .ref (G.1 136))]) hx hb0 dX9_isItem_57 rfl hl (by decide) rfl (fun ls hl => ?_)
        refine lv_aload_n hx hb0 dX9_isItem_58 rfl (lv_at hl 1 rfl) ?_
        refine lv_dup hx hb0 dX9_isItem_59 rfl ?_
        refine g_getI hx hb0 hts q_ws_X9 hown hX hH (C := RX9) (T := TX9) (N := 19) (k := 136) (i := 16) (rfl : gKinds[136]? = _) rfl (by decide) (hts _ q_fl_X9_184) rfl rfl dX9_isItem_60 ?_
        refine lv_iconst (v := gI (1 : Int)) hx hb0 dX9_isItem_63 (by decide) ?_
        refine g_iadd hx hb0 dX9_isItem_64 ?_
        refine g_putI hx hb0 hts q_ws_X9 tyX9 tyX9_ok nmX9 hown hX hH (C := RX9) (T := TX9) (N := 19) (k := 136) (i := 16) (rfl : gKinds[136]? = _) rfl (by decide) (hts _ q_fl_X9_184) rfl rfl rfl rfl dX9_isItem_65 (fun H locs hH => ?_)
        refine lv_aload_n hx hb0 dX9_isItem_68 rfl (lv_at hl 1 rfl) ?_
        refine lv_bipush (v := gI (44 : Int)) hx hb0 dX9_isItem_69 (by decide) ?_
        obtain ⟨q71, e71, h⟩ := gBind_some h
        refine g_callVi (k := 136) (T := TX9) (N := 19) (As := [.int (gI (44 : Int))]) (rest := []) ⟨hx, hb0, hml, hown, hts⟩ (metX9_takes l D G (gUp (gUp σ 136 16 ((σ 136 16) + (1 : Int))) 136 16 (((gUp σ 136 16 ((σ 136 16) + (1 : Int))) 136 16) + (1 : Int))) μ (44 : Int) q71.1 q71.2 e71) (g_cwV (C := RX9) 1 hts q_ml_X9_196 q_im_X9_takes q_se_X9_takes q_in_X9 q_co_X9_takes ⟨rfl, rfl⟩ (by decide +kernel) ⟨Nat.le_of_ble_eq_true rfl, Nat.le_of_ble_eq_true rfl⟩) hX hH (rfl : gKinds[136]? = _) rfl rfl hl.1 rfl (Nat.le_of_ble_eq_true rfl) dX9_isItem_71 ⟨Nat.zero_le _, Nat.zero_le _⟩ (fun H locs hH => ?_)
        refine g_if_eq (tgt := 90) hx hb0 dX9_isItem_74 (by decide) h (fun h => ?_) (fun h => ?_)
        · refine lv_iconst (v := gI (0 : Int)) hx hb0 dX9_isItem_90 (by decide) ?_
          exact g_zretS hx hb0 hr hH hlocks dX9_isItem_91 h
        · refine lv_aload_n hx hb0 dX9_isItem_77 rfl (lv_at hl 1 rfl) ?_
          refine lv_iconst (v := gI (3 : Int)) hx hb0 dX9_isItem_78 (by decide) ?_
          refine lv_iconst (v := gI (0 : Int)) hx hb0 dX9_isItem_79 (by decide) ?_
          refine lv_sipush (v := gI (199 : Int)) hx hb0 dX9_isItem_80 (by decide) ?_
          refine lv_iconst (v := gI (-1 : Int)) hx hb0 dX9_isItem_83 (by decide) ?_
          obtain ⟨q84, e84, h⟩ := gBind_some h
          refine g_callVi (k := 136) (T := TX9) (N := 19) (As := [.int (gI (3 : Int)), .int (gI (0 : Int)), .int (gI (199 : Int)), .int (gI (-1 : Int))]) (rest := []) ⟨hx, hb0, hml, hown, hts⟩ (metX9_isWithin l D G q71.2 μ (3 : Int) (0 : Int) (199 : Int) (-1 : Int) q84.1 q84.2 e84) (g_cwV (C := RX9) 4 hts q_ml_X9_199 q_im_X9_isWithin q_se_X9_isWithin q_in_X9 q_co_X9_isWithin ⟨rfl, rfl⟩ (by decide +kernel) ⟨Nat.le_of_ble_eq_true rfl, Nat.le_of_ble_eq_true rfl⟩) hX hH (rfl : gKinds[136]? = _) rfl rfl hl.1 rfl (Nat.le_of_ble_eq_true rfl) dX9_isItem_84 ⟨Nat.zero_le _, Nat.zero_le _⟩ (fun H locs hH => ?_)
          refine g_if_ne (tgt := 92) hx hb0 dX9_isItem_87 (by decide) h (fun h => ?_) (fun h => ?_)
          · refine lv_aload_n hx hb0 dX9_isItem_92 rfl (lv_at hl 1 rfl) ?_
            refine g_getI hx hb0 hts q_ws_X9 hown hX hH (C := RX9) (T := TX9) (N := 19) (k := 136) (i := 17) (rfl : gKinds[136]? = _) rfl (by decide) (hts _ q_fl_X9_190) rfl rfl dX9_isItem_93 ?_
            refine lv_istore_n (lv' := [(2, .int (gI (q84.2 136 17))), (1, .int (gI (((gUp σ 136 16 ((σ 136 16) + (1 : Int))) 140 (Int.toNat ((gUp σ 136 16 ((σ 136 16) + (1 : Int))) 136 16))) - (48 : Int)))), (0, .ref (G.1 136))]) hx hb0 dX9_isItem_96 rfl hl (by decide) rfl (fun ls hl => ?_)
            refine lv_aload_n hx hb0 dX9_isItem_97 rfl (lv_at hl 2 rfl) ?_
            refine lv_bipush (v := gI (44 : Int)) hx hb0 dX9_isItem_98 (by decide) ?_
            obtain ⟨q100, e100, h⟩ := gBind_some h
            refine g_callVi (k := 136) (T := TX9) (N := 19) (As := [.int (gI (44 : Int))]) (rest := []) ⟨hx, hb0, hml, hown, hts⟩ (metX9_takes l D G q84.2 μ (44 : Int) q100.1 q100.2 e100) (g_cwV (C := RX9) 1 hts q_ml_X9_196 q_im_X9_takes q_se_X9_takes q_in_X9 q_co_X9_takes ⟨rfl, rfl⟩ (by decide +kernel) ⟨Nat.le_of_ble_eq_true rfl, Nat.le_of_ble_eq_true rfl⟩) hX hH (rfl : gKinds[136]? = _) rfl rfl hl.1 rfl (Nat.le_of_ble_eq_true rfl) dX9_isItem_100 ⟨Nat.zero_le _, Nat.zero_le _⟩ (fun H locs hH => ?_)
            refine g_if_eq (tgt := 127) hx hb0 dX9_isItem_103 (by decide) h (fun h => ?_) (fun h => ?_)
            · refine lv_iconst (v := gI (0 : Int)) hx hb0 dX9_isItem_127 (by decide) ?_
              exact g_zretS hx hb0 hr hH hlocks dX9_isItem_128 h
            · refine lv_aload_n hx hb0 dX9_isItem_106 rfl (lv_at hl 2 rfl) ?_
              refine lv_iconst (v := gI (2 : Int)) hx hb0 dX9_isItem_107 (by decide) ?_
              refine lv_iconst (v := gI (1 : Int)) hx hb0 dX9_isItem_108 (by decide) ?_
              refine lv_bipush (v := gI (60 : Int)) hx hb0 dX9_isItem_109 (by decide) ?_
              refine lv_iconst (v := gI (-1 : Int)) hx hb0 dX9_isItem_111 (by decide) ?_
              obtain ⟨q112, e112, h⟩ := gBind_some h
              refine g_callVi (k := 136) (T := TX9) (N := 19) (As := [.int (gI (2 : Int)), .int (gI (1 : Int)), .int (gI (60 : Int)), .int (gI (-1 : Int))]) (rest := []) ⟨hx, hb0, hml, hown, hts⟩ (metX9_isWithin l D G q100.2 μ (2 : Int) (1 : Int) (60 : Int) (-1 : Int) q112.1 q112.2 e112) (g_cwV (C := RX9) 4 hts q_ml_X9_199 q_im_X9_isWithin q_se_X9_isWithin q_in_X9 q_co_X9_isWithin ⟨rfl, rfl⟩ (by decide +kernel) ⟨Nat.le_of_ble_eq_true rfl, Nat.le_of_ble_eq_true rfl⟩) hX hH (rfl : gKinds[136]? = _) rfl rfl hl.1 rfl (Nat.le_of_ble_eq_true rfl) dX9_isItem_112 ⟨Nat.zero_le _, Nat.zero_le _⟩ (fun H locs hH => ?_)
              refine g_if_eq (tgt := 127) hx hb0 dX9_isItem_115 (by decide) h (fun h => ?_) (fun h => ?_)
              · refine lv_iconst (v := gI (0 : Int)) hx hb0 dX9_isItem_127 (by decide) ?_
                exact g_zretS hx hb0 hr hH hlocks dX9_isItem_128 h
              · refine lv_aload_n hx hb0 dX9_isItem_118 rfl (lv_at hl 2 rfl) ?_
                refine lv_bipush (v := gI (59 : Int)) hx hb0 dX9_isItem_119 (by decide) ?_
                obtain ⟨q121, e121, h⟩ := gBind_some h
                refine g_callVi (k := 136) (T := TX9) (N := 19) (As := [.int (gI (59 : Int))]) (rest := []) ⟨hx, hb0, hml, hown, hts⟩ (metX9_takes l D G q112.2 μ (59 : Int) q121.1 q121.2 e121) (g_cwV (C := RX9) 1 hts q_ml_X9_196 q_im_X9_takes q_se_X9_takes q_in_X9 q_co_X9_takes ⟨rfl, rfl⟩ (by decide +kernel) ⟨Nat.le_of_ble_eq_true rfl, Nat.le_of_ble_eq_true rfl⟩) hX hH (rfl : gKinds[136]? = _) rfl rfl hl.1 rfl (Nat.le_of_ble_eq_true rfl) dX9_isItem_121 ⟨Nat.zero_le _, Nat.zero_le _⟩ (fun H locs hH => ?_)
                refine g_if_ne (tgt := 129) hx hb0 dX9_isItem_124 (by decide) h (fun h => ?_) (fun h => ?_)
                · refine lv_aload_n hx hb0 dX9_isItem_129 rfl (lv_at hl 2 rfl) ?_
                  refine lv_iload_n hx hb0 dX9_isItem_130 rfl (lv_at hl 1 rfl) ?_
                  refine lv_iload_n hx hb0 dX9_isItem_131 rfl (lv_at hl 0 rfl) ?_
                  refine lv_aload_n hx hb0 dX9_isItem_132 rfl (lv_at hl 2 rfl) ?_
                  refine g_getI hx hb0 hts q_ws_X9 hown hX hH (C := RX9) (T := TX9) (N := 19) (k := 136) (i := 17) (rfl : gKinds[136]? = _) rfl (by decide) (hts _ q_fl_X9_190) rfl rfl dX9_isItem_133 ?_
                  obtain ⟨q136, e136, h⟩ := gBind_some h
                  refine g_callVv (k := 136) (T := TX9) (N := 19) (As := [.int (gI (((gUp σ 136 16 ((σ 136 16) + (1 : Int))) 140 (Int.toNat ((gUp σ 136 16 ((σ 136 16) + (1 : Int))) 136 16))) - (48 : Int))), .int (gI (q84.2 136 17)), .int (gI (q121.2 136 17))]) (rest := []) ⟨hx, hb0, hml, hown, hts⟩ (metX9_comes l D G q121.2 μ (((gUp σ 136 16 ((σ 136 16) + (1 : Int))) 140 (Int.toNat ((gUp σ 136 16 ((σ 136 16) + (1 : Int))) 136 16))) - (48 : Int)) (q84.2 136 17) (q121.2 136 17) q136 e136) (g_cwV (C := RX9) 3 hts q_ml_X9_78 q_im_X9_comes q_se_X9_comes q_in_X9 q_co_X9_comes ⟨rfl, rfl⟩ (by decide +kernel) ⟨Nat.le_of_ble_eq_true rfl, Nat.le_of_ble_eq_true rfl⟩) hX hH (rfl : gKinds[136]? = _) rfl rfl hl.1 rfl (Nat.le_of_ble_eq_true rfl) dX9_isItem_136 ⟨Nat.zero_le _, Nat.zero_le _⟩ (fun H locs hH => ?_)
                  refine lv_iconst (v := gI (1 : Int)) hx hb0 dX9_isItem_139 (by decide) ?_
                  exact g_zretS hx hb0 hr hH hlocks dX9_isItem_140 h
                · refine lv_iconst (v := gI (0 : Int)) hx hb0 dX9_isItem_127 (by decide) ?_
                  exact g_zretS hx hb0 hr hH hlocks dX9_isItem_128 h
          · refine lv_iconst (v := gI (0 : Int)) hx hb0 dX9_isItem_90 (by decide) ?_
            exact g_zretS hx hb0 hr hH hlocks dX9_isItem_91 h
      · refine lv_iconst (v := gI (0 : Int)) hx hb0 dX9_isItem_43 (by decide) ?_
        exact g_zretS hx hb0 hr hH hlocks dX9_isItem_44 h
def DX9_parse_K82  (σ82 : gSt) : Option (Int × gSt) :=
  gAt (4 : Int) 138 ((DX9_ends σ82 (σ82 137 (Int.toNat (4 : Int)))).bind fun q89 => some (q89.1, q89.2))
def DX9_parse_K74  (σ74 : gSt) : Option (Int × gSt) :=
  some (((-10 : Int) - (σ74 136 16)), σ74)
def DX9_parse_L49 (K74 : gSt → Option (Int × gSt)) : Nat → Int → gSt → Option (Int × gSt)
  | 0, _, _ => none
  | f49 + 1, x1_49, σ49 => gIf (x1_49 < (138 : Int)) x1_49 (138 : Int) (gAt x1_49 138 (gAt x1_49 138 (((DX9_parse_L49 K74 f49) (x1_49 + (1 : Int)) (gUp σ49 137 (Int.toNat x1_49) (σ49 139 (Int.toNat x1_49))))))) ((K74 σ49))
def DX9_parse_L29 (K82 : gSt → Option (Int × gSt)) : Nat → gSt → Option (Int × gSt)
  | 0, _ => none
  | f29 + 1, σ29 => gIf ((σ29 136 16) < (σ29 136 5)) (σ29 136 16) (σ29 136 5) ((DX9_isItem σ29).bind fun q41 => gIf (q41.1 = (0 : Int)) q41.1 (0 : Int) ((DX9_parse_L49 (DX9_parse_K74) gFuel (0 : Int) q41.2)) (((DX9_parse_L29 K82 f29) q41.2))) ((K82 σ29))
def DX9_parse (σ : gSt) : Option (Int × gSt) :=
  (DX9_hold (gUp σ 136 6 (0 : Int))).bind fun q6 => gAt (4 : Int) 138 (gAt (77 : Int) 138 ((DX9_parse_L29 (DX9_parse_K82) gFuel (gUp (gUp (gUp q6 137 (Int.toNat (4 : Int)) (0 : Int)) 137 (Int.toNat (77 : Int)) (0 : Int)) 136 16 (0 : Int)))))
set_option maxHeartbeats 4000000 in
set_option maxRecDepth 100000 in
theorem metX9_parse (l : Launch) (D : va_G) (G : gAd) (σ : gSt) (μ : gLg) (r : Int) (σ' : gSt) (h : DX9_parse σ = some (r, σ')) : Met l yX9_parse (gWs yX9_parse cX9_parse 2 (some (Jvm.ClassFile.FieldType.int))) ({ frames := 5, cells := 0, slots := 0, locals := 114 } : Room) (gPc D G [.ref (G.1 136)] σ μ) (gQi D G r σ' μ) 0 0 (gA G) := by
  refine Met.ofW (cc := cX9_parse) (maxL := 2) (ret := (some (Jvm.ClassFile.FieldType.int))) (by decide) rfl ?_
  intro p e s m args below meth c s₁ B hml hv
  obtain ⟨rfl, hP, hX⟩ := hv
  have hx := B.exec
  have hb0 := B.bytes
  have hr := B.returns
  have hts0 := atoms_spec (ws := (gWs yX9_parse cX9_parse 2 (some (Jvm.ClassFile.FieldType.int)))) B.pre
  have hts : ∀ w ∈ gLW, w.before _ s = true := fun w hw => hts0 w (List.mem_cons_of_mem _ hw)
  have hown : s.vm.findClass RX9 = some m.cls := findClass_of_methodNamed B.named
  have hlocks := B.notSynchronized
  have hH : gH D G s s.heap [] σ μ := ⟨hP, va_S.rf⟩
  have hl := lv_entry ([.ref (G.1 136)]) (n := 2) (Nat.le_of_ble_eq_true rfl)
  rw [lg_entry_eq]
  generalize (lg_sl ([.ref (G.1 136)]) ++ List.replicate (2 - (lg_sl ([.ref (G.1 136)])).length) Slot.unset).toArray = ls at hl ⊢
  have hl : lv_has ls 2 [(0, .ref (G.1 136))] := hl
  unfold DX9_parse at h
  refine lv_aload_n hx hb0 dX9_parse_0 rfl (lv_at hl 0 rfl) ?_
  refine lv_iconst (v := gI (0 : Int)) hx hb0 dX9_parse_1 (by decide) ?_
  refine g_putI hx hb0 hts q_ws_X9 tyX9 tyX9_ok nmX9 hown hX hH (C := RX9) (T := TX9) (N := 19) (k := 136) (i := 6) (rfl : gKinds[136]? = _) rfl (by decide) (hts _ q_fl_X9_40) rfl rfl rfl rfl dX9_parse_2 (fun H locs hH => ?_)
  refine lv_aload_n hx hb0 dX9_parse_5 rfl (lv_at hl 0 rfl) ?_
  obtain ⟨q6, e6, h⟩ := gBind_some h
  refine g_callVv (k := 136) (T := TX9) (N := 19) (As := []) (rest := []) ⟨hx, hb0, hml, hown, hts⟩ (metX9_hold l D G (gUp σ 136 6 (0 : Int)) μ q6 e6) (g_cwV (C := RX9) 0 hts q_ml_X9_66 q_im_X9_hold q_se_X9_hold q_in_X9 q_co_X9_hold ⟨rfl, rfl⟩ (by decide +kernel) ⟨Nat.le_of_ble_eq_true rfl, Nat.le_of_ble_eq_true rfl⟩) hX hH (rfl : gKinds[136]? = _) rfl rfl hl.1 rfl (Nat.le_of_ble_eq_true rfl) dX9_parse_6 ⟨Nat.zero_le _, Nat.zero_le _⟩ (fun H locs hH => ?_)
  refine lv_aload_n hx hb0 dX9_parse_9 rfl (lv_at hl 0 rfl) ?_
  refine g_getR hx hb0 hts q_ws_X9 hown hX hH (C := RX9) (T := TX9) (N := 19) (k := 136) (i := 0) (j := 137) (rfl : gKinds[136]? = _) rfl (by decide) (hts _ q_fl_X9_7) rfl rfl dX9_parse_10 ?_
  refine lv_iconst (v := gI (4 : Int)) hx hb0 dX9_parse_13 (by decide) ?_
  refine lv_iconst (v := gI (0 : Int)) hx hb0 dX9_parse_14 (by decide) ?_
  refine g_iast hx hb0 hX hH (k := 137) (rfl : gKinds[137]? = _) (by decide) dX9_parse_15 h (fun h H locs hH => ?_)
  refine lv_aload_n hx hb0 dX9_parse_16 rfl (lv_at hl 0 rfl) ?_
  refine g_getR hx hb0 hts q_ws_X9 hown hX hH (C := RX9) (T := TX9) (N := 19) (k := 136) (i := 0) (j := 137) (rfl : gKinds[136]? = _) rfl (by decide) (hts _ q_fl_X9_7) rfl rfl dX9_parse_17 ?_
  refine lv_bipush (v := gI (77 : Int)) hx hb0 dX9_parse_20 (by decide) ?_
  refine lv_iconst (v := gI (0 : Int)) hx hb0 dX9_parse_22 (by decide) ?_
  refine g_iast hx hb0 hX hH (k := 137) (rfl : gKinds[137]? = _) (by decide) dX9_parse_23 h (fun h H locs hH => ?_)
  refine lv_aload_n hx hb0 dX9_parse_24 rfl (lv_at hl 0 rfl) ?_
  refine lv_iconst (v := gI (0 : Int)) hx hb0 dX9_parse_25 (by decide) ?_
  refine g_putI hx hb0 hts q_ws_X9 tyX9 tyX9_ok nmX9 hown hX hH (C := RX9) (T := TX9) (N := 19) (k := 136) (i := 16) (rfl : gKinds[136]? = _) rfl (by decide) (hts _ q_fl_X9_184) rfl rfl rfl rfl dX9_parse_26 (fun H locs hH => ?_)
  have hK82 : ∀ (σ82 : gSt) (H : Heap) (locs : List Loc) (ls : Array Slot), gH D G s H locs σ82 μ → lv_has ls 2 [(0, .ref (G.1 136))] → (DX9_parse_K82 σ82) = some (r, σ') → W p l e (headSpec (gWs yX9_parse cX9_parse 2 (some (Jvm.ClassFile.FieldType.int))) ({ frames := 5, cells := 0, slots := 0, locals := 114 } : Room)).room s m ([.ref (G.1 136)] : List Value).toArray below meth c H locs 0 0 (MQ below (gQi D G r σ' μ) ([.ref (G.1 136)] : List Value).toArray s 0 0 (gA G)) (F0 m 82 ls []) := by
    intro σ82 H locs ls hH hl h
    unfold DX9_parse_K82 at h
    refine lv_aload_n hx hb0 dX9_parse_82 rfl (lv_at hl 0 rfl) ?_
    refine lv_aload_n hx hb0 dX9_parse_83 rfl (lv_at hl 0 rfl) ?_
    refine g_getR hx hb0 hts q_ws_X9 hown hX hH (C := RX9) (T := TX9) (N := 19) (k := 136) (i := 0) (j := 137) (rfl : gKinds[136]? = _) rfl (by decide) (hts _ q_fl_X9_7) rfl rfl dX9_parse_84 ?_
    refine lv_iconst (v := gI (4 : Int)) hx hb0 dX9_parse_87 (by decide) ?_
    refine g_iald hx hb0 hX hH (k := 137) (rfl : gKinds[137]? = _) (by decide) dX9_parse_88 h (fun h => ?_)
    obtain ⟨q89, e89, h⟩ := gBind_some h
    refine g_callVi (k := 136) (T := TX9) (N := 19) (As := [.int (gI (σ82 137 (Int.toNat (4 : Int))))]) (rest := []) ⟨hx, hb0, hml, hown, hts⟩ (metX9_ends l D G σ82 μ (σ82 137 (Int.toNat (4 : Int))) q89.1 q89.2 e89) (g_cwV (C := RX9) 1 hts q_ml_X9_69 q_im_X9_ends q_se_X9_ends q_in_X9 q_co_X9_ends ⟨rfl, rfl⟩ (by decide +kernel) ⟨Nat.le_of_ble_eq_true rfl, Nat.le_of_ble_eq_true rfl⟩) hX hH (rfl : gKinds[136]? = _) rfl rfl hl.1 rfl (Nat.le_of_ble_eq_true rfl) dX9_parse_89 ⟨Nat.zero_le _, Nat.zero_le _⟩ (fun H locs hH => ?_)
    exact g_iretS hx hb0 hr hH hlocks dX9_parse_92 h
  have hL29 : ∀ (f29 : Nat) (σ29 : gSt) (H : Heap) (locs : List Loc) (ls : Array Slot), gH D G s H locs σ29 μ → lv_has ls 2 [(0, .ref (G.1 136))] → (DX9_parse_L29 (DX9_parse_K82) f29 σ29) = some (r, σ') → W p l e (headSpec (gWs yX9_parse cX9_parse 2 (some (Jvm.ClassFile.FieldType.int))) ({ frames := 5, cells := 0, slots := 0, locals := 114 } : Room)).room s m ([.ref (G.1 136)] : List Value).toArray below meth c H locs 0 0 (MQ below (gQi D G r σ' μ) ([.ref (G.1 136)] : List Value).toArray s 0 0 (gA G)) (F0 m 29 ls []) := by
    intro f29
    induction f29 with
    | zero => intro σ29 H locs ls hH hl h; cases h
    | succ f29 ih29 =>
      intro σ29 H locs ls hH hl h
      unfold DX9_parse_L29 at h
      refine lv_aload_n hx hb0 dX9_parse_29 rfl (lv_at hl 0 rfl) ?_
      refine g_getI hx hb0 hts q_ws_X9 hown hX hH (C := RX9) (T := TX9) (N := 19) (k := 136) (i := 16) (rfl : gKinds[136]? = _) rfl (by decide) (hts _ q_fl_X9_184) rfl rfl dX9_parse_30 ?_
      refine lv_aload_n hx hb0 dX9_parse_33 rfl (lv_at hl 0 rfl) ?_
      refine g_getI hx hb0 hts q_ws_X9 hown hX hH (C := RX9) (T := TX9) (N := 19) (k := 136) (i := 5) (rfl : gKinds[136]? = _) rfl (by decide) (hts _ q_fl_X9_181) rfl rfl dX9_parse_34 ?_
      refine g_icmp_ge (tgt := 82) hx hb0 dX9_parse_37 (by decide) h (fun h => ?_) (fun h => ?_)
      · exact hK82 _ _ _ _ hH (lv_sub hl [0] rfl) h
      · refine lv_aload_n hx hb0 dX9_parse_40 rfl (lv_at hl 0 rfl) ?_
        obtain ⟨q41, e41, h⟩ := gBind_some h
        refine g_callVi (k := 136) (T := TX9) (N := 19) (As := []) (rest := []) ⟨hx, hb0, hml, hown, hts⟩ (metX9_isItem l D G σ29 μ q41.1 q41.2 e41) (g_cwV (C := RX9) 0 hts q_ml_X9_203 q_im_X9_isItem q_se_X9_isItem q_in_X9 q_co_X9_isItem ⟨rfl, rfl⟩ (by decide +kernel) ⟨Nat.le_of_ble_eq_true rfl, Nat.le_of_ble_eq_true rfl⟩) hX hH (rfl : gKinds[136]? = _) rfl rfl hl.1 rfl (Nat.le_of_ble_eq_true rfl) dX9_parse_41 ⟨Nat.zero_le _, Nat.zero_le _⟩ (fun H locs hH => ?_)
        refine g_if_ne (tgt := 29) hx hb0 dX9_parse_44 (by decide) h (fun h => ?_) (fun h => ?_)
        · exact ih29 _ _ _ _ hH (lv_sub hl [0] rfl) h
        · refine lv_iconst (v := gI (0 : Int)) hx hb0 dX9_parse_47 (by decide) ?_
          refine lv_istore_n (lv' := [(1, .int (gI (0 : Int))), (0, .ref (G.1 136))]) hx hb0 dX9_parse_48 rfl hl (by decide) rfl (fun ls hl => ?_)
          have hK74 : ∀ (σ74 : gSt) (H : Heap) (locs : List Loc) (ls : Array Slot), gH D G s H locs σ74 μ → lv_has ls 2 [(0, .ref (G.1 136))] → (DX9_parse_K74 σ74) = some (r, σ') → W p l e (headSpec (gWs yX9_parse cX9_parse 2 (some (Jvm.ClassFile.FieldType.int))) ({ frames := 5, cells := 0, slots := 0, locals := 114 } : Room)).room s m ([.ref (G.1 136)] : List Value).toArray below meth c H locs 0 0 (MQ below (gQi D G r σ' μ) ([.ref (G.1 136)] : List Value).toArray s 0 0 (gA G)) (F0 m 74 ls []) := by
            intro σ74 H locs ls hH hl h
            unfold DX9_parse_K74 at h
            refine lv_bipush (v := gI (-10 : Int)) hx hb0 dX9_parse_74 (by decide) ?_
            refine lv_aload_n hx hb0 dX9_parse_76 rfl (lv_at hl 0 rfl) ?_
            refine g_getI hx hb0 hts q_ws_X9 hown hX hH (C := RX9) (T := TX9) (N := 19) (k := 136) (i := 16) (rfl : gKinds[136]? = _) rfl (by decide) (hts _ q_fl_X9_184) rfl rfl dX9_parse_77 ?_
            refine g_isub hx hb0 dX9_parse_80 ?_
            exact g_iretS hx hb0 hr hH hlocks dX9_parse_81 h
          have hL49 : ∀ (f49 : Nat) (x1_49 : Int) (σ49 : gSt) (H : Heap) (locs : List Loc) (ls : Array Slot), gH D G s H locs σ49 μ → lv_has ls 2 [(1, .int (gI x1_49)), (0, .ref (G.1 136))] → (DX9_parse_L49 (DX9_parse_K74) f49 x1_49 σ49) = some (r, σ') → W p l e (headSpec (gWs yX9_parse cX9_parse 2 (some (Jvm.ClassFile.FieldType.int))) ({ frames := 5, cells := 0, slots := 0, locals := 114 } : Room)).room s m ([.ref (G.1 136)] : List Value).toArray below meth c H locs 0 0 (MQ below (gQi D G r σ' μ) ([.ref (G.1 136)] : List Value).toArray s 0 0 (gA G)) (F0 m 49 ls []) := by
            intro f49
            induction f49 with
            | zero => intro x1_49 σ49 H locs ls hH hl h; cases h
            | succ f49 ih49 =>
              intro x1_49 σ49 H locs ls hH hl h
              unfold DX9_parse_L49 at h
              refine lv_iload_n hx hb0 dX9_parse_49 rfl (lv_at hl 0 rfl) ?_
              refine lv_sipush (v := gI (138 : Int)) hx hb0 dX9_parse_50 (by decide) ?_
              refine g_icmp_ge (tgt := 74) hx hb0 dX9_parse_53 (by decide) h (fun h => ?_) (fun h => ?_)
              · exact hK74 _ _ _ _ hH (lv_sub hl [1] rfl) h
              · refine lv_aload_n hx hb0 dX9_parse_56 rfl (lv_at hl 1 rfl) ?_
                refine g_getR hx hb0 hts q_ws_X9 hown hX hH (C := RX9) (T := TX9) (N := 19) (k := 136) (i := 0) (j := 137) (rfl : gKinds[136]? = _) rfl (by decide) (hts _ q_fl_X9_7) rfl rfl dX9_parse_57 ?_
                refine lv_iload_n hx hb0 dX9_parse_60 rfl (lv_at hl 0 rfl) ?_
                refine lv_aload_n hx hb0 dX9_parse_61 rfl (lv_at hl 1 rfl) ?_
                refine g_getR hx hb0 hts q_ws_X9 hown hX hH (C := RX9) (T := TX9) (N := 19) (k := 136) (i := 2) (j := 139) (rfl : gKinds[136]? = _) rfl (by decide) (hts _ q_fl_X9_16) rfl rfl dX9_parse_62 ?_
                refine lv_iload_n hx hb0 dX9_parse_65 rfl (lv_at hl 0 rfl) ?_
                refine g_iald hx hb0 hX hH (k := 139) (rfl : gKinds[139]? = _) (by decide) dX9_parse_66 h (fun h => ?_)
                refine g_iast hx hb0 hX hH (k := 137) (rfl : gKinds[137]? = _) (by decide) dX9_parse_67 h (fun h H locs hH => ?_)
                refine g_iinc (k := 0) (n := (1 : Int)) (lv' := [(1, .int (gI (x1_49 + (1 : Int)))), (0, .ref (G.1 136))]) hx hb0 dX9_parse_68 hl rfl (by decide) rfl (fun ls hl => ?_)
                refine lv_goto (tgt := 49) hx hb0 dX9_parse_71 (by decide) ?_
                exact ih49 _ _ _ _ _ hH (lv_sub hl [0, 1] rfl) h
          exact hL49 gFuel _ _ _ _ _ hH (lv_sub hl [0, 1] rfl) h
  exact hL29 gFuel _ _ _ _ hH (lv_sub hl [0] rfl) h
def DX9_undo_K59  (σ59 : gSt) : Option (Int × gSt) :=
  (DX9_tells σ59 (σ59 136 3)).bind fun q64 => some (q64.1, q64.2)
def DX9_undo_L25 (K59 : gSt → Option (Int × gSt)) : Nat → Int → gSt → Option (Int × gSt)
  | 0, _, _ => none
  | f25 + 1, x1_25, σ25 => gIf (x1_25 < (138 : Int)) x1_25 (138 : Int) (gAt (((138 : Int) * (σ25 136 3)) + x1_25) 552 (gAt x1_25 138 (((DX9_undo_L25 K59 f25) (x1_25 + (1 : Int)) (gUp σ25 137 (Int.toNat x1_25) (σ25 138 (Int.toNat (((138 : Int) * (σ25 136 3)) + x1_25)))))))) ((K59 σ25))
def DX9_undo (σ : gSt) : Option (Int × gSt) :=
  gIf ((σ 136 3) = (0 : Int)) (σ 136 3) (0 : Int) ((DX9_fails σ (1 : Int)).bind fun q9 => some (q9.1, q9.2)) ((DX9_undo_L25 (DX9_undo_K59) gFuel (0 : Int) (gUp σ 136 3 ((σ 136 3) - (1 : Int)))))
set_option maxHeartbeats 4000000 in
set_option maxRecDepth 100000 in
theorem metX9_undo (l : Launch) (D : va_G) (G : gAd) (σ : gSt) (μ : gLg) (r : Int) (σ' : gSt) (h : DX9_undo σ = some (r, σ')) : Met l yX9_undo (gWs yX9_undo cX9_undo 2 (some (Jvm.ClassFile.FieldType.int))) ({ frames := 1, cells := 0, slots := 0, locals := 21 } : Room) (gPc D G [.ref (G.1 136)] σ μ) (gQi D G r σ' μ) 0 0 (gA G) := by
  refine Met.ofW (cc := cX9_undo) (maxL := 2) (ret := (some (Jvm.ClassFile.FieldType.int))) (by decide) rfl ?_
  intro p e s m args below meth c s₁ B hml hv
  obtain ⟨rfl, hP, hX⟩ := hv
  have hx := B.exec
  have hb0 := B.bytes
  have hr := B.returns
  have hts0 := atoms_spec (ws := (gWs yX9_undo cX9_undo 2 (some (Jvm.ClassFile.FieldType.int)))) B.pre
  have hts : ∀ w ∈ gLW, w.before _ s = true := fun w hw => hts0 w (List.mem_cons_of_mem _ hw)
  have hown : s.vm.findClass RX9 = some m.cls := findClass_of_methodNamed B.named
  have hlocks := B.notSynchronized
  have hH : gH D G s s.heap [] σ μ := ⟨hP, va_S.rf⟩
  have hl := lv_entry ([.ref (G.1 136)]) (n := 2) (Nat.le_of_ble_eq_true rfl)
  rw [lg_entry_eq]
  generalize (lg_sl ([.ref (G.1 136)]) ++ List.replicate (2 - (lg_sl ([.ref (G.1 136)])).length) Slot.unset).toArray = ls at hl ⊢
  have hl : lv_has ls 2 [(0, .ref (G.1 136))] := hl
  unfold DX9_undo at h
  refine lv_aload_n hx hb0 dX9_undo_0 rfl (lv_at hl 0 rfl) ?_
  refine g_getI hx hb0 hts q_ws_X9 hown hX hH (C := RX9) (T := TX9) (N := 19) (k := 136) (i := 3) (rfl : gKinds[136]? = _) rfl (by decide) (hts _ q_fl_X9_44) rfl rfl dX9_undo_1 ?_
  refine g_if_ne (tgt := 13) hx hb0 dX9_undo_4 (by decide) h (fun h => ?_) (fun h => ?_)
  · refine lv_aload_n hx hb0 dX9_undo_13 rfl (lv_at hl 0 rfl) ?_
    refine lv_dup hx hb0 dX9_undo_14 rfl ?_
    refine g_getI hx hb0 hts q_ws_X9 hown hX hH (C := RX9) (T := TX9) (N := 19) (k := 136) (i := 3) (rfl : gKinds[136]? = _) rfl (by decide) (hts _ q_fl_X9_44) rfl rfl dX9_undo_15 ?_
    refine lv_iconst (v := gI (1 : Int)) hx hb0 dX9_undo_18 (by decide) ?_
    refine g_isub hx hb0 dX9_undo_19 ?_
    refine g_putI hx hb0 hts q_ws_X9 tyX9 tyX9_ok nmX9 hown hX hH (C := RX9) (T := TX9) (N := 19) (k := 136) (i := 3) (rfl : gKinds[136]? = _) rfl (by decide) (hts _ q_fl_X9_44) rfl rfl rfl rfl dX9_undo_20 (fun H locs hH => ?_)
    refine lv_iconst (v := gI (0 : Int)) hx hb0 dX9_undo_23 (by decide) ?_
    refine lv_istore_n (lv' := [(1, .int (gI (0 : Int))), (0, .ref (G.1 136))]) hx hb0 dX9_undo_24 rfl hl (by decide) rfl (fun ls hl => ?_)
    have hK59 : ∀ (σ59 : gSt) (H : Heap) (locs : List Loc) (ls : Array Slot), gH D G s H locs σ59 μ → lv_has ls 2 [(0, .ref (G.1 136))] → (DX9_undo_K59 σ59) = some (r, σ') → W p l e (headSpec (gWs yX9_undo cX9_undo 2 (some (Jvm.ClassFile.FieldType.int))) ({ frames := 1, cells := 0, slots := 0, locals := 21 } : Room)).room s m ([.ref (G.1 136)] : List Value).toArray below meth c H locs 0 0 (MQ below (gQi D G r σ' μ) ([.ref (G.1 136)] : List Value).toArray s 0 0 (gA G)) (F0 m 59 ls []) := by
      intro σ59 H locs ls hH hl h
      unfold DX9_undo_K59 at h
      refine lv_aload_n hx hb0 dX9_undo_59 rfl (lv_at hl 0 rfl) ?_
      refine lv_aload_n hx hb0 dX9_undo_60 rfl (lv_at hl 0 rfl) ?_
      refine g_getI hx hb0 hts q_ws_X9 hown hX hH (C := RX9) (T := TX9) (N := 19) (k := 136) (i := 3) (rfl : gKinds[136]? = _) rfl (by decide) (hts _ q_fl_X9_44) rfl rfl dX9_undo_61 ?_
      obtain ⟨q64, e64, h⟩ := gBind_some h
      refine g_callVi (k := 136) (T := TX9) (N := 19) (As := [.int (gI (σ59 136 3))]) (rest := []) ⟨hx, hb0, hml, hown, hts⟩ (metX9_tells l D G σ59 μ (σ59 136 3) q64.1 q64.2 e64) (g_cwV (C := RX9) 1 hts q_ml_X9_47 q_im_X9_tells q_se_X9_tells q_in_X9 q_co_X9_tells ⟨rfl, rfl⟩ (by decide +kernel) ⟨Nat.le_of_ble_eq_true rfl, Nat.le_of_ble_eq_true rfl⟩) hX hH (rfl : gKinds[136]? = _) rfl rfl hl.1 rfl (Nat.le_of_ble_eq_true rfl) dX9_undo_64 ⟨Nat.zero_le _, Nat.zero_le _⟩ (fun H locs hH => ?_)
      exact g_iretS hx hb0 hr hH hlocks dX9_undo_67 h
    have hL25 : ∀ (f25 : Nat) (x1_25 : Int) (σ25 : gSt) (H : Heap) (locs : List Loc) (ls : Array Slot), gH D G s H locs σ25 μ → lv_has ls 2 [(1, .int (gI x1_25)), (0, .ref (G.1 136))] → (DX9_undo_L25 (DX9_undo_K59) f25 x1_25 σ25) = some (r, σ') → W p l e (headSpec (gWs yX9_undo cX9_undo 2 (some (Jvm.ClassFile.FieldType.int))) ({ frames := 1, cells := 0, slots := 0, locals := 21 } : Room)).room s m ([.ref (G.1 136)] : List Value).toArray below meth c H locs 0 0 (MQ below (gQi D G r σ' μ) ([.ref (G.1 136)] : List Value).toArray s 0 0 (gA G)) (F0 m 25 ls []) := by
      intro f25
      induction f25 with
      | zero => intro x1_25 σ25 H locs ls hH hl h; cases h
      | succ f25 ih25 =>
        intro x1_25 σ25 H locs ls hH hl h
        unfold DX9_undo_L25 at h
        refine lv_iload_n hx hb0 dX9_undo_25 rfl (lv_at hl 0 rfl) ?_
        refine lv_sipush (v := gI (138 : Int)) hx hb0 dX9_undo_26 (by decide) ?_
        refine g_icmp_ge (tgt := 59) hx hb0 dX9_undo_29 (by decide) h (fun h => ?_) (fun h => ?_)
        · exact hK59 _ _ _ _ hH (lv_sub hl [1] rfl) h
        · refine lv_aload_n hx hb0 dX9_undo_32 rfl (lv_at hl 1 rfl) ?_
          refine g_getR hx hb0 hts q_ws_X9 hown hX hH (C := RX9) (T := TX9) (N := 19) (k := 136) (i := 0) (j := 137) (rfl : gKinds[136]? = _) rfl (by decide) (hts _ q_fl_X9_7) rfl rfl dX9_undo_33 ?_
          refine lv_iload_n hx hb0 dX9_undo_36 rfl (lv_at hl 0 rfl) ?_
          refine lv_aload_n hx hb0 dX9_undo_37 rfl (lv_at hl 1 rfl) ?_
          refine g_getR hx hb0 hts q_ws_X9 hown hX hH (C := RX9) (T := TX9) (N := 19) (k := 136) (i := 1) (j := 138) (rfl : gKinds[136]? = _) rfl (by decide) (hts _ q_fl_X9_13) rfl rfl dX9_undo_38 ?_
          refine lv_sipush (v := gI (138 : Int)) hx hb0 dX9_undo_41 (by decide) ?_
          refine lv_aload_n hx hb0 dX9_undo_44 rfl (lv_at hl 1 rfl) ?_
          refine g_getI hx hb0 hts q_ws_X9 hown hX hH (C := RX9) (T := TX9) (N := 19) (k := 136) (i := 3) (rfl : gKinds[136]? = _) rfl (by decide) (hts _ q_fl_X9_44) rfl rfl dX9_undo_45 ?_
          refine g_imul hx hb0 dX9_undo_48 ?_
          refine lv_iload_n hx hb0 dX9_undo_49 rfl (lv_at hl 0 rfl) ?_
          refine g_iadd hx hb0 dX9_undo_50 ?_
          refine g_iald hx hb0 hX hH (k := 138) (rfl : gKinds[138]? = _) (by decide) dX9_undo_51 h (fun h => ?_)
          refine g_iast hx hb0 hX hH (k := 137) (rfl : gKinds[137]? = _) (by decide) dX9_undo_52 h (fun h H locs hH => ?_)
          refine g_iinc (k := 0) (n := (1 : Int)) (lv' := [(1, .int (gI (x1_25 + (1 : Int)))), (0, .ref (G.1 136))]) hx hb0 dX9_undo_53 hl rfl (by decide) rfl (fun ls hl => ?_)
          refine lv_goto (tgt := 25) hx hb0 dX9_undo_56 (by decide) ?_
          exact ih25 _ _ _ _ _ hH (lv_sub hl [0, 1] rfl) h
    exact hL25 gFuel _ _ _ _ _ hH (lv_sub hl [0, 1] rfl) h
  · refine lv_aload_n hx hb0 dX9_undo_7 rfl (lv_at hl 0 rfl) ?_
    refine lv_iconst (v := gI (1 : Int)) hx hb0 dX9_undo_8 (by decide) ?_
    obtain ⟨q9, e9, h⟩ := gBind_some h
    refine g_callVi (k := 136) (T := TX9) (N := 19) (As := [.int (gI (1 : Int))]) (rest := []) ⟨hx, hb0, hml, hown, hts⟩ (metX9_fails l D G σ μ (1 : Int) q9.1 q9.2 e9) (g_cwV (C := RX9) 1 hts q_ml_X9_63 q_im_X9_fails q_se_X9_fails q_in_X9 q_co_X9_fails ⟨rfl, rfl⟩ (by decide +kernel) ⟨Nat.le_of_ble_eq_true rfl, Nat.le_of_ble_eq_true rfl⟩) hX hH (rfl : gKinds[136]? = _) rfl rfl hl.1 rfl (Nat.le_of_ble_eq_true rfl) dX9_undo_9 ⟨Nat.zero_le _, Nat.zero_le _⟩ (fun H locs hH => ?_)
    exact g_iretS hx hb0 hr hH hlocks dX9_undo_12 h
def DX9_mix (σ : gSt) (μ : gLg) (a1 : Int) : Option (gLg) :=
  some (gUl μ 136 (((31 : Int64) * (μ 136)) + ((gI a1).toInt64)))
set_option maxHeartbeats 4000000 in
set_option maxRecDepth 100000 in
theorem metX9_mix (l : Launch) (D : va_G) (G : gAd) (σ : gSt) (μ : gLg) (a1 : Int) (μ' : gLg) (h : DX9_mix σ μ a1 = some μ') : Met l yX9_mix (gWs yX9_mix cX9_mix 2 none) ({ frames := 0, cells := 0, slots := 0, locals := 0 } : Room) (gPc D G [.ref (G.1 136), .int (gI a1)] σ μ) (gQv D G σ μ') 0 0 (gA G) := by
  refine Met.ofW (cc := cX9_mix) (maxL := 2) (ret := none) (by decide) rfl ?_
  intro p e s m args below meth c s₁ B hml hv
  obtain ⟨rfl, hP, hX⟩ := hv
  have hx := B.exec
  have hb0 := B.bytes
  have hr := B.returns
  have hts0 := atoms_spec (ws := (gWs yX9_mix cX9_mix 2 none)) B.pre
  have hts : ∀ w ∈ gLW, w.before _ s = true := fun w hw => hts0 w (List.mem_cons_of_mem _ hw)
  have hown : s.vm.findClass RX9 = some m.cls := findClass_of_methodNamed B.named
  have hlocks := B.notSynchronized
  have hH : gH D G s s.heap [] σ μ := ⟨hP, va_S.rf⟩
  have hl := lv_entry ([.ref (G.1 136), .int (gI a1)]) (n := 2) (Nat.le_of_ble_eq_true rfl)
  rw [lg_entry_eq]
  generalize (lg_sl ([.ref (G.1 136), .int (gI a1)]) ++ List.replicate (2 - (lg_sl ([.ref (G.1 136), .int (gI a1)])).length) Slot.unset).toArray = ls at hl ⊢
  have hl : lv_has ls 2 [(0, .ref (G.1 136)), (1, .int (gI a1))] := hl
  unfold DX9_mix at h
  refine lv_aload_n hx hb0 dX9_mix_0 rfl (lv_at hl 0 rfl) ?_
  refine lv_ldc2 (v := (31 : Int64)) hx hb0 hown (hts _ q_kl_X9_207) dX9_mix_1 ?_
  refine lv_aload_n hx hb0 dX9_mix_4 rfl (lv_at hl 0 rfl) ?_
  refine g_getL hx hb0 hts q_ws_X9 hown hX hH (C := RX9) (T := TX9) (N := 19) (k := 136) (i := 18) (rfl : gKinds[136]? = _) rfl (by decide) (hts _ q_fl_X9_209) rfl rfl dX9_mix_5 ?_
  refine lv_lmul hx hb0 dX9_mix_8 ?_
  refine lv_iload_n hx hb0 dX9_mix_9 rfl (lv_at hl 1 rfl) ?_
  refine lv_i2l (v := (gI a1).toInt64) hx hb0 dX9_mix_10 rfl ?_
  refine lv_ladd hx hb0 dX9_mix_11 ?_
  refine g_putL hx hb0 hts q_ws_X9 tyX9 tyX9_ok nmX9 hown hX hH (C := RX9) (T := TX9) (N := 19) (k := 136) (i := 18) (rfl : gKinds[136]? = _) rfl (by decide) (hts _ q_fl_X9_209) rfl rfl rfl rfl gSole dX9_mix_12 (fun H locs hH => ?_)
  exact g_vretM hx hb0 hr hH hlocks dX9_mix_15 h
def DX9_digest_K239 (q6 : gSt) (μ239 : gLg) : Option (Int64 × gSt × gLg) :=
  (DX9_longest q6).bind fun q241 => (DX9_mix q241.2 μ239 q241.1).bind fun q244 => (DX9_mix q241.2 q244 (q241.2 136 3)).bind fun q252 => some ((q252 136), q241.2, q252)
def DX9_digest_K233 (R198 : Int → gLg → Option (Int64 × gSt × gLg)) (x1_198 : Int) (μ233 : gLg) : Option (Int64 × gSt × gLg) :=
  (R198 (x1_198 + (1 : Int)) μ233)
def DX9_digest_L211 (K233 : gLg → Option (Int64 × gSt × gLg)) (q6 : gSt) (x1_198 : Int) : Nat → Int → gLg → Option (Int64 × gSt × gLg)
  | 0, _, _ => none
  | f211 + 1, x2_211, μ211 => gIf (x2_211 < (6 : Int)) x2_211 (6 : Int) ((DX9_arrowTold q6 x1_198 x2_211).bind fun q221 => (DX9_mix q6 μ211 q221).bind fun q224 => ((DX9_digest_L211 K233 q6 x1_198 f211) (x2_211 + (1 : Int)) q224)) ((K233 μ211))
def DX9_digest_L198 (K239 : gLg → Option (Int64 × gSt × gLg)) (q6 : gSt) : Nat → Int → gLg → Option (Int64 × gSt × gLg)
  | 0, _, _ => none
  | f198 + 1, x1_198, μ198 => gAt (77 : Int) 138 (gIf (x1_198 < (q6 137 (Int.toNat (77 : Int)))) x1_198 (q6 137 (Int.toNat (77 : Int))) ((DX9_digest_L211 (DX9_digest_K233 (DX9_digest_L198 K239 q6 f198) x1_198) q6 x1_198 gFuel (0 : Int) μ198)) ((K239 μ198)))
def DX9_digest_K196 (q6 : gSt) (μ196 : gLg) : Option (Int64 × gSt × gLg) :=
  (DX9_digest_L198 (DX9_digest_K239 q6) q6 gFuel (0 : Int) μ196)
def DX9_digest_K190 (R159 : Int → gLg → Option (Int64 × gSt × gLg)) (x1_159 : Int) (μ190 : gLg) : Option (Int64 × gSt × gLg) :=
  (R159 (x1_159 + (1 : Int)) μ190)
def DX9_digest_L169 (K190 : gLg → Option (Int64 × gSt × gLg)) (q6 : gSt) (x1_159 : Int) : Nat → Int → gLg → Option (Int64 × gSt × gLg)
  | 0, _, _ => none
  | f169 + 1, x2_169, μ169 => gIf (x2_169 < (5 : Int)) x2_169 (5 : Int) ((DX9_sheetTold q6 x1_159 x2_169).bind fun q178 => (DX9_mix q6 μ169 q178).bind fun q181 => ((DX9_digest_L169 K190 q6 x1_159 f169) (x2_169 + (1 : Int)) q181)) ((K190 μ169))
def DX9_digest_L159 (K196 : gLg → Option (Int64 × gSt × gLg)) (q6 : gSt) : Nat → Int → gLg → Option (Int64 × gSt × gLg)
  | 0, _, _ => none
  | f159 + 1, x1_159, μ159 => gIf (x1_159 < (q6 136 12)) x1_159 (q6 136 12) ((DX9_digest_L169 (DX9_digest_K190 (DX9_digest_L159 K196 q6 f159) x1_159) q6 x1_159 gFuel (0 : Int) μ159)) ((K196 μ159))
def DX9_digest_K149 (q6 : gSt) (μ149 : gLg) : Option (Int64 × gSt × gLg) :=
  (DX9_mix q6 μ149 (q6 136 12)).bind fun q154 => (DX9_digest_L159 (DX9_digest_K196 q6) q6 gFuel (0 : Int) q154)
def DX9_digest_L99 (K149 : gLg → Option (Int64 × gSt × gLg)) (q6 : gSt) : Nat → Int → gLg → Option (Int64 × gSt × gLg)
  | 0, _, _ => none
  | f99 + 1, x1_99, μ99 => gAt (0 : Int) 138 (gIf (x1_99 < ((q6 136 7) * (q6 137 (Int.toNat (0 : Int))))) x1_99 ((q6 136 7) * (q6 137 (Int.toNat (0 : Int)))) (gAt (0 : Int) 138 (gDv x1_99 (q6 137 (Int.toNat (0 : Int))) (gAt (0 : Int) 138 (gDv x1_99 (q6 137 (Int.toNat (0 : Int))) (gAt (((20 : Int) * (x1_99 / (q6 137 (Int.toNat (0 : Int))))) + (x1_99 % (q6 137 (Int.toNat (0 : Int))))) 480 ((DX9_mix q6 μ99 (q6 141 (Int.toNat (((20 : Int) * (x1_99 / (q6 137 (Int.toNat (0 : Int))))) + (x1_99 % (q6 137 (Int.toNat (0 : Int)))))))).bind fun q140 => ((DX9_digest_L99 K149 q6 f99) (x1_99 + (1 : Int)) q140))))))) ((K149 μ99)))
def DX9_digest_K89 (q6 : gSt) (μ89 : gLg) : Option (Int64 × gSt × gLg) :=
  (DX9_mix q6 μ89 (q6 136 7)).bind fun q94 => (DX9_digest_L99 (DX9_digest_K149 q6) q6 gFuel (0 : Int) q94)
def DX9_digest_K83 (R49 : Int → gLg → Option (Int64 × gSt × gLg)) (x1_49 : Int) (μ83 : gLg) : Option (Int64 × gSt × gLg) :=
  (R49 (x1_49 + (1 : Int)) μ83)
def DX9_digest_L61 (K83 : gLg → Option (Int64 × gSt × gLg)) (q6 : gSt) (x1_49 : Int) : Nat → Int → gLg → Option (Int64 × gSt × gLg)
  | 0, _, _ => none
  | f61 + 1, x2_61, μ61 => gIf (x2_61 < (7 : Int)) x2_61 (7 : Int) ((DX9_taskTold q6 x1_49 x2_61).bind fun q71 => (DX9_mix q6 μ61 q71).bind fun q74 => ((DX9_digest_L61 K83 q6 x1_49 f61) (x2_61 + (1 : Int)) q74)) ((K83 μ61))
def DX9_digest_L49 (K89 : gLg → Option (Int64 × gSt × gLg)) (q6 : gSt) : Nat → Int → gLg → Option (Int64 × gSt × gLg)
  | 0, _, _ => none
  | f49 + 1, x1_49, μ49 => gAt (4 : Int) 138 (gIf (x1_49 < (q6 137 (Int.toNat (4 : Int)))) x1_49 (q6 137 (Int.toNat (4 : Int))) ((DX9_digest_L61 (DX9_digest_K83 (DX9_digest_L49 K89 q6 f49) x1_49) q6 x1_49 gFuel (0 : Int) μ49)) ((K89 μ49)))
def DX9_digest_K47 (q6 : gSt) (μ47 : gLg) : Option (Int64 × gSt × gLg) :=
  (DX9_digest_L49 (DX9_digest_K89 q6) q6 gFuel (0 : Int) μ47)
def DX9_digest_L26 (K47 : gLg → Option (Int64 × gSt × gLg)) (q6 : gSt) : Nat → Int → gLg → Option (Int64 × gSt × gLg)
  | 0, _, _ => none
  | f26 + 1, x1_26, μ26 => gIf (x1_26 < (6 : Int)) x1_26 (6 : Int) ((DX9_valueOf q6 x1_26).bind fun q35 => (DX9_mix q6 μ26 q35).bind fun q38 => ((DX9_digest_L26 K47 q6 f26) (x1_26 + (1 : Int)) q38)) ((K47 μ26))
def DX9_digest (σ : gSt) (μ : gLg) : Option (Int64 × gSt × gLg) :=
  (DX9_prints (gUp σ 136 6 (0 : Int))).bind fun q6 => (DX9_mix q6 (gUl μ 136 (3259 : Int64)) (q6 136 5)).bind fun q21 => (DX9_digest_L26 (DX9_digest_K47 q6) q6 gFuel (0 : Int) q21)
set_option maxHeartbeats 4000000 in
set_option maxRecDepth 100000 in
theorem metX9_digest (l : Launch) (D : va_G) (G : gAd) (σ : gSt) (μ : gLg) (r : Int64) (σ' : gSt) (μ' : gLg) (h : DX9_digest σ μ = some (r, σ', μ')) : Met l yX9_digest (gWs yX9_digest cX9_digest 3 (some (Jvm.ClassFile.FieldType.long))) ({ frames := 6, cells := 0, slots := 0, locals := 139 } : Room) (gPc D G [.ref (G.1 136)] σ μ) (gQl D G r σ' μ') 0 0 (gA G) := by
  refine Met.ofW (cc := cX9_digest) (maxL := 3) (ret := (some (Jvm.ClassFile.FieldType.long))) (by decide) rfl ?_
  intro p e s m args below meth c s₁ B hml hv
  obtain ⟨rfl, hP, hX⟩ := hv
  have hx := B.exec
  have hb0 := B.bytes
  have hr := B.returns
  have hts0 := atoms_spec (ws := (gWs yX9_digest cX9_digest 3 (some (Jvm.ClassFile.FieldType.long)))) B.pre
  have hts : ∀ w ∈ gLW, w.before _ s = true := fun w hw => hts0 w (List.mem_cons_of_mem _ hw)
  have hown : s.vm.findClass RX9 = some m.cls := findClass_of_methodNamed B.named
  have hlocks := B.notSynchronized
  have hH : gH D G s s.heap [] σ μ := ⟨hP, va_S.rf⟩
  have hl := lv_entry ([.ref (G.1 136)]) (n := 3) (Nat.le_of_ble_eq_true rfl)
  rw [lg_entry_eq]
  generalize (lg_sl ([.ref (G.1 136)]) ++ List.replicate (3 - (lg_sl ([.ref (G.1 136)])).length) Slot.unset).toArray = ls at hl ⊢
  have hl : lv_has ls 3 [(0, .ref (G.1 136))] := hl
  unfold DX9_digest at h
  refine lv_aload_n hx hb0 dX9_digest_0 rfl (lv_at hl 0 rfl) ?_
  refine lv_iconst (v := gI (0 : Int)) hx hb0 dX9_digest_1 (by decide) ?_
  refine g_putI hx hb0 hts q_ws_X9 tyX9 tyX9_ok nmX9 hown hX hH (C := RX9) (T := TX9) (N := 19) (k := 136) (i := 6) (rfl : gKinds[136]? = _) rfl (by decide) (hts _ q_fl_X9_40) rfl rfl rfl rfl dX9_digest_2 (fun H locs hH => ?_)
  refine lv_aload_n hx hb0 dX9_digest_5 rfl (lv_at hl 0 rfl) ?_
  obtain ⟨q6, e6, h⟩ := gBind_some h
  refine g_callVv (k := 136) (T := TX9) (N := 19) (As := []) (rest := []) ⟨hx, hb0, hml, hown, hts⟩ (metX9_prints l D G (gUp σ 136 6 (0 : Int)) μ q6 e6) (g_cwV (C := RX9) 0 hts q_ml_X9_155 q_im_X9_prints q_se_X9_prints q_in_X9 q_co_X9_prints ⟨rfl, rfl⟩ (by decide +kernel) ⟨Nat.le_of_ble_eq_true rfl, Nat.le_of_ble_eq_true rfl⟩) hX hH (rfl : gKinds[136]? = _) rfl rfl hl.1 rfl (Nat.le_of_ble_eq_true rfl) dX9_digest_6 ⟨Nat.zero_le _, Nat.zero_le _⟩ (fun H locs hH => ?_)
  refine lv_aload_n hx hb0 dX9_digest_9 rfl (lv_at hl 0 rfl) ?_
  refine lv_ldc2 (v := (3259 : Int64)) hx hb0 hown (hts _ q_kl_X9_213) dX9_digest_10 ?_
  refine g_putL hx hb0 hts q_ws_X9 tyX9 tyX9_ok nmX9 hown hX hH (C := RX9) (T := TX9) (N := 19) (k := 136) (i := 18) (rfl : gKinds[136]? = _) rfl (by decide) (hts _ q_fl_X9_209) rfl rfl rfl rfl gSole dX9_digest_13 (fun H locs hH => ?_)
  refine lv_aload_n hx hb0 dX9_digest_16 rfl (lv_at hl 0 rfl) ?_
  refine lv_aload_n hx hb0 dX9_digest_17 rfl (lv_at hl 0 rfl) ?_
  refine g_getI hx hb0 hts q_ws_X9 hown hX hH (C := RX9) (T := TX9) (N := 19) (k := 136) (i := 5) (rfl : gKinds[136]? = _) rfl (by decide) (hts _ q_fl_X9_181) rfl rfl dX9_digest_18 ?_
  obtain ⟨q21, e21, h⟩ := gBind_some h
  refine g_callVv (k := 136) (T := TX9) (N := 19) (As := [.int (gI (q6 136 5))]) (rest := []) ⟨hx, hb0, hml, hown, hts⟩ (metX9_mix l D G q6 (gUl μ 136 (3259 : Int64)) (q6 136 5) q21 e21) (g_cwV (C := RX9) 1 hts q_ml_X9_215 q_im_X9_mix q_se_X9_mix q_in_X9 q_co_X9_mix ⟨rfl, rfl⟩ (by decide +kernel) ⟨Nat.le_of_ble_eq_true rfl, Nat.le_of_ble_eq_true rfl⟩) hX hH (rfl : gKinds[136]? = _) rfl rfl hl.1 rfl (Nat.le_of_ble_eq_true rfl) dX9_digest_21 ⟨Nat.zero_le _, Nat.zero_le _⟩ (fun H locs hH => ?_)
  refine lv_iconst (v := gI (0 : Int)) hx hb0 dX9_digest_24 (by decide) ?_
  refine lv_istore_n (lv' := [(1, .int (gI (0 : Int))), (0, .ref (G.1 136))]) hx hb0 dX9_digest_25 rfl hl (by decide) rfl (fun ls hl => ?_)
  have hK47 : ∀ (μ47 : gLg) (H : Heap) (locs : List Loc) (ls : Array Slot), gH D G s H locs q6 μ47 → lv_has ls 3 [(0, .ref (G.1 136))] → (DX9_digest_K47 q6 μ47) = some (r, σ', μ') → W p l e (headSpec (gWs yX9_digest cX9_digest 3 (some (Jvm.ClassFile.FieldType.long))) ({ frames := 6, cells := 0, slots := 0, locals := 139 } : Room)).room s m ([.ref (G.1 136)] : List Value).toArray below meth c H locs 0 0 (MQ below (gQl D G r σ' μ') ([.ref (G.1 136)] : List Value).toArray s 0 0 (gA G)) (F0 m 47 ls []) := by
    intro μ47 H locs ls hH hl h
    unfold DX9_digest_K47 at h
    refine lv_iconst (v := gI (0 : Int)) hx hb0 dX9_digest_47 (by decide) ?_
    refine lv_istore_n (lv' := [(1, .int (gI (0 : Int))), (0, .ref (G.1 136))]) hx hb0 dX9_digest_48 rfl hl (by decide) rfl (fun ls hl => ?_)
    have hK89 : ∀ (μ89 : gLg) (H : Heap) (locs : List Loc) (ls : Array Slot), gH D G s H locs q6 μ89 → lv_has ls 3 [(0, .ref (G.1 136))] → (DX9_digest_K89 q6 μ89) = some (r, σ', μ') → W p l e (headSpec (gWs yX9_digest cX9_digest 3 (some (Jvm.ClassFile.FieldType.long))) ({ frames := 6, cells := 0, slots := 0, locals := 139 } : Room)).room s m ([.ref (G.1 136)] : List Value).toArray below meth c H locs 0 0 (MQ below (gQl D G r σ' μ') ([.ref (G.1 136)] : List Value).toArray s 0 0 (gA G)) (F0 m 89 ls []) := by
      intro μ89 H locs ls hH hl h
      unfold DX9_digest_K89 at h
      refine lv_aload_n hx hb0 dX9_digest_89 rfl (lv_at hl 0 rfl) ?_
      refine lv_aload_n hx hb0 dX9_digest_90 rfl (lv_at hl 0 rfl) ?_
      refine g_getI hx hb0 hts q_ws_X9 hown hX hH (C := RX9) (T := TX9) (N := 19) (k := 136) (i := 7) (rfl : gKinds[136]? = _) rfl (by decide) (hts _ q_fl_X9_103) rfl rfl dX9_digest_91 ?_
      obtain ⟨q94, e94, h⟩ := gBind_some h
      refine g_callVv (k := 136) (T := TX9) (N := 19) (As := [.int (gI (q6 136 7))]) (rest := []) ⟨hx, hb0, hml, hown, hts⟩ (metX9_mix l D G q6 μ89 (q6 136 7) q94 e94) (g_cwV (C := RX9) 1 hts q_ml_X9_215 q_im_X9_mix q_se_X9_mix q_in_X9 q_co_X9_mix ⟨rfl, rfl⟩ (by decide +kernel) ⟨Nat.le_of_ble_eq_true rfl, Nat.le_of_ble_eq_true rfl⟩) hX hH (rfl : gKinds[136]? = _) rfl rfl hl.1 rfl (Nat.le_of_ble_eq_true rfl) dX9_digest_94 ⟨Nat.zero_le _, Nat.zero_le _⟩ (fun H locs hH => ?_)
      refine lv_iconst (v := gI (0 : Int)) hx hb0 dX9_digest_97 (by decide) ?_
      refine lv_istore_n (lv' := [(1, .int (gI (0 : Int))), (0, .ref (G.1 136))]) hx hb0 dX9_digest_98 rfl hl (by decide) rfl (fun ls hl => ?_)
      have hK149 : ∀ (μ149 : gLg) (H : Heap) (locs : List Loc) (ls : Array Slot), gH D G s H locs q6 μ149 → lv_has ls 3 [(0, .ref (G.1 136))] → (DX9_digest_K149 q6 μ149) = some (r, σ', μ') → W p l e (headSpec (gWs yX9_digest cX9_digest 3 (some (Jvm.ClassFile.FieldType.long))) ({ frames := 6, cells := 0, slots := 0, locals := 139 } : Room)).room s m ([.ref (G.1 136)] : List Value).toArray below meth c H locs 0 0 (MQ below (gQl D G r σ' μ') ([.ref (G.1 136)] : List Value).toArray s 0 0 (gA G)) (F0 m 149 ls []) := by
        intro μ149 H locs ls hH hl h
        unfold DX9_digest_K149 at h
        refine lv_aload_n hx hb0 dX9_digest_149 rfl (lv_at hl 0 rfl) ?_
        refine lv_aload_n hx hb0 dX9_digest_150 rfl (lv_at hl 0 rfl) ?_
        refine g_getI hx hb0 hts q_ws_X9 hown hX hH (C := RX9) (T := TX9) (N := 19) (k := 136) (i := 12) (rfl : gKinds[136]? = _) rfl (by decide) (hts _ q_fl_X9_130) rfl rfl dX9_digest_151 ?_
        obtain ⟨q154, e154, h⟩ := gBind_some h
        refine g_callVv (k := 136) (T := TX9) (N := 19) (As := [.int (gI (q6 136 12))]) (rest := []) ⟨hx, hb0, hml, hown, hts⟩ (metX9_mix l D G q6 μ149 (q6 136 12) q154 e154) (g_cwV (C := RX9) 1 hts q_ml_X9_215 q_im_X9_mix q_se_X9_mix q_in_X9 q_co_X9_mix ⟨rfl, rfl⟩ (by decide +kernel) ⟨Nat.le_of_ble_eq_true rfl, Nat.le_of_ble_eq_true rfl⟩) hX hH (rfl : gKinds[136]? = _) rfl rfl hl.1 rfl (Nat.le_of_ble_eq_true rfl) dX9_digest_154 ⟨Nat.zero_le _, Nat.zero_le _⟩ (fun H locs hH => ?_)
        refine lv_iconst (v := gI (0 : Int)) hx hb0 dX9_digest_157 (by decide) ?_
        refine lv_istore_n (lv' := [(1, .int (gI (0 : Int))), (0, .ref (G.1 136))]) hx hb0 dX9_digest_158 rfl hl (by decide) rfl (fun ls hl => ?_)
        have hK196 : ∀ (μ196 : gLg) (H : Heap) (locs : List Loc) (ls : Array Slot), gH D G s H locs q6 μ196 → lv_has ls 3 [(0, .ref (G.1 136))] → (DX9_digest_K196 q6 μ196) = some (r, σ', μ') → W p l e (headSpec (gWs yX9_digest cX9_digest 3 (some (Jvm.ClassFile.FieldType.long))) ({ frames := 6, cells := 0, slots := 0, locals := 139 } : Room)).room s m ([.ref (G.1 136)] : List Value).toArray below meth c H locs 0 0 (MQ below (gQl D G r σ' μ') ([.ref (G.1 136)] : List Value).toArray s 0 0 (gA G)) (F0 m 196 ls []) := by
          intro μ196 H locs ls hH hl h
          unfold DX9_digest_K196 at h
          refine lv_iconst (v := gI (0 : Int)) hx hb0 dX9_digest_196 (by decide) ?_
          refine lv_istore_n (lv' := [(1, .int (gI (0 : Int))), (0, .ref (G.1 136))]) hx hb0 dX9_digest_197 rfl hl (by decide) rfl (fun ls hl => ?_)
          have hK239 : ∀ (μ239 : gLg) (H : Heap) (locs : List Loc) (ls : Array Slot), gH D G s H locs q6 μ239 → lv_has ls 3 [(0, .ref (G.1 136))] → (DX9_digest_K239 q6 μ239) = some (r, σ', μ') → W p l e (headSpec (gWs yX9_digest cX9_digest 3 (some (Jvm.ClassFile.FieldType.long))) ({ frames := 6, cells := 0, slots := 0, locals := 139 } : Room)).room s m ([.ref (G.1 136)] : List Value).toArray below meth c H locs 0 0 (MQ below (gQl D G r σ' μ') ([.ref (G.1 136)] : List Value).toArray s 0 0 (gA G)) (F0 m 239 ls []) := by
            intro μ239 H locs ls hH hl h
            unfold DX9_digest_K239 at h
            refine lv_aload_n hx hb0 dX9_digest_239 rfl (lv_at hl 0 rfl) ?_
            refine lv_aload_n hx hb0 dX9_digest_240 rfl (lv_at hl 0 rfl) ?_
            obtain ⟨q241, e241, h⟩ := gBind_some h
            refine g_callVi (k := 136) (T := TX9) (N := 19) (As := []) (rest := [.ref (G.1 136)]) ⟨hx, hb0, hml, hown, hts⟩ (metX9_longest l D G q6 μ239 q241.1 q241.2 e241) (g_cwV (C := RX9) 0 hts q_ml_X9_177 q_im_X9_longest q_se_X9_longest q_in_X9 q_co_X9_longest ⟨rfl, rfl⟩ (by decide +kernel) ⟨Nat.le_of_ble_eq_true rfl, Nat.le_of_ble_eq_true rfl⟩) hX hH (rfl : gKinds[136]? = _) rfl rfl hl.1 rfl (Nat.le_of_ble_eq_true rfl) dX9_digest_241 ⟨Nat.zero_le _, Nat.zero_le _⟩ (fun H locs hH => ?_)
            obtain ⟨q244, e244, h⟩ := gBind_some h
            refine g_callVv (k := 136) (T := TX9) (N := 19) (As := [.int (gI q241.1)]) (rest := []) ⟨hx, hb0, hml, hown, hts⟩ (metX9_mix l D G q241.2 μ239 q241.1 q244 e244) (g_cwV (C := RX9) 1 hts q_ml_X9_215 q_im_X9_mix q_se_X9_mix q_in_X9 q_co_X9_mix ⟨rfl, rfl⟩ (by decide +kernel) ⟨Nat.le_of_ble_eq_true rfl, Nat.le_of_ble_eq_true rfl⟩) hX hH (rfl : gKinds[136]? = _) rfl rfl hl.1 rfl (Nat.le_of_ble_eq_true rfl) dX9_digest_244 ⟨Nat.zero_le _, Nat.zero_le _⟩ (fun H locs hH => ?_)
            refine lv_aload_n hx hb0 dX9_digest_247 rfl (lv_at hl 0 rfl) ?_
            refine lv_aload_n hx hb0 dX9_digest_248 rfl (lv_at hl 0 rfl) ?_
            refine g_getI hx hb0 hts q_ws_X9 hown hX hH (C := RX9) (T := TX9) (N := 19) (k := 136) (i := 3) (rfl : gKinds[136]? = _) rfl (by decide) (hts _ q_fl_X9_44) rfl rfl dX9_digest_249 ?_
            obtain ⟨q252, e252, h⟩ := gBind_some h
            refine g_callVv (k := 136) (T := TX9) (N := 19) (As := [.int (gI (q241.2 136 3))]) (rest := []) ⟨hx, hb0, hml, hown, hts⟩ (metX9_mix l D G q241.2 q244 (q241.2 136 3) q252 e252) (g_cwV (C := RX9) 1 hts q_ml_X9_215 q_im_X9_mix q_se_X9_mix q_in_X9 q_co_X9_mix ⟨rfl, rfl⟩ (by decide +kernel) ⟨Nat.le_of_ble_eq_true rfl, Nat.le_of_ble_eq_true rfl⟩) hX hH (rfl : gKinds[136]? = _) rfl rfl hl.1 rfl (Nat.le_of_ble_eq_true rfl) dX9_digest_252 ⟨Nat.zero_le _, Nat.zero_le _⟩ (fun H locs hH => ?_)
            refine lv_aload_n hx hb0 dX9_digest_255 rfl (lv_at hl 0 rfl) ?_
            refine g_getL hx hb0 hts q_ws_X9 hown hX hH (C := RX9) (T := TX9) (N := 19) (k := 136) (i := 18) (rfl : gKinds[136]? = _) rfl (by decide) (hts _ q_fl_X9_209) rfl rfl dX9_digest_256 ?_
            exact g_lretSM hx hb0 hr hH hlocks dX9_digest_259 h
          have hL198 : ∀ (f198 : Nat) (x1_198 : Int) (μ198 : gLg) (H : Heap) (locs : List Loc) (ls : Array Slot), gH D G s H locs q6 μ198 → lv_has ls 3 [(1, .int (gI x1_198)), (0, .ref (G.1 136))] → (DX9_digest_L198 (DX9_digest_K239 q6) q6 f198 x1_198 μ198) = some (r, σ', μ') → W p l e (headSpec (gWs yX9_digest cX9_digest 3 (some (Jvm.ClassFile.FieldType.long))) ({ frames := 6, cells := 0, slots := 0, locals := 139 } : Room)).room s m ([.ref (G.1 136)] : List Value).toArray below meth c H locs 0 0 (MQ below (gQl D G r σ' μ') ([.ref (G.1 136)] : List Value).toArray s 0 0 (gA G)) (F0 m 198 ls []) := by
            intro f198
            induction f198 with
            | zero => intro x1_198 μ198 H locs ls hH hl h; cases h
            | succ f198 ih198 =>
              intro x1_198 μ198 H locs ls hH hl h
              unfold DX9_digest_L198 at h
              refine lv_iload_n hx hb0 dX9_digest_198 rfl (lv_at hl 0 rfl) ?_
              refine lv_aload_n hx hb0 dX9_digest_199 rfl (lv_at hl 1 rfl) ?_
              refine g_getR hx hb0 hts q_ws_X9 hown hX hH (C := RX9) (T := TX9) (N := 19) (k := 136) (i := 0) (j := 137) (rfl : gKinds[136]? = _) rfl (by decide) (hts _ q_fl_X9_7) rfl rfl dX9_digest_200 ?_
              refine lv_bipush (v := gI (77 : Int)) hx hb0 dX9_digest_203 (by decide) ?_
              refine g_iald hx hb0 hX hH (k := 137) (rfl : gKinds[137]? = _) (by decide) dX9_digest_205 h (fun h => ?_)
              refine g_icmp_ge (tgt := 239) hx hb0 dX9_digest_206 (by decide) h (fun h => ?_) (fun h => ?_)
              · exact hK239 _ _ _ _ hH (lv_sub hl [1] rfl) h
              · refine lv_iconst (v := gI (0 : Int)) hx hb0 dX9_digest_209 (by decide) ?_
                refine lv_istore_n (lv' := [(2, .int (gI (0 : Int))), (1, .int (gI x1_198)), (0, .ref (G.1 136))]) hx hb0 dX9_digest_210 rfl hl (by decide) rfl (fun ls hl => ?_)
                have hK233 : ∀ (μ233 : gLg) (H : Heap) (locs : List Loc) (ls : Array Slot), gH D G s H locs q6 μ233 → lv_has ls 3 [(1, .int (gI x1_198)), (0, .ref (G.1 136))] → (DX9_digest_K233 (DX9_digest_L198 (DX9_digest_K239 q6) q6 f198) x1_198 μ233) = some (r, σ', μ') → W p l e (headSpec (gWs yX9_digest cX9_digest 3 (some (Jvm.ClassFile.FieldType.long))) ({ frames := 6, cells := 0, slots := 0, locals := 139 } : Room)).room s m ([.ref (G.1 136)] : List Value).toArray below meth c H locs 0 0 (MQ below (gQl D G r σ' μ') ([.ref (G.1 136)] : List Value).toArray s 0 0 (gA G)) (F0 m 233 ls []) := by
                  intro μ233 H locs ls hH hl h
                  unfold DX9_digest_K233 at h
                  refine g_iinc (k := 0) (n := (1 : Int)) (lv' := [(1, .int (gI (x1_198 + (1 : Int)))), (0, .ref (G.1 136))]) hx hb0 dX9_digest_233 hl rfl (by decide) rfl (fun ls hl => ?_)
                  refine lv_goto (tgt := 198) hx hb0 dX9_digest_236 (by decide) ?_
                  exact ih198 _ _ _ _ _ hH (lv_sub hl [0, 1] rfl) h
                have hL211 : ∀ (f211 : Nat) (x2_211 : Int) (μ211 : gLg) (H : Heap) (locs : List Loc) (ls : Array Slot), gH D G s H locs q6 μ211 → lv_has ls 3 [(2, .int (gI x2_211)), (1, .int (gI x1_198)), (0, .ref (G.1 136))] → (DX9_digest_L211 (DX9_digest_K233 (DX9_digest_L198 (DX9_digest_K239 q6) q6 f198) x1_198) q6 x1_198 f211 x2_211 μ211) = some (r, σ', μ') → W p l e (headSpec (gWs yX9_digest cX9_digest 3 (some (Jvm.ClassFile.FieldType.long))) ({ frames := 6, cells := 0, slots := 0, locals := 139 } : Room)).room s m ([.ref (G.1 136)] : List Value).toArray below meth c H locs 0 0 (MQ below (gQl D G r σ' μ') ([.ref (G.1 136)] : List Value).toArray s 0 0 (gA G)) (F0 m 211 ls []) := by
                  intro f211
                  induction f211 with
                  | zero => intro x2_211 μ211 H locs ls hH hl h; cases h
                  | succ f211 ih211 =>
                    intro x2_211 μ211 H locs ls hH hl h
                    unfold DX9_digest_L211 at h
                    refine lv_iload_n hx hb0 dX9_digest_211 rfl (lv_at hl 0 rfl) ?_
                    refine lv_bipush (v := gI (6 : Int)) hx hb0 dX9_digest_212 (by decide) ?_
                    refine g_icmp_ge (tgt := 233) hx hb0 dX9_digest_214 (by decide) h (fun h => ?_) (fun h => ?_)
                    · exact hK233 _ _ _ _ hH (lv_sub hl [1, 2] rfl) h
                    · refine lv_aload_n hx hb0 dX9_digest_217 rfl (lv_at hl 2 rfl) ?_
                      refine lv_aload_n hx hb0 dX9_digest_218 rfl (lv_at hl 2 rfl) ?_
                      refine lv_iload_n hx hb0 dX9_digest_219 rfl (lv_at hl 1 rfl) ?_
                      refine lv_iload_n hx hb0 dX9_digest_220 rfl (lv_at hl 0 rfl) ?_
                      obtain ⟨q221, e221, h⟩ := gBind_some h
                      refine g_callVi (k := 136) (T := TX9) (N := 19) (As := [.int (gI x1_198), .int (gI x2_211)]) (rest := [.ref (G.1 136)]) ⟨hx, hb0, hml, hown, hts⟩ (metX9_arrowTold l D G q6 μ211 x1_198 x2_211 q221 e221) (g_cwV (C := RX9) 2 hts q_ml_X9_174 q_im_X9_arrowTold q_se_X9_arrowTold q_in_X9 q_co_X9_arrowTold ⟨rfl, rfl⟩ (by decide +kernel) ⟨Nat.le_of_ble_eq_true rfl, Nat.le_of_ble_eq_true rfl⟩) hX hH (rfl : gKinds[136]? = _) rfl rfl hl.1 rfl (Nat.le_of_ble_eq_true rfl) dX9_digest_221 ⟨Nat.zero_le _, Nat.zero_le _⟩ (fun H locs hH => ?_)
                      obtain ⟨q224, e224, h⟩ := gBind_some h
                      refine g_callVv (k := 136) (T := TX9) (N := 19) (As := [.int (gI q221)]) (rest := []) ⟨hx, hb0, hml, hown, hts⟩ (metX9_mix l D G q6 μ211 q221 q224 e224) (g_cwV (C := RX9) 1 hts q_ml_X9_215 q_im_X9_mix q_se_X9_mix q_in_X9 q_co_X9_mix ⟨rfl, rfl⟩ (by decide +kernel) ⟨Nat.le_of_ble_eq_true rfl, Nat.le_of_ble_eq_true rfl⟩) hX hH (rfl : gKinds[136]? = _) rfl rfl hl.1 rfl (Nat.le_of_ble_eq_true rfl) dX9_digest_224 ⟨Nat.zero_le _, Nat.zero_le _⟩ (fun H locs hH => ?_)
                      refine g_iinc (k := 0) (n := (1 : Int)) (lv' := [(2, .int (gI (x2_211 + (1 : Int)))), (1, .int (gI x1_198)), (0, .ref (G.1 136))]) hx hb0 dX9_digest_227 hl rfl (by decide) rfl (fun ls hl => ?_)
                      refine lv_goto (tgt := 211) hx hb0 dX9_digest_230 (by decide) ?_
                      exact ih211 _ _ _ _ _ hH (lv_sub hl [0, 1, 2] rfl) h
                exact hL211 gFuel _ _ _ _ _ hH (lv_sub hl [0, 1, 2] rfl) h
          exact hL198 gFuel _ _ _ _ _ hH (lv_sub hl [0, 1] rfl) h
        have hL159 : ∀ (f159 : Nat) (x1_159 : Int) (μ159 : gLg) (H : Heap) (locs : List Loc) (ls : Array Slot), gH D G s H locs q6 μ159 → lv_has ls 3 [(1, .int (gI x1_159)), (0, .ref (G.1 136))] → (DX9_digest_L159 (DX9_digest_K196 q6) q6 f159 x1_159 μ159) = some (r, σ', μ') → W p l e (headSpec (gWs yX9_digest cX9_digest 3 (some (Jvm.ClassFile.FieldType.long))) ({ frames := 6, cells := 0, slots := 0, locals := 139 } : Room)).room s m ([.ref (G.1 136)] : List Value).toArray below meth c H locs 0 0 (MQ below (gQl D G r σ' μ') ([.ref (G.1 136)] : List Value).toArray s 0 0 (gA G)) (F0 m 159 ls []) := by
          intro f159
          induction f159 with
          | zero => intro x1_159 μ159 H locs ls hH hl h; cases h
          | succ f159 ih159 =>
            intro x1_159 μ159 H locs ls hH hl h
            unfold DX9_digest_L159 at h
            refine lv_iload_n hx hb0 dX9_digest_159 rfl (lv_at hl 0 rfl) ?_
            refine lv_aload_n hx hb0 dX9_digest_160 rfl (lv_at hl 1 rfl) ?_
            refine g_getI hx hb0 hts q_ws_X9 hown hX hH (C := RX9) (T := TX9) (N := 19) (k := 136) (i := 12) (rfl : gKinds[136]? = _) rfl (by decide) (hts _ q_fl_X9_130) rfl rfl dX9_digest_161 ?_
            refine g_icmp_ge (tgt := 196) hx hb0 dX9_digest_164 (by decide) h (fun h => ?_) (fun h => ?_)
            · exact hK196 _ _ _ _ hH (lv_sub hl [1] rfl) h
            · refine lv_iconst (v := gI (0 : Int)) hx hb0 dX9_digest_167 (by decide) ?_
              refine lv_istore_n (lv' := [(2, .int (gI (0 : Int))), (1, .int (gI x1_159)), (0, .ref (G.1 136))]) hx hb0 dX9_digest_168 rfl hl (by decide) rfl (fun ls hl => ?_)
              have hK190 : ∀ (μ190 : gLg) (H : Heap) (locs : List Loc) (ls : Array Slot), gH D G s H locs q6 μ190 → lv_has ls 3 [(1, .int (gI x1_159)), (0, .ref (G.1 136))] → (DX9_digest_K190 (DX9_digest_L159 (DX9_digest_K196 q6) q6 f159) x1_159 μ190) = some (r, σ', μ') → W p l e (headSpec (gWs yX9_digest cX9_digest 3 (some (Jvm.ClassFile.FieldType.long))) ({ frames := 6, cells := 0, slots := 0, locals := 139 } : Room)).room s m ([.ref (G.1 136)] : List Value).toArray below meth c H locs 0 0 (MQ below (gQl D G r σ' μ') ([.ref (G.1 136)] : List Value).toArray s 0 0 (gA G)) (F0 m 190 ls []) := by
                intro μ190 H locs ls hH hl h
                unfold DX9_digest_K190 at h
                refine g_iinc (k := 0) (n := (1 : Int)) (lv' := [(1, .int (gI (x1_159 + (1 : Int)))), (0, .ref (G.1 136))]) hx hb0 dX9_digest_190 hl rfl (by decide) rfl (fun ls hl => ?_)
                refine lv_goto (tgt := 159) hx hb0 dX9_digest_193 (by decide) ?_
                exact ih159 _ _ _ _ _ hH (lv_sub hl [0, 1] rfl) h
              have hL169 : ∀ (f169 : Nat) (x2_169 : Int) (μ169 : gLg) (H : Heap) (locs : List Loc) (ls : Array Slot), gH D G s H locs q6 μ169 → lv_has ls 3 [(2, .int (gI x2_169)), (1, .int (gI x1_159)), (0, .ref (G.1 136))] → (DX9_digest_L169 (DX9_digest_K190 (DX9_digest_L159 (DX9_digest_K196 q6) q6 f159) x1_159) q6 x1_159 f169 x2_169 μ169) = some (r, σ', μ') → W p l e (headSpec (gWs yX9_digest cX9_digest 3 (some (Jvm.ClassFile.FieldType.long))) ({ frames := 6, cells := 0, slots := 0, locals := 139 } : Room)).room s m ([.ref (G.1 136)] : List Value).toArray below meth c H locs 0 0 (MQ below (gQl D G r σ' μ') ([.ref (G.1 136)] : List Value).toArray s 0 0 (gA G)) (F0 m 169 ls []) := by
                intro f169
                induction f169 with
                | zero => intro x2_169 μ169 H locs ls hH hl h; cases h
                | succ f169 ih169 =>
                  intro x2_169 μ169 H locs ls hH hl h
                  unfold DX9_digest_L169 at h
                  refine lv_iload_n hx hb0 dX9_digest_169 rfl (lv_at hl 0 rfl) ?_
                  refine lv_iconst (v := gI (5 : Int)) hx hb0 dX9_digest_170 (by decide) ?_
                  refine g_icmp_ge (tgt := 190) hx hb0 dX9_digest_171 (by decide) h (fun h => ?_) (fun h => ?_)
                  · exact hK190 _ _ _ _ hH (lv_sub hl [1, 2] rfl) h
                  · refine lv_aload_n hx hb0 dX9_digest_174 rfl (lv_at hl 2 rfl) ?_
                    refine lv_aload_n hx hb0 dX9_digest_175 rfl (lv_at hl 2 rfl) ?_
                    refine lv_iload_n hx hb0 dX9_digest_176 rfl (lv_at hl 1 rfl) ?_
                    refine lv_iload_n hx hb0 dX9_digest_177 rfl (lv_at hl 0 rfl) ?_
                    obtain ⟨q178, e178, h⟩ := gBind_some h
                    refine g_callVi (k := 136) (T := TX9) (N := 19) (As := [.int (gI x1_159), .int (gI x2_169)]) (rest := [.ref (G.1 136)]) ⟨hx, hb0, hml, hown, hts⟩ (metX9_sheetTold l D G q6 μ169 x1_159 x2_169 q178 e178) (g_cwV (C := RX9) 2 hts q_ml_X9_165 q_im_X9_sheetTold q_se_X9_sheetTold q_in_X9 q_co_X9_sheetTold ⟨rfl, rfl⟩ (by decide +kernel) ⟨Nat.le_of_ble_eq_true rfl, Nat.le_of_ble_eq_true rfl⟩) hX hH (rfl : gKinds[136]? = _) rfl rfl hl.1 rfl (Nat.le_of_ble_eq_true rfl) dX9_digest_178 ⟨Nat.zero_le _, Nat.zero_le _⟩ (fun H locs hH => ?_)
                    obtain ⟨q181, e181, h⟩ := gBind_some h
                    refine g_callVv (k := 136) (T := TX9) (N := 19) (As := [.int (gI q178)]) (rest := []) ⟨hx, hb0, hml, hown, hts⟩ (metX9_mix l D G q6 μ169 q178 q181 e181) (g_cwV (C := RX9) 1 hts q_ml_X9_215 q_im_X9_mix q_se_X9_mix q_in_X9 q_co_X9_mix ⟨rfl, rfl⟩ (by decide +kernel) ⟨Nat.le_of_ble_eq_true rfl, Nat.le_of_ble_eq_true rfl⟩) hX hH (rfl : gKinds[136]? = _) rfl rfl hl.1 rfl (Nat.le_of_ble_eq_true rfl) dX9_digest_181 ⟨Nat.zero_le _, Nat.zero_le _⟩ (fun H locs hH => ?_)
                    refine g_iinc (k := 0) (n := (1 : Int)) (lv' := [(2, .int (gI (x2_169 + (1 : Int)))), (1, .int (gI x1_159)), (0, .ref (G.1 136))]) hx hb0 dX9_digest_184 hl rfl (by decide) rfl (fun ls hl => ?_)
                    refine lv_goto (tgt := 169) hx hb0 dX9_digest_187 (by decide) ?_
                    exact ih169 _ _ _ _ _ hH (lv_sub hl [0, 1, 2] rfl) h
              exact hL169 gFuel _ _ _ _ _ hH (lv_sub hl [0, 1, 2] rfl) h
        exact hL159 gFuel _ _ _ _ _ hH (lv_sub hl [0, 1] rfl) h
      have hL99 : ∀ (f99 : Nat) (x1_99 : Int) (μ99 : gLg) (H : Heap) (locs : List Loc) (ls : Array Slot), gH D G s H locs q6 μ99 → lv_has ls 3 [(1, .int (gI x1_99)), (0, .ref (G.1 136))] → (DX9_digest_L99 (DX9_digest_K149 q6) q6 f99 x1_99 μ99) = some (r, σ', μ') → W p l e (headSpec (gWs yX9_digest cX9_digest 3 (some (Jvm.ClassFile.FieldType.long))) ({ frames := 6, cells := 0, slots := 0, locals := 139 } : Room)).room s m ([.ref (G.1 136)] : List Value).toArray below meth c H locs 0 0 (MQ below (gQl D G r σ' μ') ([.ref (G.1 136)] : List Value).toArray s 0 0 (gA G)) (F0 m 99 ls []) := by
        intro f99
        induction f99 with
        | zero => intro x1_99 μ99 H locs ls hH hl h; cases h
        | succ f99 ih99 =>
          intro x1_99 μ99 H locs ls hH hl h
          unfold DX9_digest_L99 at h
          refine lv_iload_n hx hb0 dX9_digest_99 rfl (lv_at hl 0 rfl) ?_
          refine lv_aload_n hx hb0 dX9_digest_100 rfl (lv_at hl 1 rfl) ?_
          refine g_getI hx hb0 hts q_ws_X9 hown hX hH (C := RX9) (T := TX9) (N := 19) (k := 136) (i := 7) (rfl : gKinds[136]? = _) rfl (by decide) (hts _ q_fl_X9_103) rfl rfl dX9_digest_101 ?_
          refine lv_aload_n hx hb0 dX9_digest_104 rfl (lv_at hl 1 rfl) ?_
          refine g_getR hx hb0 hts q_ws_X9 hown hX hH (C := RX9) (T := TX9) (N := 19) (k := 136) (i := 0) (j := 137) (rfl : gKinds[136]? = _) rfl (by decide) (hts _ q_fl_X9_7) rfl rfl dX9_digest_105 ?_
          refine lv_iconst (v := gI (0 : Int)) hx hb0 dX9_digest_108 (by decide) ?_
          refine g_iald hx hb0 hX hH (k := 137) (rfl : gKinds[137]? = _) (by decide) dX9_digest_109 h (fun h => ?_)
          refine g_imul hx hb0 dX9_digest_110 ?_
          refine g_icmp_ge (tgt := 149) hx hb0 dX9_digest_111 (by decide) h (fun h => ?_) (fun h => ?_)
          · exact hK149 _ _ _ _ hH (lv_sub hl [1] rfl) h
          · refine lv_aload_n hx hb0 dX9_digest_114 rfl (lv_at hl 1 rfl) ?_
            refine lv_aload_n hx hb0 dX9_digest_115 rfl (lv_at hl 1 rfl) ?_
            refine g_getR hx hb0 hts q_ws_X9 hown hX hH (C := RX9) (T := TX9) (N := 19) (k := 136) (i := 9) (j := 141) (rfl : gKinds[136]? = _) rfl (by decide) (hts _ q_fl_X9_22) rfl rfl dX9_digest_116 ?_
            refine lv_bipush (v := gI (20 : Int)) hx hb0 dX9_digest_119 (by decide) ?_
            refine lv_iload_n hx hb0 dX9_digest_121 rfl (lv_at hl 0 rfl) ?_
            refine lv_aload_n hx hb0 dX9_digest_122 rfl (lv_at hl 1 rfl) ?_
            refine g_getR hx hb0 hts q_ws_X9 hown hX hH (C := RX9) (T := TX9) (N := 19) (k := 136) (i := 0) (j := 137) (rfl : gKinds[136]? = _) rfl (by decide) (hts _ q_fl_X9_7) rfl rfl dX9_digest_123 ?_
            refine lv_iconst (v := gI (0 : Int)) hx hb0 dX9_digest_126 (by decide) ?_
            refine g_iald hx hb0 hX hH (k := 137) (rfl : gKinds[137]? = _) (by decide) dX9_digest_127 h (fun h => ?_)
            refine g_idiv hx hb0 dX9_digest_128 h (fun h => ?_)
            refine g_imul hx hb0 dX9_digest_129 ?_
            refine lv_iload_n hx hb0 dX9_digest_130 rfl (lv_at hl 0 rfl) ?_
            refine lv_aload_n hx hb0 dX9_digest_131 rfl (lv_at hl 1 rfl) ?_
            refine g_getR hx hb0 hts q_ws_X9 hown hX hH (C := RX9) (T := TX9) (N := 19) (k := 136) (i := 0) (j := 137) (rfl : gKinds[136]? = _) rfl (by decide) (hts _ q_fl_X9_7) rfl rfl dX9_digest_132 ?_
            refine lv_iconst (v := gI (0 : Int)) hx hb0 dX9_digest_135 (by decide) ?_
            refine g_iald hx hb0 hX hH (k := 137) (rfl : gKinds[137]? = _) (by decide) dX9_digest_136 h (fun h => ?_)
            refine g_irem hx hb0 dX9_digest_137 h (fun h => ?_)
            refine g_iadd hx hb0 dX9_digest_138 ?_
            refine g_iald hx hb0 hX hH (k := 141) (rfl : gKinds[141]? = _) (by decide) dX9_digest_139 h (fun h => ?_)
            obtain ⟨q140, e140, h⟩ := gBind_some h
            refine g_callVv (k := 136) (T := TX9) (N := 19) (As := [.int (gI (q6 141 (Int.toNat (((20 : Int) * (x1_99 / (q6 137 (Int.toNat (0 : Int))))) + (x1_99 % (q6 137 (Int.toNat (0 : Int))))))))]) (rest := []) ⟨hx, hb0, hml, hown, hts⟩ (metX9_mix l D G q6 μ99 (q6 141 (Int.toNat (((20 : Int) * (x1_99 / (q6 137 (Int.toNat (0 : Int))))) + (x1_99 % (q6 137 (Int.toNat (0 : Int))))))) q140 e140) (g_cwV (C := RX9) 1 hts q_ml_X9_215 q_im_X9_mix q_se_X9_mix q_in_X9 q_co_X9_mix ⟨rfl, rfl⟩ (by decide +kernel) ⟨Nat.le_of_ble_eq_true rfl, Nat.le_of_ble_eq_true rfl⟩) hX hH (rfl : gKinds[136]? = _) rfl rfl hl.1 rfl (Nat.le_of_ble_eq_true rfl) dX9_digest_140 ⟨Nat.zero_le _, Nat.zero_le _⟩ (fun H locs hH => ?_)
            refine g_iinc (k := 0) (n := (1 : Int)) (lv' := [(1, .int (gI (x1_99 + (1 : Int)))), (0, .ref (G.1 136))]) hx hb0 dX9_digest_143 hl rfl (by decide) rfl (fun ls hl => ?_)
            refine lv_goto (tgt := 99) hx hb0 dX9_digest_146 (by decide) ?_
            exact ih99 _ _ _ _ _ hH (lv_sub hl [0, 1] rfl) h
      exact hL99 gFuel _ _ _ _ _ hH (lv_sub hl [0, 1] rfl) h
    have hL49 : ∀ (f49 : Nat) (x1_49 : Int) (μ49 : gLg) (H : Heap) (locs : List Loc) (ls : Array Slot), gH D G s H locs q6 μ49 → lv_has ls 3 [(1, .int (gI x1_49)), (0, .ref (G.1 136))] → (DX9_digest_L49 (DX9_digest_K89 q6) q6 f49 x1_49 μ49) = some (r, σ', μ') → W p l e (headSpec (gWs yX9_digest cX9_digest 3 (some (Jvm.ClassFile.FieldType.long))) ({ frames := 6, cells := 0, slots := 0, locals := 139 } : Room)).room s m ([.ref (G.1 136)] : List Value).toArray below meth c H locs 0 0 (MQ below (gQl D G r σ' μ') ([.ref (G.1 136)] : List Value).toArray s 0 0 (gA G)) (F0 m 49 ls []) := by
      intro f49
      induction f49 with
      | zero => intro x1_49 μ49 H locs ls hH hl h; cases h
      | succ f49 ih49 =>
        intro x1_49 μ49 H locs ls hH hl h
        unfold DX9_digest_L49 at h
        refine lv_iload_n hx hb0 dX9_digest_49 rfl (lv_at hl 0 rfl) ?_
        refine lv_aload_n hx hb0 dX9_digest_50 rfl (lv_at hl 1 rfl) ?_
        refine g_getR hx hb0 hts q_ws_X9 hown hX hH (C := RX9) (T := TX9) (N := 19) (k := 136) (i := 0) (j := 137) (rfl : gKinds[136]? = _) rfl (by decide) (hts _ q_fl_X9_7) rfl rfl dX9_digest_51 ?_
        refine lv_iconst (v := gI (4 : Int)) hx hb0 dX9_digest_54 (by decide) ?_
        refine g_iald hx hb0 hX hH (k := 137) (rfl : gKinds[137]? = _) (by decide) dX9_digest_55 h (fun h => ?_)
        refine g_icmp_ge (tgt := 89) hx hb0 dX9_digest_56 (by decide) h (fun h => ?_) (fun h => ?_)
        · exact hK89 _ _ _ _ hH (lv_sub hl [1] rfl) h
        · refine lv_iconst (v := gI (0 : Int)) hx hb0 dX9_digest_59 (by decide) ?_
          refine lv_istore_n (lv' := [(2, .int (gI (0 : Int))), (1, .int (gI x1_49)), (0, .ref (G.1 136))]) hx hb0 dX9_digest_60 rfl hl (by decide) rfl (fun ls hl => ?_)
          have hK83 : ∀ (μ83 : gLg) (H : Heap) (locs : List Loc) (ls : Array Slot), gH D G s H locs q6 μ83 → lv_has ls 3 [(1, .int (gI x1_49)), (0, .ref (G.1 136))] → (DX9_digest_K83 (DX9_digest_L49 (DX9_digest_K89 q6) q6 f49) x1_49 μ83) = some (r, σ', μ') → W p l e (headSpec (gWs yX9_digest cX9_digest 3 (some (Jvm.ClassFile.FieldType.long))) ({ frames := 6, cells := 0, slots := 0, locals := 139 } : Room)).room s m ([.ref (G.1 136)] : List Value).toArray below meth c H locs 0 0 (MQ below (gQl D G r σ' μ') ([.ref (G.1 136)] : List Value).toArray s 0 0 (gA G)) (F0 m 83 ls []) := by
            intro μ83 H locs ls hH hl h
            unfold DX9_digest_K83 at h
            refine g_iinc (k := 0) (n := (1 : Int)) (lv' := [(1, .int (gI (x1_49 + (1 : Int)))), (0, .ref (G.1 136))]) hx hb0 dX9_digest_83 hl rfl (by decide) rfl (fun ls hl => ?_)
            refine lv_goto (tgt := 49) hx hb0 dX9_digest_86 (by decide) ?_
            exact ih49 _ _ _ _ _ hH (lv_sub hl [0, 1] rfl) h
          have hL61 : ∀ (f61 : Nat) (x2_61 : Int) (μ61 : gLg) (H : Heap) (locs : List Loc) (ls : Array Slot), gH D G s H locs q6 μ61 → lv_has ls 3 [(2, .int (gI x2_61)), (1, .int (gI x1_49)), (0, .ref (G.1 136))] → (DX9_digest_L61 (DX9_digest_K83 (DX9_digest_L49 (DX9_digest_K89 q6) q6 f49) x1_49) q6 x1_49 f61 x2_61 μ61) = some (r, σ', μ') → W p l e (headSpec (gWs yX9_digest cX9_digest 3 (some (Jvm.ClassFile.FieldType.long))) ({ frames := 6, cells := 0, slots := 0, locals := 139 } : Room)).room s m ([.ref (G.1 136)] : List Value).toArray below meth c H locs 0 0 (MQ below (gQl D G r σ' μ') ([.ref (G.1 136)] : List Value).toArray s 0 0 (gA G)) (F0 m 61 ls []) := by
            intro f61
            induction f61 with
            | zero => intro x2_61 μ61 H locs ls hH hl h; cases h
            | succ f61 ih61 =>
              intro x2_61 μ61 H locs ls hH hl h
              unfold DX9_digest_L61 at h
              refine lv_iload_n hx hb0 dX9_digest_61 rfl (lv_at hl 0 rfl) ?_
              refine lv_bipush (v := gI (7 : Int)) hx hb0 dX9_digest_62 (by decide) ?_
              refine g_icmp_ge (tgt := 83) hx hb0 dX9_digest_64 (by decide) h (fun h => ?_) (fun h => ?_)
              · exact hK83 _ _ _ _ hH (lv_sub hl [1, 2] rfl) h
              · refine lv_aload_n hx hb0 dX9_digest_67 rfl (lv_at hl 2 rfl) ?_
                refine lv_aload_n hx hb0 dX9_digest_68 rfl (lv_at hl 2 rfl) ?_
                refine lv_iload_n hx hb0 dX9_digest_69 rfl (lv_at hl 1 rfl) ?_
                refine lv_iload_n hx hb0 dX9_digest_70 rfl (lv_at hl 0 rfl) ?_
                obtain ⟨q71, e71, h⟩ := gBind_some h
                refine g_callVi (k := 136) (T := TX9) (N := 19) (As := [.int (gI x1_49), .int (gI x2_61)]) (rest := [.ref (G.1 136)]) ⟨hx, hb0, hml, hown, hts⟩ (metX9_taskTold l D G q6 μ61 x1_49 x2_61 q71 e71) (g_cwV (C := RX9) 2 hts q_ml_X9_152 q_im_X9_taskTold q_se_X9_taskTold q_in_X9 q_co_X9_taskTold ⟨rfl, rfl⟩ (by decide +kernel) ⟨Nat.le_of_ble_eq_true rfl, Nat.le_of_ble_eq_true rfl⟩) hX hH (rfl : gKinds[136]? = _) rfl rfl hl.1 rfl (Nat.le_of_ble_eq_true rfl) dX9_digest_71 ⟨Nat.zero_le _, Nat.zero_le _⟩ (fun H locs hH => ?_)
                obtain ⟨q74, e74, h⟩ := gBind_some h
                refine g_callVv (k := 136) (T := TX9) (N := 19) (As := [.int (gI q71)]) (rest := []) ⟨hx, hb0, hml, hown, hts⟩ (metX9_mix l D G q6 μ61 q71 q74 e74) (g_cwV (C := RX9) 1 hts q_ml_X9_215 q_im_X9_mix q_se_X9_mix q_in_X9 q_co_X9_mix ⟨rfl, rfl⟩ (by decide +kernel) ⟨Nat.le_of_ble_eq_true rfl, Nat.le_of_ble_eq_true rfl⟩) hX hH (rfl : gKinds[136]? = _) rfl rfl hl.1 rfl (Nat.le_of_ble_eq_true rfl) dX9_digest_74 ⟨Nat.zero_le _, Nat.zero_le _⟩ (fun H locs hH => ?_)
                refine g_iinc (k := 0) (n := (1 : Int)) (lv' := [(2, .int (gI (x2_61 + (1 : Int)))), (1, .int (gI x1_49)), (0, .ref (G.1 136))]) hx hb0 dX9_digest_77 hl rfl (by decide) rfl (fun ls hl => ?_)
                refine lv_goto (tgt := 61) hx hb0 dX9_digest_80 (by decide) ?_
                exact ih61 _ _ _ _ _ hH (lv_sub hl [0, 1, 2] rfl) h
          exact hL61 gFuel _ _ _ _ _ hH (lv_sub hl [0, 1, 2] rfl) h
    exact hL49 gFuel _ _ _ _ _ hH (lv_sub hl [0, 1] rfl) h
  have hL26 : ∀ (f26 : Nat) (x1_26 : Int) (μ26 : gLg) (H : Heap) (locs : List Loc) (ls : Array Slot), gH D G s H locs q6 μ26 → lv_has ls 3 [(1, .int (gI x1_26)), (0, .ref (G.1 136))] → (DX9_digest_L26 (DX9_digest_K47 q6) q6 f26 x1_26 μ26) = some (r, σ', μ') → W p l e (headSpec (gWs yX9_digest cX9_digest 3 (some (Jvm.ClassFile.FieldType.long))) ({ frames := 6, cells := 0, slots := 0, locals := 139 } : Room)).room s m ([.ref (G.1 136)] : List Value).toArray below meth c H locs 0 0 (MQ below (gQl D G r σ' μ') ([.ref (G.1 136)] : List Value).toArray s 0 0 (gA G)) (F0 m 26 ls []) := by
    intro f26
    induction f26 with
    | zero => intro x1_26 μ26 H locs ls hH hl h; cases h
    | succ f26 ih26 =>
      intro x1_26 μ26 H locs ls hH hl h
      unfold DX9_digest_L26 at h
      refine lv_iload_n hx hb0 dX9_digest_26 rfl (lv_at hl 0 rfl) ?_
      refine lv_bipush (v := gI (6 : Int)) hx hb0 dX9_digest_27 (by decide) ?_
      refine g_icmp_ge (tgt := 47) hx hb0 dX9_digest_29 (by decide) h (fun h => ?_) (fun h => ?_)
      · exact hK47 _ _ _ _ hH (lv_sub hl [1] rfl) h
      · refine lv_aload_n hx hb0 dX9_digest_32 rfl (lv_at hl 1 rfl) ?_
        refine lv_aload_n hx hb0 dX9_digest_33 rfl (lv_at hl 1 rfl) ?_
        refine lv_iload_n hx hb0 dX9_digest_34 rfl (lv_at hl 0 rfl) ?_
        obtain ⟨q35, e35, h⟩ := gBind_some h
        refine g_callVi (k := 136) (T := TX9) (N := 19) (As := [.int (gI x1_26)]) (rest := [.ref (G.1 136)]) ⟨hx, hb0, hml, hown, hts⟩ (metX9_valueOf l D G q6 μ26 x1_26 q35 e35) (g_cwV (C := RX9) 1 hts q_ml_X9_72 q_im_X9_valueOf q_se_X9_valueOf q_in_X9 q_co_X9_valueOf ⟨rfl, rfl⟩ (by decide +kernel) ⟨Nat.le_of_ble_eq_true rfl, Nat.le_of_ble_eq_true rfl⟩) hX hH (rfl : gKinds[136]? = _) rfl rfl hl.1 rfl (Nat.le_of_ble_eq_true rfl) dX9_digest_35 ⟨Nat.zero_le _, Nat.zero_le _⟩ (fun H locs hH => ?_)
        obtain ⟨q38, e38, h⟩ := gBind_some h
        refine g_callVv (k := 136) (T := TX9) (N := 19) (As := [.int (gI q35)]) (rest := []) ⟨hx, hb0, hml, hown, hts⟩ (metX9_mix l D G q6 μ26 q35 q38 e38) (g_cwV (C := RX9) 1 hts q_ml_X9_215 q_im_X9_mix q_se_X9_mix q_in_X9 q_co_X9_mix ⟨rfl, rfl⟩ (by decide +kernel) ⟨Nat.le_of_ble_eq_true rfl, Nat.le_of_ble_eq_true rfl⟩) hX hH (rfl : gKinds[136]? = _) rfl rfl hl.1 rfl (Nat.le_of_ble_eq_true rfl) dX9_digest_38 ⟨Nat.zero_le _, Nat.zero_le _⟩ (fun H locs hH => ?_)
        refine g_iinc (k := 0) (n := (1 : Int)) (lv' := [(1, .int (gI (x1_26 + (1 : Int)))), (0, .ref (G.1 136))]) hx hb0 dX9_digest_41 hl rfl (by decide) rfl (fun ls hl => ?_)
        refine lv_goto (tgt := 26) hx hb0 dX9_digest_44 (by decide) ?_
        exact ih26 _ _ _ _ _ hH (lv_sub hl [0, 1] rfl) h
  exact hL26 gFuel _ _ _ _ _ hH (lv_sub hl [0, 1] rfl) h
