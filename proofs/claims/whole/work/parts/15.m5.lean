def DX9_of (σ : gSt) (a1 : Int) (a2 : Int) : Option (Int) :=
  gAt (((5 : Int) + ((3 : Int) * a1)) + a2) 138 (some (σ 137 (Int.toNat (((5 : Int) + ((3 : Int) * a1)) + a2))))
set_option maxHeartbeats 4000000 in
set_option maxRecDepth 100000 in
theorem metX9_of (l : Launch) (D : va_G) (G : gAd) (σ : gSt) (μ : gLg) (a1 : Int) (a2 : Int) (r : Int) (h : DX9_of σ a1 a2 = some r) : Met l yX9_of (gWs yX9_of cX9_of 3 (some (Jvm.ClassFile.FieldType.int))) ({ frames := 0, cells := 0, slots := 0, locals := 0 } : Room) (gPc D G [.ref (G.1 136), .int (gI a1), .int (gI a2)] σ μ) (gQi D G r σ μ) 0 0 (gA G) := by
  refine Met.ofW (cc := cX9_of) (maxL := 3) (ret := (some (Jvm.ClassFile.FieldType.int))) (by decide) rfl ?_
  intro p e s m args below meth c s₁ B hml hv
  obtain ⟨rfl, hP, hX⟩ := hv
  have hx := B.exec
  have hb0 := B.bytes
  have hr := B.returns
  have hts0 := atoms_spec (ws := (gWs yX9_of cX9_of 3 (some (Jvm.ClassFile.FieldType.int)))) B.pre
  have hts : ∀ w ∈ gLW, w.before _ s = true := fun w hw => hts0 w (List.mem_cons_of_mem _ hw)
  have hown : s.vm.findClass RX9 = some m.cls := findClass_of_methodNamed B.named
  have hlocks := B.notSynchronized
  have hH : gH D G s s.heap [] σ μ := ⟨hP, va_S.rf⟩
  have hl := lv_entry ([.ref (G.1 136), .int (gI a1), .int (gI a2)]) (n := 3) (Nat.le_of_ble_eq_true rfl)
  rw [lg_entry_eq]
  generalize (lg_sl ([.ref (G.1 136), .int (gI a1), .int (gI a2)]) ++ List.replicate (3 - (lg_sl ([.ref (G.1 136), .int (gI a1), .int (gI a2)])).length) Slot.unset).toArray = ls at hl ⊢
  have hl : lv_has ls 3 [(0, .ref (G.1 136)), (1, .int (gI a1)), (2, .int (gI a2))] := hl
  unfold DX9_of at h
  refine lv_aload_n hx hb0 dX9_of_0 rfl (lv_at hl 0 rfl) ?_
  refine g_getR hx hb0 hts q_ws_X9 hown hX hH (C := RX9) (T := TX9) (N := 19) (k := 136) (i := 0) (j := 137) (rfl : gKinds[136]? = _) rfl (by decide) (hts _ q_fl_X9_7) rfl rfl dX9_of_1 ?_
  refine lv_iconst (v := gI (5 : Int)) hx hb0 dX9_of_4 (by decide) ?_
  refine lv_iconst (v := gI (3 : Int)) hx hb0 dX9_of_5 (by decide) ?_
  refine lv_iload_n hx hb0 dX9_of_6 rfl (lv_at hl 1 rfl) ?_
  refine g_imul hx hb0 dX9_of_7 ?_
  refine g_iadd hx hb0 dX9_of_8 ?_
  refine lv_iload_n hx hb0 dX9_of_9 rfl (lv_at hl 2 rfl) ?_
  refine g_iadd hx hb0 dX9_of_10 ?_
  refine g_iald hx hb0 hX hH (k := 137) (rfl : gKinds[137]? = _) (by decide) dX9_of_11 h (fun h => ?_)
  exact g_iretP hx hb0 hr hH hlocks dX9_of_12 h
def DX9_lastDay (σ : gSt) (a1 : Int) : Option (Int) :=
  (DX9_of σ a1 (1 : Int)).bind fun q3 => (DX9_of σ a1 (2 : Int)).bind fun q9 => some ((q3 + q9) - (1 : Int))
set_option maxHeartbeats 4000000 in
set_option maxRecDepth 100000 in
theorem metX9_lastDay (l : Launch) (D : va_G) (G : gAd) (σ : gSt) (μ : gLg) (a1 : Int) (r : Int) (h : DX9_lastDay σ a1 = some r) : Met l yX9_lastDay (gWs yX9_lastDay cX9_lastDay 2 (some (Jvm.ClassFile.FieldType.int))) ({ frames := 1, cells := 0, slots := 0, locals := 22 } : Room) (gPc D G [.ref (G.1 136), .int (gI a1)] σ μ) (gQi D G r σ μ) 0 0 (gA G) := by
  refine Met.ofW (cc := cX9_lastDay) (maxL := 2) (ret := (some (Jvm.ClassFile.FieldType.int))) (by decide) rfl ?_
  intro p e s m args below meth c s₁ B hml hv
  obtain ⟨rfl, hP, hX⟩ := hv
  have hx := B.exec
  have hb0 := B.bytes
  have hr := B.returns
  have hts0 := atoms_spec (ws := (gWs yX9_lastDay cX9_lastDay 2 (some (Jvm.ClassFile.FieldType.int)))) B.pre
  have hts : ∀ w ∈ gLW, w.before _ s = true := fun w hw => hts0 w (List.mem_cons_of_mem _ hw)
  have hown : s.vm.findClass RX9 = some m.cls := findClass_of_methodNamed B.named
  have hlocks := B.notSynchronized
  have hH : gH D G s s.heap [] σ μ := ⟨hP, va_S.rf⟩
  have hl := lv_entry ([.ref (G.1 136), .int (gI a1)]) (n := 2) (Nat.le_of_ble_eq_true rfl)
  rw [lg_entry_eq]
  generalize (lg_sl ([.ref (G.1 136), .int (gI a1)]) ++ List.replicate (2 - (lg_sl ([.ref (G.1 136), .int (gI a1)])).length) Slot.unset).toArray = ls at hl ⊢
  have hl : lv_has ls 2 [(0, .ref (G.1 136)), (1, .int (gI a1))] := hl
  unfold DX9_lastDay at h
  refine lv_aload_n hx hb0 dX9_lastDay_0 rfl (lv_at hl 0 rfl) ?_
  refine lv_iload_n hx hb0 dX9_lastDay_1 rfl (lv_at hl 1 rfl) ?_
  refine lv_iconst (v := gI (1 : Int)) hx hb0 dX9_lastDay_2 (by decide) ?_
  obtain ⟨q3, e3, h⟩ := gBind_some h
  refine g_callVi (k := 136) (T := TX9) (N := 19) (As := [.int (gI a1), .int (gI (1 : Int))]) (rest := []) ⟨hx, hb0, hml, hown, hts⟩ (metX9_of l D G σ μ a1 (1 : Int) q3 e3) (g_cwV (C := RX9) 2 hts q_ml_X9_55 q_im_X9_of q_se_X9_of q_in_X9 q_co_X9_of ⟨rfl, rfl⟩ (by decide +kernel) ⟨Nat.le_of_ble_eq_true rfl, Nat.le_of_ble_eq_true rfl⟩) hX hH (rfl : gKinds[136]? = _) rfl rfl hl.1 rfl (Nat.le_of_ble_eq_true rfl) dX9_lastDay_3 ⟨Nat.zero_le _, Nat.zero_le _⟩ (fun H locs hH => ?_)
  refine lv_aload_n hx hb0 dX9_lastDay_6 rfl (lv_at hl 0 rfl) ?_
  refine lv_iload_n hx hb0 dX9_lastDay_7 rfl (lv_at hl 1 rfl) ?_
  refine lv_iconst (v := gI (2 : Int)) hx hb0 dX9_lastDay_8 (by decide) ?_
  obtain ⟨q9, e9, h⟩ := gBind_some h
  refine g_callVi (k := 136) (T := TX9) (N := 19) (As := [.int (gI a1), .int (gI (2 : Int))]) (rest := [.int (gI q3)]) ⟨hx, hb0, hml, hown, hts⟩ (metX9_of l D G σ μ a1 (2 : Int) q9 e9) (g_cwV (C := RX9) 2 hts q_ml_X9_55 q_im_X9_of q_se_X9_of q_in_X9 q_co_X9_of ⟨rfl, rfl⟩ (by decide +kernel) ⟨Nat.le_of_ble_eq_true rfl, Nat.le_of_ble_eq_true rfl⟩) hX hH (rfl : gKinds[136]? = _) rfl rfl hl.1 rfl (Nat.le_of_ble_eq_true rfl) dX9_lastDay_9 ⟨Nat.zero_le _, Nat.zero_le _⟩ (fun H locs hH => ?_)
  refine g_iadd hx hb0 dX9_lastDay_12 ?_
  refine lv_iconst (v := gI (1 : Int)) hx hb0 dX9_lastDay_13 (by decide) ?_
  refine g_isub hx hb0 dX9_lastDay_14 ?_
  exact g_iretP hx hb0 hr hH hlocks dX9_lastDay_15 h
def DX9_end (σ : gSt) (a1 : Int) (a2 : Int) : Option (Int) :=
  gAt (((78 : Int) + ((2 : Int) * a1)) + a2) 138 (some (σ 137 (Int.toNat (((78 : Int) + ((2 : Int) * a1)) + a2))))
set_option maxHeartbeats 4000000 in
set_option maxRecDepth 100000 in
theorem metX9_end (l : Launch) (D : va_G) (G : gAd) (σ : gSt) (μ : gLg) (a1 : Int) (a2 : Int) (r : Int) (h : DX9_end σ a1 a2 = some r) : Met l yX9_end (gWs yX9_end cX9_end 3 (some (Jvm.ClassFile.FieldType.int))) ({ frames := 0, cells := 0, slots := 0, locals := 0 } : Room) (gPc D G [.ref (G.1 136), .int (gI a1), .int (gI a2)] σ μ) (gQi D G r σ μ) 0 0 (gA G) := by
  refine Met.ofW (cc := cX9_end) (maxL := 3) (ret := (some (Jvm.ClassFile.FieldType.int))) (by decide) rfl ?_
  intro p e s m args below meth c s₁ B hml hv
  obtain ⟨rfl, hP, hX⟩ := hv
  have hx := B.exec
  have hb0 := B.bytes
  have hr := B.returns
  have hts0 := atoms_spec (ws := (gWs yX9_end cX9_end 3 (some (Jvm.ClassFile.FieldType.int)))) B.pre
  have hts : ∀ w ∈ gLW, w.before _ s = true := fun w hw => hts0 w (List.mem_cons_of_mem _ hw)
  have hown : s.vm.findClass RX9 = some m.cls := findClass_of_methodNamed B.named
  have hlocks := B.notSynchronized
  have hH : gH D G s s.heap [] σ μ := ⟨hP, va_S.rf⟩
  have hl := lv_entry ([.ref (G.1 136), .int (gI a1), .int (gI a2)]) (n := 3) (Nat.le_of_ble_eq_true rfl)
  rw [lg_entry_eq]
  generalize (lg_sl ([.ref (G.1 136), .int (gI a1), .int (gI a2)]) ++ List.replicate (3 - (lg_sl ([.ref (G.1 136), .int (gI a1), .int (gI a2)])).length) Slot.unset).toArray = ls at hl ⊢
  have hl : lv_has ls 3 [(0, .ref (G.1 136)), (1, .int (gI a1)), (2, .int (gI a2))] := hl
  unfold DX9_end at h
  refine lv_aload_n hx hb0 dX9_end_0 rfl (lv_at hl 0 rfl) ?_
  refine g_getR hx hb0 hts q_ws_X9 hown hX hH (C := RX9) (T := TX9) (N := 19) (k := 136) (i := 0) (j := 137) (rfl : gKinds[136]? = _) rfl (by decide) (hts _ q_fl_X9_7) rfl rfl dX9_end_1 ?_
  refine lv_bipush (v := gI (78 : Int)) hx hb0 dX9_end_4 (by decide) ?_
  refine lv_iconst (v := gI (2 : Int)) hx hb0 dX9_end_6 (by decide) ?_
  refine lv_iload_n hx hb0 dX9_end_7 rfl (lv_at hl 1 rfl) ?_
  refine g_imul hx hb0 dX9_end_8 ?_
  refine g_iadd hx hb0 dX9_end_9 ?_
  refine lv_iload_n hx hb0 dX9_end_10 rfl (lv_at hl 2 rfl) ?_
  refine g_iadd hx hb0 dX9_end_11 ?_
  refine g_iald hx hb0 hX hH (k := 137) (rfl : gKinds[137]? = _) (by decide) dX9_end_12 h (fun h => ?_)
  exact g_iretP hx hb0 hr hH hlocks dX9_end_13 h
def DX9_isSetting (σ : gSt) (a0 : Int) (a1 : Int) : Option (Int) :=
  gIf (a0 = (0 : Int)) a0 (0 : Int) ((DX9_in σ a1 (3 : Int) (20 : Int)).bind fun q36 => gBo q36 (some q36)) (gIf (a0 = (1 : Int)) a0 (1 : Int) ((DX9_in σ a1 (5 : Int) (60 : Int)).bind fun q44 => gBo q44 (some q44)) (gIf (a0 = (2 : Int)) a0 (2 : Int) ((DX9_in σ a1 (0 : Int) (1 : Int)).bind fun q51 => gBo q51 (some q51)) (gIf (a0 = (3 : Int)) a0 (3 : Int) ((DX9_in σ a1 (0 : Int) (1 : Int)).bind fun q51 => gBo q51 (some q51)) (gBo (0 : Int) (some (0 : Int))))))
set_option maxHeartbeats 4000000 in
set_option maxRecDepth 100000 in
theorem metX9_isSetting (l : Launch) (D : va_G) (G : gAd) (σ : gSt) (μ : gLg) (a0 : Int) (a1 : Int) (r : Int) (h : DX9_isSetting σ a0 a1 = some r) : Met l yX9_isSetting (gWs yX9_isSetting cX9_isSetting 2 (some (Jvm.ClassFile.FieldType.boolean))) ({ frames := 1, cells := 0, slots := 0, locals := 22 } : Room) (gPc D G [.int (gI a0), .int (gI a1)] σ μ) (gQi D G r σ μ) 0 0 (gA G) := by
  refine Met.ofW (cc := cX9_isSetting) (maxL := 2) (ret := (some (Jvm.ClassFile.FieldType.boolean))) (by decide) rfl ?_
  intro p e s m args below meth c s₁ B hml hv
  obtain ⟨rfl, hP, hX⟩ := hv
  have hx := B.exec
  have hb0 := B.bytes
  have hr := B.returns
  have hts0 := atoms_spec (ws := (gWs yX9_isSetting cX9_isSetting 2 (some (Jvm.ClassFile.FieldType.boolean)))) B.pre
  have hts : ∀ w ∈ gLW, w.before _ s = true := fun w hw => hts0 w (List.mem_cons_of_mem _ hw)
  have hown : s.vm.findClass RX9 = some m.cls := findClass_of_methodNamed B.named
  have hlocks := B.notSynchronized
  have hH : gH D G s s.heap [] σ μ := ⟨hP, va_S.rf⟩
  have hl := lv_entry ([.int (gI a0), .int (gI a1)]) (n := 2) (Nat.le_of_ble_eq_true rfl)
  rw [lg_entry_eq]
  generalize (lg_sl ([.int (gI a0), .int (gI a1)]) ++ List.replicate (2 - (lg_sl ([.int (gI a0), .int (gI a1)])).length) Slot.unset).toArray = ls at hl ⊢
  have hl : lv_has ls 2 [(0, .int (gI a0)), (1, .int (gI a1))] := hl
  unfold DX9_isSetting at h
  refine lv_iload_n hx hb0 dX9_isSetting_0 rfl (lv_at hl 0 rfl) ?_
  obtain ⟨hgr, -, h⟩ := gIf_some h
  rcases h with ⟨hc0, h⟩ | ⟨hc0, h⟩
  · refine g_tabIn (i := (0 : Int)) (tgt := 32) hx hb0 dX9_isSetting_1 hc0 (by decide) (by decide) (by decide) rfl (by decide) ?_
    refine lv_iload_n hx hb0 dX9_isSetting_32 rfl (lv_at hl 1 rfl) ?_
    refine lv_iconst (v := gI (3 : Int)) hx hb0 dX9_isSetting_33 (by decide) ?_
    refine lv_bipush (v := gI (20 : Int)) hx hb0 dX9_isSetting_34 (by decide) ?_
    obtain ⟨q36, e36, h⟩ := gBind_some h
    refine g_callSi (As := [.int (gI a1), .int (gI (3 : Int)), .int (gI (20 : Int))]) (rest := []) ⟨hx, hb0, hml, hown, hts⟩ (metX9_in l D G σ μ a1 (3 : Int) (20 : Int) q36 e36) (g_cwS 3 hts q_ml_X9_51 q_st_X9_in q_in_X9 q_co_X9_in ⟨rfl, rfl⟩ (by decide +kernel) ⟨Nat.le_of_ble_eq_true rfl, Nat.le_of_ble_eq_true rfl⟩) hX hH rfl hl.1 rfl (Nat.le_of_ble_eq_true rfl) dX9_isSetting_36 ⟨Nat.zero_le _, Nat.zero_le _⟩ (fun H locs hH => ?_)
    exact g_zretP hx hb0 hr hH hlocks dX9_isSetting_39 h
  · obtain ⟨hgr, -, h⟩ := gIf_some h
    rcases h with ⟨hc1, h⟩ | ⟨hc1, h⟩
    · refine g_tabIn (i := (1 : Int)) (tgt := 40) hx hb0 dX9_isSetting_1 hc1 (by decide) (by decide) (by decide) rfl (by decide) ?_
      refine lv_iload_n hx hb0 dX9_isSetting_40 rfl (lv_at hl 1 rfl) ?_
      refine lv_iconst (v := gI (5 : Int)) hx hb0 dX9_isSetting_41 (by decide) ?_
      refine lv_bipush (v := gI (60 : Int)) hx hb0 dX9_isSetting_42 (by decide) ?_
      obtain ⟨q44, e44, h⟩ := gBind_some h
      refine g_callSi (As := [.int (gI a1), .int (gI (5 : Int)), .int (gI (60 : Int))]) (rest := []) ⟨hx, hb0, hml, hown, hts⟩ (metX9_in l D G σ μ a1 (5 : Int) (60 : Int) q44 e44) (g_cwS 3 hts q_ml_X9_51 q_st_X9_in q_in_X9 q_co_X9_in ⟨rfl, rfl⟩ (by decide +kernel) ⟨Nat.le_of_ble_eq_true rfl, Nat.le_of_ble_eq_true rfl⟩) hX hH rfl hl.1 rfl (Nat.le_of_ble_eq_true rfl) dX9_isSetting_44 ⟨Nat.zero_le _, Nat.zero_le _⟩ (fun H locs hH => ?_)
      exact g_zretP hx hb0 hr hH hlocks dX9_isSetting_47 h
    · obtain ⟨hgr, -, h⟩ := gIf_some h
      rcases h with ⟨hc2, h⟩ | ⟨hc2, h⟩
      · refine g_tabIn (i := (2 : Int)) (tgt := 48) hx hb0 dX9_isSetting_1 hc2 (by decide) (by decide) (by decide) rfl (by decide) ?_
        refine lv_iload_n hx hb0 dX9_isSetting_48 rfl (lv_at hl 1 rfl) ?_
        refine lv_iconst (v := gI (0 : Int)) hx hb0 dX9_isSetting_49 (by decide) ?_
        refine lv_iconst (v := gI (1 : Int)) hx hb0 dX9_isSetting_50 (by decide) ?_
        obtain ⟨q51, e51, h⟩ := gBind_some h
        refine g_callSi (As := [.int (gI a1), .int (gI (0 : Int)), .int (gI (1 : Int))]) (rest := []) ⟨hx, hb0, hml, hown, hts⟩ (metX9_in l D G σ μ a1 (0 : Int) (1 : Int) q51 e51) (g_cwS 3 hts q_ml_X9_51 q_st_X9_in q_in_X9 q_co_X9_in ⟨rfl, rfl⟩ (by decide +kernel) ⟨Nat.le_of_ble_eq_true rfl, Nat.le_of_ble_eq_true rfl⟩) hX hH rfl hl.1 rfl (Nat.le_of_ble_eq_true rfl) dX9_isSetting_51 ⟨Nat.zero_le _, Nat.zero_le _⟩ (fun H locs hH => ?_)
        exact g_zretP hx hb0 hr hH hlocks dX9_isSetting_54 h
      · obtain ⟨hgr, -, h⟩ := gIf_some h
        rcases h with ⟨hc3, h⟩ | ⟨hc3, h⟩
        · refine g_tabIn (i := (3 : Int)) (tgt := 48) hx hb0 dX9_isSetting_1 hc3 (by decide) (by decide) (by decide) rfl (by decide) ?_
          refine lv_iload_n hx hb0 dX9_isSetting_48 rfl (lv_at hl 1 rfl) ?_
          refine lv_iconst (v := gI (0 : Int)) hx hb0 dX9_isSetting_49 (by decide) ?_
          refine lv_iconst (v := gI (1 : Int)) hx hb0 dX9_isSetting_50 (by decide) ?_
          obtain ⟨q51, e51, h⟩ := gBind_some h
          refine g_callSi (As := [.int (gI a1), .int (gI (0 : Int)), .int (gI (1 : Int))]) (rest := []) ⟨hx, hb0, hml, hown, hts⟩ (metX9_in l D G σ μ a1 (0 : Int) (1 : Int) q51 e51) (g_cwS 3 hts q_ml_X9_51 q_st_X9_in q_in_X9 q_co_X9_in ⟨rfl, rfl⟩ (by decide +kernel) ⟨Nat.le_of_ble_eq_true rfl, Nat.le_of_ble_eq_true rfl⟩) hX hH rfl hl.1 rfl (Nat.le_of_ble_eq_true rfl) dX9_isSetting_51 ⟨Nat.zero_le _, Nat.zero_le _⟩ (fun H locs hH => ?_)
          exact g_zretP hx hb0 hr hH hlocks dX9_isSetting_54 h
        · refine g_tabOut (tgt := 55) hx hb0 dX9_isSetting_1 hgr (by omega) (by decide) ?_
          refine lv_iconst (v := gI (0 : Int)) hx hb0 dX9_isSetting_55 (by decide) ?_
          exact g_zretP hx hb0 hr hH hlocks dX9_isSetting_56 h
def DX9_set (σ : gSt) (a1 : Int) (a2 : Int) : Option (Int × gSt) :=
  (DX9_isSetting σ a1 a2).bind fun q2 => gIf (q2 = (0 : Int)) q2 (0 : Int) ((DX9_fails σ (1 : Int)).bind fun q10 => some (q10.1, q10.2)) ((DX9_hold σ).bind fun q15 => gAt a1 138 (gAt a1 138 ((DX9_ends (gUp q15 137 (Int.toNat a1) a2) (q15 137 (Int.toNat a1))).bind fun q34 => some (q34.1, q34.2))))
set_option maxHeartbeats 4000000 in
set_option maxRecDepth 100000 in
theorem metX9_set (l : Launch) (D : va_G) (G : gAd) (σ : gSt) (μ : gLg) (a1 : Int) (a2 : Int) (r : Int) (σ' : gSt) (h : DX9_set σ a1 a2 = some (r, σ')) : Met l yX9_set (gWs yX9_set cX9_set 4 (some (Jvm.ClassFile.FieldType.int))) ({ frames := 2, cells := 0, slots := 0, locals := 43 } : Room) (gPc D G [.ref (G.1 136), .int (gI a1), .int (gI a2)] σ μ) (gQi D G r σ' μ) 0 0 (gA G) := by
  refine Met.ofW (cc := cX9_set) (maxL := 4) (ret := (some (Jvm.ClassFile.FieldType.int))) (by decide) rfl ?_
  intro p e s m args below meth c s₁ B hml hv
  obtain ⟨rfl, hP, hX⟩ := hv
  have hx := B.exec
  have hb0 := B.bytes
  have hr := B.returns
  have hts0 := atoms_spec (ws := (gWs yX9_set cX9_set 4 (some (Jvm.ClassFile.FieldType.int)))) B.pre
  have hts : ∀ w ∈ gLW, w.before _ s = true := fun w hw => hts0 w (List.mem_cons_of_mem _ hw)
  have hown : s.vm.findClass RX9 = some m.cls := findClass_of_methodNamed B.named
  have hlocks := B.notSynchronized
  have hH : gH D G s s.heap [] σ μ := ⟨hP, va_S.rf⟩
  have hl := lv_entry ([.ref (G.1 136), .int (gI a1), .int (gI a2)]) (n := 4) (Nat.le_of_ble_eq_true rfl)
  rw [lg_entry_eq]
  generalize (lg_sl ([.ref (G.1 136), .int (gI a1), .int (gI a2)]) ++ List.replicate (4 - (lg_sl ([.ref (G.1 136), .int (gI a1), .int (gI a2)])).length) Slot.unset).toArray = ls at hl ⊢
  have hl : lv_has ls 4 [(0, .ref (G.1 136)), (1, .int (gI a1)), (2, .int (gI a2))] := hl
  unfold DX9_set at h
  refine lv_iload_n hx hb0 dX9_set_0 rfl (lv_at hl 1 rfl) ?_
  refine lv_iload_n hx hb0 dX9_set_1 rfl (lv_at hl 2 rfl) ?_
  obtain ⟨q2, e2, h⟩ := gBind_some h
  refine g_callSi (As := [.int (gI a1), .int (gI a2)]) (rest := []) ⟨hx, hb0, hml, hown, hts⟩ (metX9_isSetting l D G σ μ a1 a2 q2 e2) (g_cwS 2 hts q_ml_X9_59 q_st_X9_isSetting q_in_X9 q_co_X9_isSetting ⟨rfl, rfl⟩ (by decide +kernel) ⟨Nat.le_of_ble_eq_true rfl, Nat.le_of_ble_eq_true rfl⟩) hX hH rfl hl.1 rfl (Nat.le_of_ble_eq_true rfl) dX9_set_2 ⟨Nat.zero_le _, Nat.zero_le _⟩ (fun H locs hH => ?_)
  refine g_if_ne (tgt := 14) hx hb0 dX9_set_5 (by decide) h (fun h => ?_) (fun h => ?_)
  · refine lv_aload_n hx hb0 dX9_set_14 rfl (lv_at hl 0 rfl) ?_
    obtain ⟨q15, e15, h⟩ := gBind_some h
    refine g_callVv (k := 136) (T := TX9) (N := 19) (As := []) (rest := []) ⟨hx, hb0, hml, hown, hts⟩ (metX9_hold l D G σ μ q15 e15) (g_cwV (C := RX9) 0 hts q_ml_X9_66 q_im_X9_hold q_se_X9_hold q_in_X9 q_co_X9_hold ⟨rfl, rfl⟩ (by decide +kernel) ⟨Nat.le_of_ble_eq_true rfl, Nat.le_of_ble_eq_true rfl⟩) hX hH (rfl : gKinds[136]? = _) rfl rfl hl.1 rfl (Nat.le_of_ble_eq_true rfl) dX9_set_15 ⟨Nat.zero_le _, Nat.zero_le _⟩ (fun H locs hH => ?_)
    refine lv_aload_n hx hb0 dX9_set_18 rfl (lv_at hl 0 rfl) ?_
    refine g_getR hx hb0 hts q_ws_X9 hown hX hH (C := RX9) (T := TX9) (N := 19) (k := 136) (i := 0) (j := 137) (rfl : gKinds[136]? = _) rfl (by decide) (hts _ q_fl_X9_7) rfl rfl dX9_set_19 ?_
    refine lv_iload_n hx hb0 dX9_set_22 rfl (lv_at hl 1 rfl) ?_
    refine g_iald hx hb0 hX hH (k := 137) (rfl : gKinds[137]? = _) (by decide) dX9_set_23 h (fun h => ?_)
    refine lv_istore_n (lv' := [(3, .int (gI (q15 137 (Int.toNat a1)))), (0, .ref (G.1 136)), (1, .int (gI a1)), (2, .int (gI a2))]) hx hb0 dX9_set_24 rfl hl (by decide) rfl (fun ls hl => ?_)
    refine lv_aload_n hx hb0 dX9_set_25 rfl (lv_at hl 1 rfl) ?_
    refine g_getR hx hb0 hts q_ws_X9 hown hX hH (C := RX9) (T := TX9) (N := 19) (k := 136) (i := 0) (j := 137) (rfl : gKinds[136]? = _) rfl (by decide) (hts _ q_fl_X9_7) rfl rfl dX9_set_26 ?_
    refine lv_iload_n hx hb0 dX9_set_29 rfl (lv_at hl 2 rfl) ?_
    refine lv_iload_n hx hb0 dX9_set_30 rfl (lv_at hl 3 rfl) ?_
    refine g_iast hx hb0 hX hH (k := 137) (rfl : gKinds[137]? = _) (by decide) dX9_set_31 h (fun h H locs hH => ?_)
    refine lv_aload_n hx hb0 dX9_set_32 rfl (lv_at hl 1 rfl) ?_
    refine lv_iload_n hx hb0 dX9_set_33 rfl (lv_at hl 0 rfl) ?_
    obtain ⟨q34, e34, h⟩ := gBind_some h
    refine g_callVi (k := 136) (T := TX9) (N := 19) (As := [.int (gI (q15 137 (Int.toNat a1)))]) (rest := []) ⟨hx, hb0, hml, hown, hts⟩ (metX9_ends l D G (gUp q15 137 (Int.toNat a1) a2) μ (q15 137 (Int.toNat a1)) q34.1 q34.2 e34) (g_cwV (C := RX9) 1 hts q_ml_X9_69 q_im_X9_ends q_se_X9_ends q_in_X9 q_co_X9_ends ⟨rfl, rfl⟩ (by decide +kernel) ⟨Nat.le_of_ble_eq_true rfl, Nat.le_of_ble_eq_true rfl⟩) hX hH (rfl : gKinds[136]? = _) rfl rfl hl.1 rfl (Nat.le_of_ble_eq_true rfl) dX9_set_34 ⟨Nat.zero_le _, Nat.zero_le _⟩ (fun H locs hH => ?_)
    exact g_iretS hx hb0 hr hH hlocks dX9_set_37 h
  · refine lv_aload_n hx hb0 dX9_set_8 rfl (lv_at hl 0 rfl) ?_
    refine lv_iconst (v := gI (1 : Int)) hx hb0 dX9_set_9 (by decide) ?_
    obtain ⟨q10, e10, h⟩ := gBind_some h
    refine g_callVi (k := 136) (T := TX9) (N := 19) (As := [.int (gI (1 : Int))]) (rest := []) ⟨hx, hb0, hml, hown, hts⟩ (metX9_fails l D G σ μ (1 : Int) q10.1 q10.2 e10) (g_cwV (C := RX9) 1 hts q_ml_X9_63 q_im_X9_fails q_se_X9_fails q_in_X9 q_co_X9_fails ⟨rfl, rfl⟩ (by decide +kernel) ⟨Nat.le_of_ble_eq_true rfl, Nat.le_of_ble_eq_true rfl⟩) hX hH (rfl : gKinds[136]? = _) rfl rfl hl.1 rfl (Nat.le_of_ble_eq_true rfl) dX9_set_10 ⟨Nat.zero_le _, Nat.zero_le _⟩ (fun H locs hH => ?_)
    exact g_iretS hx hb0 hr hH hlocks dX9_set_13 h
def DX9_valueOf (σ : gSt) (a1 : Int) : Option (Int) :=
  gIf (a1 < (5 : Int)) a1 (5 : Int) (gAt a1 138 (some (σ 137 (Int.toNat a1)))) (gAt (77 : Int) 138 (some (σ 137 (Int.toNat (77 : Int)))))
set_option maxHeartbeats 4000000 in
set_option maxRecDepth 100000 in
theorem metX9_valueOf (l : Launch) (D : va_G) (G : gAd) (σ : gSt) (μ : gLg) (a1 : Int) (r : Int) (h : DX9_valueOf σ a1 = some r) : Met l yX9_valueOf (gWs yX9_valueOf cX9_valueOf 2 (some (Jvm.ClassFile.FieldType.int))) ({ frames := 0, cells := 0, slots := 0, locals := 0 } : Room) (gPc D G [.ref (G.1 136), .int (gI a1)] σ μ) (gQi D G r σ μ) 0 0 (gA G) := by
  refine Met.ofW (cc := cX9_valueOf) (maxL := 2) (ret := (some (Jvm.ClassFile.FieldType.int))) (by decide) rfl ?_
  intro p e s m args below meth c s₁ B hml hv
  obtain ⟨rfl, hP, hX⟩ := hv
  have hx := B.exec
  have hb0 := B.bytes
  have hr := B.returns
  have hts0 := atoms_spec (ws := (gWs yX9_valueOf cX9_valueOf 2 (some (Jvm.ClassFile.FieldType.int)))) B.pre
  have hts : ∀ w ∈ gLW, w.before _ s = true := fun w hw => hts0 w (List.mem_cons_of_mem _ hw)
  have hown : s.vm.findClass RX9 = some m.cls := findClass_of_methodNamed B.named
  have hlocks := B.notSynchronized
  have hH : gH D G s s.heap [] σ μ := ⟨hP, va_S.rf⟩
  have hl := lv_entry ([.ref (G.1 136), .int (gI a1)]) (n := 2) (Nat.le_of_ble_eq_true rfl)
  rw [lg_entry_eq]
  generalize (lg_sl ([.ref (G.1 136), .int (gI a1)]) ++ List.replicate (2 - (lg_sl ([.ref (G.1 136), .int (gI a1)])).length) Slot.unset).toArray = ls at hl ⊢
  have hl : lv_has ls 2 [(0, .ref (G.1 136)), (1, .int (gI a1))] := hl
  unfold DX9_valueOf at h
  refine lv_iload_n hx hb0 dX9_valueOf_0 rfl (lv_at hl 1 rfl) ?_
  refine lv_iconst (v := gI (5 : Int)) hx hb0 dX9_valueOf_1 (by decide) ?_
  refine g_icmp_ge (tgt := 14) hx hb0 dX9_valueOf_2 (by decide) h (fun h => ?_) (fun h => ?_)
  · refine lv_aload_n hx hb0 dX9_valueOf_14 rfl (lv_at hl 0 rfl) ?_
    refine g_getR hx hb0 hts q_ws_X9 hown hX hH (C := RX9) (T := TX9) (N := 19) (k := 136) (i := 0) (j := 137) (rfl : gKinds[136]? = _) rfl (by decide) (hts _ q_fl_X9_7) rfl rfl dX9_valueOf_15 ?_
    refine lv_bipush (v := gI (77 : Int)) hx hb0 dX9_valueOf_18 (by decide) ?_
    refine g_iald hx hb0 hX hH (k := 137) (rfl : gKinds[137]? = _) (by decide) dX9_valueOf_20 h (fun h => ?_)
    exact g_iretP hx hb0 hr hH hlocks dX9_valueOf_21 h
  · refine lv_aload_n hx hb0 dX9_valueOf_5 rfl (lv_at hl 0 rfl) ?_
    refine g_getR hx hb0 hts q_ws_X9 hown hX hH (C := RX9) (T := TX9) (N := 19) (k := 136) (i := 0) (j := 137) (rfl : gKinds[136]? = _) rfl (by decide) (hts _ q_fl_X9_7) rfl rfl dX9_valueOf_6 ?_
    refine lv_iload_n hx hb0 dX9_valueOf_9 rfl (lv_at hl 1 rfl) ?_
    refine g_iald hx hb0 hX hH (k := 137) (rfl : gKinds[137]? = _) (by decide) dX9_valueOf_10 h (fun h => ?_)
    refine lv_goto (tgt := 21) hx hb0 dX9_valueOf_11 (by decide) ?_
    exact g_iretP hx hb0 hr hH hlocks dX9_valueOf_21 h
def DX9_value (σ : gSt) (a1 : Int) : Option (Int × gSt) :=
  (DX9_in σ a1 (0 : Int) (5 : Int)).bind fun q3 => gIf (q3 = (0 : Int)) q3 (0 : Int) ((DX9_fails σ (1 : Int)).bind fun q23 => some (q23.1, q23.2)) ((DX9_valueOf σ a1).bind fun q12 => (DX9_tells σ q12).bind fun q15 => some (q15.1, q15.2))
set_option maxHeartbeats 4000000 in
set_option maxRecDepth 100000 in
theorem metX9_value (l : Launch) (D : va_G) (G : gAd) (σ : gSt) (μ : gLg) (a1 : Int) (r : Int) (σ' : gSt) (h : DX9_value σ a1 = some (r, σ')) : Met l yX9_value (gWs yX9_value cX9_value 2 (some (Jvm.ClassFile.FieldType.int))) ({ frames := 1, cells := 0, slots := 0, locals := 22 } : Room) (gPc D G [.ref (G.1 136), .int (gI a1)] σ μ) (gQi D G r σ' μ) 0 0 (gA G) := by
  refine Met.ofW (cc := cX9_value) (maxL := 2) (ret := (some (Jvm.ClassFile.FieldType.int))) (by decide) rfl ?_
  intro p e s m args below meth c s₁ B hml hv
  obtain ⟨rfl, hP, hX⟩ := hv
  have hx := B.exec
  have hb0 := B.bytes
  have hr := B.returns
  have hts0 := atoms_spec (ws := (gWs yX9_value cX9_value 2 (some (Jvm.ClassFile.FieldType.int)))) B.pre
  have hts : ∀ w ∈ gLW, w.before _ s = true := fun w hw => hts0 w (List.mem_cons_of_mem _ hw)
  have hown : s.vm.findClass RX9 = some m.cls := findClass_of_methodNamed B.named
  have hlocks := B.notSynchronized
  have hH : gH D G s s.heap [] σ μ := ⟨hP, va_S.rf⟩
  have hl := lv_entry ([.ref (G.1 136), .int (gI a1)]) (n := 2) (Nat.le_of_ble_eq_true rfl)
  rw [lg_entry_eq]
  generalize (lg_sl ([.ref (G.1 136), .int (gI a1)]) ++ List.replicate (2 - (lg_sl ([.ref (G.1 136), .int (gI a1)])).length) Slot.unset).toArray = ls at hl ⊢
  have hl : lv_has ls 2 [(0, .ref (G.1 136)), (1, .int (gI a1))] := hl
  unfold DX9_value at h
  refine lv_iload_n hx hb0 dX9_value_0 rfl (lv_at hl 1 rfl) ?_
  refine lv_iconst (v := gI (0 : Int)) hx hb0 dX9_value_1 (by decide) ?_
  refine lv_iconst (v := gI (5 : Int)) hx hb0 dX9_value_2 (by decide) ?_
  obtain ⟨q3, e3, h⟩ := gBind_some h
  refine g_callSi (As := [.int (gI a1), .int (gI (0 : Int)), .int (gI (5 : Int))]) (rest := []) ⟨hx, hb0, hml, hown, hts⟩ (metX9_in l D G σ μ a1 (0 : Int) (5 : Int) q3 e3) (g_cwS 3 hts q_ml_X9_51 q_st_X9_in q_in_X9 q_co_X9_in ⟨rfl, rfl⟩ (by decide +kernel) ⟨Nat.le_of_ble_eq_true rfl, Nat.le_of_ble_eq_true rfl⟩) hX hH rfl hl.1 rfl (Nat.le_of_ble_eq_true rfl) dX9_value_3 ⟨Nat.zero_le _, Nat.zero_le _⟩ (fun H locs hH => ?_)
  refine g_if_eq (tgt := 21) hx hb0 dX9_value_6 (by decide) h (fun h => ?_) (fun h => ?_)
  · refine lv_aload_n hx hb0 dX9_value_21 rfl (lv_at hl 0 rfl) ?_
    refine lv_iconst (v := gI (1 : Int)) hx hb0 dX9_value_22 (by decide) ?_
    obtain ⟨q23, e23, h⟩ := gBind_some h
    refine g_callVi (k := 136) (T := TX9) (N := 19) (As := [.int (gI (1 : Int))]) (rest := []) ⟨hx, hb0, hml, hown, hts⟩ (metX9_fails l D G σ μ (1 : Int) q23.1 q23.2 e23) (g_cwV (C := RX9) 1 hts q_ml_X9_63 q_im_X9_fails q_se_X9_fails q_in_X9 q_co_X9_fails ⟨rfl, rfl⟩ (by decide +kernel) ⟨Nat.le_of_ble_eq_true rfl, Nat.le_of_ble_eq_true rfl⟩) hX hH (rfl : gKinds[136]? = _) rfl rfl hl.1 rfl (Nat.le_of_ble_eq_true rfl) dX9_value_23 ⟨Nat.zero_le _, Nat.zero_le _⟩ (fun H locs hH => ?_)
    exact g_iretS hx hb0 hr hH hlocks dX9_value_26 h
  · refine lv_aload_n hx hb0 dX9_value_9 rfl (lv_at hl 0 rfl) ?_
    refine lv_aload_n hx hb0 dX9_value_10 rfl (lv_at hl 0 rfl) ?_
    refine lv_iload_n hx hb0 dX9_value_11 rfl (lv_at hl 1 rfl) ?_
    obtain ⟨q12, e12, h⟩ := gBind_some h
    refine g_callVi (k := 136) (T := TX9) (N := 19) (As := [.int (gI a1)]) (rest := [.ref (G.1 136)]) ⟨hx, hb0, hml, hown, hts⟩ (metX9_valueOf l D G σ μ a1 q12 e12) (g_cwV (C := RX9) 1 hts q_ml_X9_72 q_im_X9_valueOf q_se_X9_valueOf q_in_X9 q_co_X9_valueOf ⟨rfl, rfl⟩ (by decide +kernel) ⟨Nat.le_of_ble_eq_true rfl, Nat.le_of_ble_eq_true rfl⟩) hX hH (rfl : gKinds[136]? = _) rfl rfl hl.1 rfl (Nat.le_of_ble_eq_true rfl) dX9_value_12 ⟨Nat.zero_le _, Nat.zero_le _⟩ (fun H locs hH => ?_)
    obtain ⟨q15, e15, h⟩ := gBind_some h
    refine g_callVi (k := 136) (T := TX9) (N := 19) (As := [.int (gI q12)]) (rest := []) ⟨hx, hb0, hml, hown, hts⟩ (metX9_tells l D G σ μ q12 q15.1 q15.2 e15) (g_cwV (C := RX9) 1 hts q_ml_X9_47 q_im_X9_tells q_se_X9_tells q_in_X9 q_co_X9_tells ⟨rfl, rfl⟩ (by decide +kernel) ⟨Nat.le_of_ble_eq_true rfl, Nat.le_of_ble_eq_true rfl⟩) hX hH (rfl : gKinds[136]? = _) rfl rfl hl.1 rfl (Nat.le_of_ble_eq_true rfl) dX9_value_15 ⟨Nat.zero_le _, Nat.zero_le _⟩ (fun H locs hH => ?_)
    refine lv_goto (tgt := 26) hx hb0 dX9_value_18 (by decide) ?_
    exact g_iretS hx hb0 hr hH hlocks dX9_value_26 h
def DX9_isBar (σ : gSt) (a0 : Int) (a1 : Int) : Option (Int) :=
  (DX9_in σ a0 (0 : Int) (199 : Int)).bind fun q5 => gIf (q5 = (0 : Int)) q5 (0 : Int) (gBo (0 : Int) (some (0 : Int))) ((DX9_in σ a1 (1 : Int) (60 : Int)).bind fun q15 => gIf (q15 = (0 : Int)) q15 (0 : Int) (gBo (0 : Int) (some (0 : Int))) (gBo (1 : Int) (some (1 : Int))))
set_option maxHeartbeats 4000000 in
set_option maxRecDepth 100000 in
theorem metX9_isBar (l : Launch) (D : va_G) (G : gAd) (σ : gSt) (μ : gLg) (a0 : Int) (a1 : Int) (r : Int) (h : DX9_isBar σ a0 a1 = some r) : Met l yX9_isBar (gWs yX9_isBar cX9_isBar 2 (some (Jvm.ClassFile.FieldType.boolean))) ({ frames := 1, cells := 0, slots := 0, locals := 22 } : Room) (gPc D G [.int (gI a0), .int (gI a1)] σ μ) (gQi D G r σ μ) 0 0 (gA G) := by
  refine Met.ofW (cc := cX9_isBar) (maxL := 2) (ret := (some (Jvm.ClassFile.FieldType.boolean))) (by decide) rfl ?_
  intro p e s m args below meth c s₁ B hml hv
  obtain ⟨rfl, hP, hX⟩ := hv
  have hx := B.exec
  have hb0 := B.bytes
  have hr := B.returns
  have hts0 := atoms_spec (ws := (gWs yX9_isBar cX9_isBar 2 (some (Jvm.ClassFile.FieldType.boolean)))) B.pre
  have hts : ∀ w ∈ gLW, w.before _ s = true := fun w hw => hts0 w (List.mem_cons_of_mem _ hw)
  have hown : s.vm.findClass RX9 = some m.cls := findClass_of_methodNamed B.named
  have hlocks := B.notSynchronized
  have hH : gH D G s s.heap [] σ μ := ⟨hP, va_S.rf⟩
  have hl := lv_entry ([.int (gI a0), .int (gI a1)]) (n := 2) (Nat.le_of_ble_eq_true rfl)
  rw [lg_entry_eq]
  generalize (lg_sl ([.int (gI a0), .int (gI a1)]) ++ List.replicate (2 - (lg_sl ([.int (gI a0), .int (gI a1)])).length) Slot.unset).toArray = ls at hl ⊢
  have hl : lv_has ls 2 [(0, .int (gI a0)), (1, .int (gI a1))] := hl
  unfold DX9_isBar at h
  refine lv_iload_n hx hb0 dX9_isBar_0 rfl (lv_at hl 0 rfl) ?_
  refine lv_iconst (v := gI (0 : Int)) hx hb0 dX9_isBar_1 (by decide) ?_
  refine lv_sipush (v := gI (199 : Int)) hx hb0 dX9_isBar_2 (by decide) ?_
  obtain ⟨q5, e5, h⟩ := gBind_some h
  refine g_callSi (As := [.int (gI a0), .int (gI (0 : Int)), .int (gI (199 : Int))]) (rest := []) ⟨hx, hb0, hml, hown, hts⟩ (metX9_in l D G σ μ a0 (0 : Int) (199 : Int) q5 e5) (g_cwS 3 hts q_ml_X9_51 q_st_X9_in q_in_X9 q_co_X9_in ⟨rfl, rfl⟩ (by decide +kernel) ⟨Nat.le_of_ble_eq_true rfl, Nat.le_of_ble_eq_true rfl⟩) hX hH rfl hl.1 rfl (Nat.le_of_ble_eq_true rfl) dX9_isBar_5 ⟨Nat.zero_le _, Nat.zero_le _⟩ (fun H locs hH => ?_)
  refine g_if_eq (tgt := 25) hx hb0 dX9_isBar_8 (by decide) h (fun h => ?_) (fun h => ?_)
  · refine lv_iconst (v := gI (0 : Int)) hx hb0 dX9_isBar_25 (by decide) ?_
    exact g_zretP hx hb0 hr hH hlocks dX9_isBar_26 h
  · refine lv_iload_n hx hb0 dX9_isBar_11 rfl (lv_at hl 1 rfl) ?_
    refine lv_iconst (v := gI (1 : Int)) hx hb0 dX9_isBar_12 (by decide) ?_
    refine lv_bipush (v := gI (60 : Int)) hx hb0 dX9_isBar_13 (by decide) ?_
    obtain ⟨q15, e15, h⟩ := gBind_some h
    refine g_callSi (As := [.int (gI a1), .int (gI (1 : Int)), .int (gI (60 : Int))]) (rest := []) ⟨hx, hb0, hml, hown, hts⟩ (metX9_in l D G σ μ a1 (1 : Int) (60 : Int) q15 e15) (g_cwS 3 hts q_ml_X9_51 q_st_X9_in q_in_X9 q_co_X9_in ⟨rfl, rfl⟩ (by decide +kernel) ⟨Nat.le_of_ble_eq_true rfl, Nat.le_of_ble_eq_true rfl⟩) hX hH rfl hl.1 rfl (Nat.le_of_ble_eq_true rfl) dX9_isBar_15 ⟨Nat.zero_le _, Nat.zero_le _⟩ (fun H locs hH => ?_)
    refine g_if_eq (tgt := 25) hx hb0 dX9_isBar_18 (by decide) h (fun h => ?_) (fun h => ?_)
    · refine lv_iconst (v := gI (0 : Int)) hx hb0 dX9_isBar_25 (by decide) ?_
      exact g_zretP hx hb0 hr hH hlocks dX9_isBar_26 h
    · refine lv_iconst (v := gI (1 : Int)) hx hb0 dX9_isBar_21 (by decide) ?_
      refine lv_goto (tgt := 26) hx hb0 dX9_isBar_22 (by decide) ?_
      exact g_zretP hx hb0 hr hH hlocks dX9_isBar_26 h
def DX9_comes (σ : gSt) (a1 : Int) (a2 : Int) (a3 : Int) : Option (gSt) :=
  gAt (4 : Int) 138 (gAt ((5 : Int) + ((3 : Int) * (σ 137 (Int.toNat (4 : Int))))) 138 (gAt (((5 : Int) + ((3 : Int) * (σ 137 (Int.toNat (4 : Int))))) + (1 : Int)) 138 (gAt (((5 : Int) + ((3 : Int) * (σ 137 (Int.toNat (4 : Int))))) + (2 : Int)) 138 (gAt (4 : Int) 138 (gAt (4 : Int) 138 (some (gUp (gUp (gUp (gUp σ 137 (Int.toNat ((5 : Int) + ((3 : Int) * (σ 137 (Int.toNat (4 : Int)))))) a1) 137 (Int.toNat (((5 : Int) + ((3 : Int) * (σ 137 (Int.toNat (4 : Int))))) + (1 : Int))) a2) 137 (Int.toNat (((5 : Int) + ((3 : Int) * (σ 137 (Int.toNat (4 : Int))))) + (2 : Int))) a3) 137 (Int.toNat (4 : Int)) (((gUp (gUp (gUp σ 137 (Int.toNat ((5 : Int) + ((3 : Int) * (σ 137 (Int.toNat (4 : Int)))))) a1) 137 (Int.toNat (((5 : Int) + ((3 : Int) * (σ 137 (Int.toNat (4 : Int))))) + (1 : Int))) a2) 137 (Int.toNat (((5 : Int) + ((3 : Int) * (σ 137 (Int.toNat (4 : Int))))) + (2 : Int))) a3) 137 (Int.toNat (4 : Int))) + (1 : Int)))))))))
set_option maxHeartbeats 4000000 in
set_option maxRecDepth 100000 in
theorem metX9_comes (l : Launch) (D : va_G) (G : gAd) (σ : gSt) (μ : gLg) (a1 : Int) (a2 : Int) (a3 : Int) (σ' : gSt) (h : DX9_comes σ a1 a2 a3 = some σ') : Met l yX9_comes (gWs yX9_comes cX9_comes 5 none) ({ frames := 0, cells := 0, slots := 0, locals := 0 } : Room) (gPc D G [.ref (G.1 136), .int (gI a1), .int (gI a2), .int (gI a3)] σ μ) (gQv D G σ' μ) 0 0 (gA G) := by
  refine Met.ofW (cc := cX9_comes) (maxL := 5) (ret := none) (by decide) rfl ?_
  intro p e s m args below meth c s₁ B hml hv
  obtain ⟨rfl, hP, hX⟩ := hv
  have hx := B.exec
  have hb0 := B.bytes
  have hr := B.returns
  have hts0 := atoms_spec (ws := (gWs yX9_comes cX9_comes 5 none)) B.pre
  have hts : ∀ w ∈ gLW, w.before _ s = true := fun w hw => hts0 w (List.mem_cons_of_mem _ hw)
  have hown : s.vm.findClass RX9 = some m.cls := findClass_of_methodNamed B.named
  have hlocks := B.notSynchronized
  have hH : gH D G s s.heap [] σ μ := ⟨hP, va_S.rf⟩
  have hl := lv_entry ([.ref (G.1 136), .int (gI a1), .int (gI a2), .int (gI a3)]) (n := 5) (Nat.le_of_ble_eq_true rfl)
  rw [lg_entry_eq]
  generalize (lg_sl ([.ref (G.1 136), .int (gI a1), .int (gI a2), .int (gI a3)]) ++ List.replicate (5 - (lg_sl ([.ref (G.1 136), .int (gI a1), .int (gI a2), .int (gI a3)])).length) Slot.unset).toArray = ls at hl ⊢
  have hl : lv_has ls 5 [(0, .ref (G.1 136)), (1, .int (gI a1)), (2, .int (gI a2)), (3, .int (gI a3))] := hl
  unfold DX9_comes at h
  refine lv_iconst (v := gI (5 : Int)) hx hb0 dX9_comes_0 (by decide) ?_
  refine lv_iconst (v := gI (3 : Int)) hx hb0 dX9_comes_1 (by decide) ?_
  refine lv_aload_n hx hb0 dX9_comes_2 rfl (lv_at hl 0 rfl) ?_
  refine g_getR hx hb0 hts q_ws_X9 hown hX hH (C := RX9) (T := TX9) (N := 19) (k := 136) (i := 0) (j := 137) (rfl : gKinds[136]? = _) rfl (by decide) (hts _ q_fl_X9_7) rfl rfl dX9_comes_3 ?_
  refine lv_iconst (v := gI (4 : Int)) hx hb0 dX9_comes_6 (by decide) ?_
  refine g_iald hx hb0 hX hH (k := 137) (rfl : gKinds[137]? = _) (by decide) dX9_comes_7 h (fun h => ?_)
  refine g_imul hx hb0 dX9_comes_8 ?_
  refine g_iadd hx hb0 dX9_comes_9 ?_
  refine lv_istore (lv' := [(4, .int (gI ((5 : Int) + ((3 : Int) * (σ 137 (Int.toNat (4 : Int))))))), (0, .ref (G.1 136)), (1, .int (gI a1)), (2, .int (gI a2)), (3, .int (gI a3))]) hx hb0 dX9_comes_10 hl (by decide) rfl (fun ls hl => ?_)
  refine lv_aload_n hx hb0 dX9_comes_12 rfl (lv_at hl 1 rfl) ?_
  refine g_getR hx hb0 hts q_ws_X9 hown hX hH (C := RX9) (T := TX9) (N := 19) (k := 136) (i := 0) (j := 137) (rfl : gKinds[136]? = _) rfl (by decide) (hts _ q_fl_X9_7) rfl rfl dX9_comes_13 ?_
  refine lv_iload hx hb0 dX9_comes_16 (lv_at hl 0 rfl) ?_
  refine lv_iload_n hx hb0 dX9_comes_18 rfl (lv_at hl 2 rfl) ?_
  refine g_iast hx hb0 hX hH (k := 137) (rfl : gKinds[137]? = _) (by decide) dX9_comes_19 h (fun h H locs hH => ?_)
  refine lv_aload_n hx hb0 dX9_comes_20 rfl (lv_at hl 1 rfl) ?_
  refine g_getR hx hb0 hts q_ws_X9 hown hX hH (C := RX9) (T := TX9) (N := 19) (k := 136) (i := 0) (j := 137) (rfl : gKinds[136]? = _) rfl (by decide) (hts _ q_fl_X9_7) rfl rfl dX9_comes_21 ?_
  refine lv_iload hx hb0 dX9_comes_24 (lv_at hl 0 rfl) ?_
  refine lv_iconst (v := gI (1 : Int)) hx hb0 dX9_comes_26 (by decide) ?_
  refine g_iadd hx hb0 dX9_comes_27 ?_
  refine lv_iload_n hx hb0 dX9_comes_28 rfl (lv_at hl 3 rfl) ?_
  refine g_iast hx hb0 hX hH (k := 137) (rfl : gKinds[137]? = _) (by decide) dX9_comes_29 h (fun h H locs hH => ?_)
  refine lv_aload_n hx hb0 dX9_comes_30 rfl (lv_at hl 1 rfl) ?_
  refine g_getR hx hb0 hts q_ws_X9 hown hX hH (C := RX9) (T := TX9) (N := 19) (k := 136) (i := 0) (j := 137) (rfl : gKinds[136]? = _) rfl (by decide) (hts _ q_fl_X9_7) rfl rfl dX9_comes_31 ?_
  refine lv_iload hx hb0 dX9_comes_34 (lv_at hl 0 rfl) ?_
  refine lv_iconst (v := gI (2 : Int)) hx hb0 dX9_comes_36 (by decide) ?_
  refine g_iadd hx hb0 dX9_comes_37 ?_
  refine lv_iload_n hx hb0 dX9_comes_38 rfl (lv_at hl 4 rfl) ?_
  refine g_iast hx hb0 hX hH (k := 137) (rfl : gKinds[137]? = _) (by decide) dX9_comes_39 h (fun h H locs hH => ?_)
  refine lv_aload_n hx hb0 dX9_comes_40 rfl (lv_at hl 1 rfl) ?_
  refine g_getR hx hb0 hts q_ws_X9 hown hX hH (C := RX9) (T := TX9) (N := 19) (k := 136) (i := 0) (j := 137) (rfl : gKinds[136]? = _) rfl (by decide) (hts _ q_fl_X9_7) rfl rfl dX9_comes_41 ?_
  refine lv_iconst (v := gI (4 : Int)) hx hb0 dX9_comes_44 (by decide) ?_
  refine lv_dup2_11 hx hb0 dX9_comes_45 rfl rfl ?_
  refine g_iald hx hb0 hX hH (k := 137) (rfl : gKinds[137]? = _) (by decide) dX9_comes_46 h (fun h => ?_)
  refine lv_iconst (v := gI (1 : Int)) hx hb0 dX9_comes_47 (by decide) ?_
  refine g_iadd hx hb0 dX9_comes_48 ?_
  refine g_iast hx hb0 hX hH (k := 137) (rfl : gKinds[137]? = _) (by decide) dX9_comes_49 h (fun h H locs hH => ?_)
  exact g_vretS hx hb0 hr hH hlocks dX9_comes_50 h
def DX9_addTask_J17 (σ : gSt) : Option (Int × gSt) :=
  (DX9_fails σ (1 : Int)).bind fun q19 => some (q19.1, q19.2)
def DX9_addTask (σ : gSt) (a1 : Int) (a2 : Int) (a3 : Int) : Option (Int × gSt) :=
  (DX9_in σ a1 (0 : Int) (5 : Int)).bind fun q3 => gIf (q3 = (0 : Int)) q3 (0 : Int) ((DX9_addTask_J17 σ)) ((DX9_isBar σ a2 a3).bind fun q11 => gIf (q11 = (0 : Int)) q11 (0 : Int) ((DX9_addTask_J17 σ)) (gAt (4 : Int) 138 (gIf ((σ 137 (Int.toNat (4 : Int))) = (24 : Int)) (σ 137 (Int.toNat (4 : Int))) (24 : Int) ((DX9_fails σ (2 : Int)).bind fun q36 => some (q36.1, q36.2)) ((DX9_hold σ).bind fun q41 => (DX9_comes q41 a1 a2 a3).bind fun q48 => gAt (4 : Int) 138 ((DX9_ends q48 ((q48 137 (Int.toNat (4 : Int))) - (1 : Int))).bind fun q60 => some (q60.1, q60.2))))))
set_option maxHeartbeats 4000000 in
set_option maxRecDepth 100000 in
theorem metX9_addTask (l : Launch) (D : va_G) (G : gAd) (σ : gSt) (μ : gLg) (a1 : Int) (a2 : Int) (a3 : Int) (r : Int) (σ' : gSt) (h : DX9_addTask σ a1 a2 a3 = some (r, σ')) : Met l yX9_addTask (gWs yX9_addTask cX9_addTask 4 (some (Jvm.ClassFile.FieldType.int))) ({ frames := 2, cells := 0, slots := 0, locals := 43 } : Room) (gPc D G [.ref (G.1 136), .int (gI a1), .int (gI a2), .int (gI a3)] σ μ) (gQi D G r σ' μ) 0 0 (gA G) := by
  refine Met.ofW (cc := cX9_addTask) (maxL := 4) (ret := (some (Jvm.ClassFile.FieldType.int))) (by decide) rfl ?_
  intro p e s m args below meth c s₁ B hml hv
  obtain ⟨rfl, hP, hX⟩ := hv
  have hx := B.exec
  have hb0 := B.bytes
  have hr := B.returns
  have hts0 := atoms_spec (ws := (gWs yX9_addTask cX9_addTask 4 (some (Jvm.ClassFile.FieldType.int)))) B.pre
  have hts : ∀ w ∈ gLW, w.before _ s = true := fun w hw => hts0 w (List.mem_cons_of_mem _ hw)
  have hown : s.vm.findClass RX9 = some m.cls := findClass_of_methodNamed B.named
  have hlocks := B.notSynchronized
  have hH : gH D G s s.heap [] σ μ := ⟨hP, va_S.rf⟩
  have hl := lv_entry ([.ref (G.1 136), .int (gI a1), .int (gI a2), .int (gI a3)]) (n := 4) (Nat.le_of_ble_eq_true rfl)
  rw [lg_entry_eq]
  generalize (lg_sl ([.ref (G.1 136), .int (gI a1), .int (gI a2), .int (gI a3)]) ++ List.replicate (4 - (lg_sl ([.ref (G.1 136), .int (gI a1), .int (gI a2), .int (gI a3)])).length) Slot.unset).toArray = ls at hl ⊢
  have hl : lv_has ls 4 [(0, .ref (G.1 136)), (1, .int (gI a1)), (2, .int (gI a2)), (3, .int (gI a3))] := hl
  unfold DX9_addTask at h
  refine lv_iload_n hx hb0 dX9_addTask_0 rfl (lv_at hl 1 rfl) ?_
  refine lv_iconst (v := gI (0 : Int)) hx hb0 dX9_addTask_1 (by decide) ?_
  refine lv_iconst (v := gI (5 : Int)) hx hb0 dX9_addTask_2 (by decide) ?_
  obtain ⟨q3, e3, h⟩ := gBind_some h
  refine g_callSi (As := [.int (gI a1), .int (gI (0 : Int)), .int (gI (5 : Int))]) (rest := []) ⟨hx, hb0, hml, hown, hts⟩ (metX9_in l D G σ μ a1 (0 : Int) (5 : Int) q3 e3) (g_cwS 3 hts q_ml_X9_51 q_st_X9_in q_in_X9 q_co_X9_in ⟨rfl, rfl⟩ (by decide +kernel) ⟨Nat.le_of_ble_eq_true rfl, Nat.le_of_ble_eq_true rfl⟩) hX hH rfl hl.1 rfl (Nat.le_of_ble_eq_true rfl) dX9_addTask_3 ⟨Nat.zero_le _, Nat.zero_le _⟩ (fun H locs hH => ?_)
  have hJ17 : ∀  (H : Heap) (locs : List Loc) (ls : Array Slot), gH D G s H locs σ μ → lv_has ls 4 [(0, .ref (G.1 136))] → (DX9_addTask_J17 σ) = some (r, σ') → W p l e (headSpec (gWs yX9_addTask cX9_addTask 4 (some (Jvm.ClassFile.FieldType.int))) ({ frames := 2, cells := 0, slots := 0, locals := 43 } : Room)).room s m ([.ref (G.1 136), .int (gI a1), .int (gI a2), .int (gI a3)] : List Value).toArray below meth c H locs 0 0 (MQ below (gQi D G r σ' μ) ([.ref (G.1 136), .int (gI a1), .int (gI a2), .int (gI a3)] : List Value).toArray s 0 0 (gA G)) (F0 m 17 ls []) := by
    intro H locs ls hH hl h
    unfold DX9_addTask_J17 at h
    refine lv_aload_n hx hb0 dX9_addTask_17 rfl (lv_at hl 0 rfl) ?_
    refine lv_iconst (v := gI (1 : Int)) hx hb0 dX9_addTask_18 (by decide) ?_
    obtain ⟨q19, e19, h⟩ := gBind_some h
    refine g_callVi (k := 136) (T := TX9) (N := 19) (As := [.int (gI (1 : Int))]) (rest := []) ⟨hx, hb0, hml, hown, hts⟩ (metX9_fails l D G σ μ (1 : Int) q19.1 q19.2 e19) (g_cwV (C := RX9) 1 hts q_ml_X9_63 q_im_X9_fails q_se_X9_fails q_in_X9 q_co_X9_fails ⟨rfl, rfl⟩ (by decide +kernel) ⟨Nat.le_of_ble_eq_true rfl, Nat.le_of_ble_eq_true rfl⟩) hX hH (rfl : gKinds[136]? = _) rfl rfl hl.1 rfl (Nat.le_of_ble_eq_true rfl) dX9_addTask_19 ⟨Nat.zero_le _, Nat.zero_le _⟩ (fun H locs hH => ?_)
    exact g_iretS hx hb0 hr hH hlocks dX9_addTask_22 h
  refine g_if_eq (tgt := 17) hx hb0 dX9_addTask_6 (by decide) h (fun h => ?_) (fun h => ?_)
  · exact hJ17  _ _ _ hH (lv_sub hl [0] rfl) h
  · refine lv_iload_n hx hb0 dX9_addTask_9 rfl (lv_at hl 2 rfl) ?_
    refine lv_iload_n hx hb0 dX9_addTask_10 rfl (lv_at hl 3 rfl) ?_
    obtain ⟨q11, e11, h⟩ := gBind_some h
    refine g_callSi (As := [.int (gI a2), .int (gI a3)]) (rest := []) ⟨hx, hb0, hml, hown, hts⟩ (metX9_isBar l D G σ μ a2 a3 q11 e11) (g_cwS 2 hts q_ml_X9_75 q_st_X9_isBar q_in_X9 q_co_X9_isBar ⟨rfl, rfl⟩ (by decide +kernel) ⟨Nat.le_of_ble_eq_true rfl, Nat.le_of_ble_eq_true rfl⟩) hX hH rfl hl.1 rfl (Nat.le_of_ble_eq_true rfl) dX9_addTask_11 ⟨Nat.zero_le _, Nat.zero_le _⟩ (fun H locs hH => ?_)
    refine g_if_ne (tgt := 23) hx hb0 dX9_addTask_14 (by decide) h (fun h => ?_) (fun h => ?_)
    · refine lv_aload_n hx hb0 dX9_addTask_23 rfl (lv_at hl 0 rfl) ?_
      refine g_getR hx hb0 hts q_ws_X9 hown hX hH (C := RX9) (T := TX9) (N := 19) (k := 136) (i := 0) (j := 137) (rfl : gKinds[136]? = _) rfl (by decide) (hts _ q_fl_X9_7) rfl rfl dX9_addTask_24 ?_
      refine lv_iconst (v := gI (4 : Int)) hx hb0 dX9_addTask_27 (by decide) ?_
      refine g_iald hx hb0 hX hH (k := 137) (rfl : gKinds[137]? = _) (by decide) dX9_addTask_28 h (fun h => ?_)
      refine lv_bipush (v := gI (24 : Int)) hx hb0 dX9_addTask_29 (by decide) ?_
      refine g_icmp_ne (tgt := 40) hx hb0 dX9_addTask_31 (by decide) h (fun h => ?_) (fun h => ?_)
      · refine lv_aload_n hx hb0 dX9_addTask_40 rfl (lv_at hl 0 rfl) ?_
        obtain ⟨q41, e41, h⟩ := gBind_some h
        refine g_callVv (k := 136) (T := TX9) (N := 19) (As := []) (rest := []) ⟨hx, hb0, hml, hown, hts⟩ (metX9_hold l D G σ μ q41 e41) (g_cwV (C := RX9) 0 hts q_ml_X9_66 q_im_X9_hold q_se_X9_hold q_in_X9 q_co_X9_hold ⟨rfl, rfl⟩ (by decide +kernel) ⟨Nat.le_of_ble_eq_true rfl, Nat.le_of_ble_eq_true rfl⟩) hX hH (rfl : gKinds[136]? = _) rfl rfl hl.1 rfl (Nat.le_of_ble_eq_true rfl) dX9_addTask_41 ⟨Nat.zero_le _, Nat.zero_le _⟩ (fun H locs hH => ?_)
        refine lv_aload_n hx hb0 dX9_addTask_44 rfl (lv_at hl 0 rfl) ?_
        refine lv_iload_n hx hb0 dX9_addTask_45 rfl (lv_at hl 1 rfl) ?_
        refine lv_iload_n hx hb0 dX9_addTask_46 rfl (lv_at hl 2 rfl) ?_
        refine lv_iload_n hx hb0 dX9_addTask_47 rfl (lv_at hl 3 rfl) ?_
        obtain ⟨q48, e48, h⟩ := gBind_some h
        refine g_callVv (k := 136) (T := TX9) (N := 19) (As := [.int (gI a1), .int (gI a2), .int (gI a3)]) (rest := []) ⟨hx, hb0, hml, hown, hts⟩ (metX9_comes l D G q41 μ a1 a2 a3 q48 e48) (g_cwV (C := RX9) 3 hts q_ml_X9_78 q_im_X9_comes q_se_X9_comes q_in_X9 q_co_X9_comes ⟨rfl, rfl⟩ (by decide +kernel) ⟨Nat.le_of_ble_eq_true rfl, Nat.le_of_ble_eq_true rfl⟩) hX hH (rfl : gKinds[136]? = _) rfl rfl hl.1 rfl (Nat.le_of_ble_eq_true rfl) dX9_addTask_48 ⟨Nat.zero_le _, Nat.zero_le _⟩ (fun H locs hH => ?_)
        refine lv_aload_n hx hb0 dX9_addTask_51 rfl (lv_at hl 0 rfl) ?_
        refine lv_aload_n hx hb0 dX9_addTask_52 rfl (lv_at hl 0 rfl) ?_
        refine g_getR hx hb0 hts q_ws_X9 hown hX hH (C := RX9) (T := TX9) (N := 19) (k := 136) (i := 0) (j := 137) (rfl : gKinds[136]? = _) rfl (by decide) (hts _ q_fl_X9_7) rfl rfl dX9_addTask_53 ?_
        refine lv_iconst (v := gI (4 : Int)) hx hb0 dX9_addTask_56 (by decide) ?_
        refine g_iald hx hb0 hX hH (k := 137) (rfl : gKinds[137]? = _) (by decide) dX9_addTask_57 h (fun h => ?_)
        refine lv_iconst (v := gI (1 : Int)) hx hb0 dX9_addTask_58 (by decide) ?_
        refine g_isub hx hb0 dX9_addTask_59 ?_
        obtain ⟨q60, e60, h⟩ := gBind_some h
        refine g_callVi (k := 136) (T := TX9) (N := 19) (As := [.int (gI ((q48 137 (Int.toNat (4 : Int))) - (1 : Int)))]) (rest := []) ⟨hx, hb0, hml, hown, hts⟩ (metX9_ends l D G q48 μ ((q48 137 (Int.toNat (4 : Int))) - (1 : Int)) q60.1 q60.2 e60) (g_cwV (C := RX9) 1 hts q_ml_X9_69 q_im_X9_ends q_se_X9_ends q_in_X9 q_co_X9_ends ⟨rfl, rfl⟩ (by decide +kernel) ⟨Nat.le_of_ble_eq_true rfl, Nat.le_of_ble_eq_true rfl⟩) hX hH (rfl : gKinds[136]? = _) rfl rfl hl.1 rfl (Nat.le_of_ble_eq_true rfl) dX9_addTask_60 ⟨Nat.zero_le _, Nat.zero_le _⟩ (fun H locs hH => ?_)
        exact g_iretS hx hb0 hr hH hlocks dX9_addTask_63 h
      · refine lv_aload_n hx hb0 dX9_addTask_34 rfl (lv_at hl 0 rfl) ?_
        refine lv_iconst (v := gI (2 : Int)) hx hb0 dX9_addTask_35 (by decide) ?_
        obtain ⟨q36, e36, h⟩ := gBind_some h
        refine g_callVi (k := 136) (T := TX9) (N := 19) (As := [.int (gI (2 : Int))]) (rest := []) ⟨hx, hb0, hml, hown, hts⟩ (metX9_fails l D G σ μ (2 : Int) q36.1 q36.2 e36) (g_cwV (C := RX9) 1 hts q_ml_X9_63 q_im_X9_fails q_se_X9_fails q_in_X9 q_co_X9_fails ⟨rfl, rfl⟩ (by decide +kernel) ⟨Nat.le_of_ble_eq_true rfl, Nat.le_of_ble_eq_true rfl⟩) hX hH (rfl : gKinds[136]? = _) rfl rfl hl.1 rfl (Nat.le_of_ble_eq_true rfl) dX9_addTask_36 ⟨Nat.zero_le _, Nat.zero_le _⟩ (fun H locs hH => ?_)
        exact g_iretS hx hb0 hr hH hlocks dX9_addTask_39 h
    · exact hJ17  _ _ _ hH (lv_sub hl [0] rfl) h
def DX9_move (σ : gSt) (a1 : Int) (a2 : Int) (a3 : Int) : Option (Int × gSt) :=
  (DX9_isTask σ a1).bind fun q2 => gIf (q2 = (0 : Int)) q2 (0 : Int) ((DX9_fails σ (1 : Int)).bind fun q10 => some (q10.1, q10.2)) ((DX9_isBar σ a2 a3).bind fun q16 => gIf (q16 = (0 : Int)) q16 (0 : Int) ((DX9_fails σ (2 : Int)).bind fun q24 => some (q24.1, q24.2)) ((DX9_hold σ).bind fun q29 => (DX9_of q29 a1 (1 : Int)).bind fun q35 => gAt (((5 : Int) + ((3 : Int) * a1)) + (1 : Int)) 138 (gAt (((5 : Int) + ((3 : Int) * a1)) + (2 : Int)) 138 ((DX9_ends (gUp (gUp q29 137 (Int.toNat (((5 : Int) + ((3 : Int) * a1)) + (1 : Int))) a2) 137 (Int.toNat (((5 : Int) + ((3 : Int) * a1)) + (2 : Int))) a3) q35).bind fun q69 => some (q69.1, q69.2)))))
set_option maxHeartbeats 4000000 in
set_option maxRecDepth 100000 in
theorem metX9_move (l : Launch) (D : va_G) (G : gAd) (σ : gSt) (μ : gLg) (a1 : Int) (a2 : Int) (a3 : Int) (r : Int) (σ' : gSt) (h : DX9_move σ a1 a2 a3 = some (r, σ')) : Met l yX9_move (gWs yX9_move cX9_move 5 (some (Jvm.ClassFile.FieldType.int))) ({ frames := 2, cells := 0, slots := 0, locals := 43 } : Room) (gPc D G [.ref (G.1 136), .int (gI a1), .int (gI a2), .int (gI a3)] σ μ) (gQi D G r σ' μ) 0 0 (gA G) := by
  refine Met.ofW (cc := cX9_move) (maxL := 5) (ret := (some (Jvm.ClassFile.FieldType.int))) (by decide) rfl ?_
  intro p e s m args below meth c s₁ B hml hv
  obtain ⟨rfl, hP, hX⟩ := hv
  have hx := B.exec
  have hb0 := B.bytes
  have hr := B.returns
  have hts0 := atoms_spec (ws := (gWs yX9_move cX9_move 5 (some (Jvm.ClassFile.FieldType.int)))) B.pre
  have hts : ∀ w ∈ gLW, w.before _ s = true := fun w hw => hts0 w (List.mem_cons_of_mem _ hw)
  have hown : s.vm.findClass RX9 = some m.cls := findClass_of_methodNamed B.named
  have hlocks := B.notSynchronized
  have hH : gH D G s s.heap [] σ μ := ⟨hP, va_S.rf⟩
  have hl := lv_entry ([.ref (G.1 136), .int (gI a1), .int (gI a2), .int (gI a3)]) (n := 5) (Nat.le_of_ble_eq_true rfl)
  rw [lg_entry_eq]
  generalize (lg_sl ([.ref (G.1 136), .int (gI a1), .int (gI a2), .int (gI a3)]) ++ List.replicate (5 - (lg_sl ([.ref (G.1 136), .int (gI a1), .int (gI a2), .int (gI a3)])).length) Slot.unset).toArray = ls at hl ⊢
  have hl : lv_has ls 5 [(0, .ref (G.1 136)), (1, .int (gI a1)), (2, .int (gI a2)), (3, .int (gI a3))] := hl
  unfold DX9_move at h
  refine lv_aload_n hx hb0 dX9_move_0 rfl (lv_at hl 0 rfl) ?_
  refine lv_iload_n hx hb0 dX9_move_1 rfl (lv_at hl 1 rfl) ?_
  obtain ⟨q2, e2, h⟩ := gBind_some h
  refine g_callVi (k := 136) (T := TX9) (N := 19) (As := [.int (gI a1)]) (rest := []) ⟨hx, hb0, hml, hown, hts⟩ (metX9_isTask l D G σ μ a1 q2 e2) (g_cwV (C := RX9) 1 hts q_ml_X9_82 q_im_X9_isTask q_se_X9_isTask q_in_X9 q_co_X9_isTask ⟨rfl, rfl⟩ (by decide +kernel) ⟨Nat.le_of_ble_eq_true rfl, Nat.le_of_ble_eq_true rfl⟩) hX hH (rfl : gKinds[136]? = _) rfl rfl hl.1 rfl (Nat.le_of_ble_eq_true rfl) dX9_move_2 ⟨Nat.zero_le _, Nat.zero_le _⟩ (fun H locs hH => ?_)
  refine g_if_ne (tgt := 14) hx hb0 dX9_move_5 (by decide) h (fun h => ?_) (fun h => ?_)
  · refine lv_iload_n hx hb0 dX9_move_14 rfl (lv_at hl 2 rfl) ?_
    refine lv_iload_n hx hb0 dX9_move_15 rfl (lv_at hl 3 rfl) ?_
    obtain ⟨q16, e16, h⟩ := gBind_some h
    refine g_callSi (As := [.int (gI a2), .int (gI a3)]) (rest := []) ⟨hx, hb0, hml, hown, hts⟩ (metX9_isBar l D G σ μ a2 a3 q16 e16) (g_cwS 2 hts q_ml_X9_75 q_st_X9_isBar q_in_X9 q_co_X9_isBar ⟨rfl, rfl⟩ (by decide +kernel) ⟨Nat.le_of_ble_eq_true rfl, Nat.le_of_ble_eq_true rfl⟩) hX hH rfl hl.1 rfl (Nat.le_of_ble_eq_true rfl) dX9_move_16 ⟨Nat.zero_le _, Nat.zero_le _⟩ (fun H locs hH => ?_)
    refine g_if_ne (tgt := 28) hx hb0 dX9_move_19 (by decide) h (fun h => ?_) (fun h => ?_)
    · refine lv_aload_n hx hb0 dX9_move_28 rfl (lv_at hl 0 rfl) ?_
      obtain ⟨q29, e29, h⟩ := gBind_some h
      refine g_callVv (k := 136) (T := TX9) (N := 19) (As := []) (rest := []) ⟨hx, hb0, hml, hown, hts⟩ (metX9_hold l D G σ μ q29 e29) (g_cwV (C := RX9) 0 hts q_ml_X9_66 q_im_X9_hold q_se_X9_hold q_in_X9 q_co_X9_hold ⟨rfl, rfl⟩ (by decide +kernel) ⟨Nat.le_of_ble_eq_true rfl, Nat.le_of_ble_eq_true rfl⟩) hX hH (rfl : gKinds[136]? = _) rfl rfl hl.1 rfl (Nat.le_of_ble_eq_true rfl) dX9_move_29 ⟨Nat.zero_le _, Nat.zero_le _⟩ (fun H locs hH => ?_)
      refine lv_aload_n hx hb0 dX9_move_32 rfl (lv_at hl 0 rfl) ?_
      refine lv_iload_n hx hb0 dX9_move_33 rfl (lv_at hl 1 rfl) ?_
      refine lv_iconst (v := gI (1 : Int)) hx hb0 dX9_move_34 (by decide) ?_
      obtain ⟨q35, e35, h⟩ := gBind_some h
      refine g_callVi (k := 136) (T := TX9) (N := 19) (As := [.int (gI a1), .int (gI (1 : Int))]) (rest := []) ⟨hx, hb0, hml, hown, hts⟩ (metX9_of l D G q29 μ a1 (1 : Int) q35 e35) (g_cwV (C := RX9) 2 hts q_ml_X9_55 q_im_X9_of q_se_X9_of q_in_X9 q_co_X9_of ⟨rfl, rfl⟩ (by decide +kernel) ⟨Nat.le_of_ble_eq_true rfl, Nat.le_of_ble_eq_true rfl⟩) hX hH (rfl : gKinds[136]? = _) rfl rfl hl.1 rfl (Nat.le_of_ble_eq_true rfl) dX9_move_35 ⟨Nat.zero_le _, Nat.zero_le _⟩ (fun H locs hH => ?_)
      refine lv_istore (lv' := [(4, .int (gI q35)), (0, .ref (G.1 136)), (1, .int (gI a1)), (2, .int (gI a2)), (3, .int (gI a3))]) hx hb0 dX9_move_38 hl (by decide) rfl (fun ls hl => ?_)
      refine lv_aload_n hx hb0 dX9_move_40 rfl (lv_at hl 1 rfl) ?_
      refine g_getR hx hb0 hts q_ws_X9 hown hX hH (C := RX9) (T := TX9) (N := 19) (k := 136) (i := 0) (j := 137) (rfl : gKinds[136]? = _) rfl (by decide) (hts _ q_fl_X9_7) rfl rfl dX9_move_41 ?_
      refine lv_iconst (v := gI (5 : Int)) hx hb0 dX9_move_44 (by decide) ?_
      refine lv_iconst (v := gI (3 : Int)) hx hb0 dX9_move_45 (by decide) ?_
      refine lv_iload_n hx hb0 dX9_move_46 rfl (lv_at hl 2 rfl) ?_
      refine g_imul hx hb0 dX9_move_47 ?_
      refine g_iadd hx hb0 dX9_move_48 ?_
      refine lv_iconst (v := gI (1 : Int)) hx hb0 dX9_move_49 (by decide) ?_
      refine g_iadd hx hb0 dX9_move_50 ?_
      refine lv_iload_n hx hb0 dX9_move_51 rfl (lv_at hl 3 rfl) ?_
      refine g_iast hx hb0 hX hH (k := 137) (rfl : gKinds[137]? = _) (by decide) dX9_move_52 h (fun h H locs hH => ?_)
      refine lv_aload_n hx hb0 dX9_move_53 rfl (lv_at hl 1 rfl) ?_
      refine g_getR hx hb0 hts q_ws_X9 hown hX hH (C := RX9) (T := TX9) (N := 19) (k := 136) (i := 0) (j := 137) (rfl : gKinds[136]? = _) rfl (by decide) (hts _ q_fl_X9_7) rfl rfl dX9_move_54 ?_
      refine lv_iconst (v := gI (5 : Int)) hx hb0 dX9_move_57 (by decide) ?_
      refine lv_iconst (v := gI (3 : Int)) hx hb0 dX9_move_58 (by decide) ?_
      refine lv_iload_n hx hb0 dX9_move_59 rfl (lv_at hl 2 rfl) ?_
      refine g_imul hx hb0 dX9_move_60 ?_
      refine g_iadd hx hb0 dX9_move_61 ?_
      refine lv_iconst (v := gI (2 : Int)) hx hb0 dX9_move_62 (by decide) ?_
      refine g_iadd hx hb0 dX9_move_63 ?_
      refine lv_iload_n hx hb0 dX9_move_64 rfl (lv_at hl 4 rfl) ?_
      refine g_iast hx hb0 hX hH (k := 137) (rfl : gKinds[137]? = _) (by decide) dX9_move_65 h (fun h H locs hH => ?_)
      refine lv_aload_n hx hb0 dX9_move_66 rfl (lv_at hl 1 rfl) ?_
      refine lv_iload hx hb0 dX9_move_67 (lv_at hl 0 rfl) ?_
      obtain ⟨q69, e69, h⟩ := gBind_some h
      refine g_callVi (k := 136) (T := TX9) (N := 19) (As := [.int (gI q35)]) (rest := []) ⟨hx, hb0, hml, hown, hts⟩ (metX9_ends l D G (gUp (gUp q29 137 (Int.toNat (((5 : Int) + ((3 : Int) * a1)) + (1 : Int))) a2) 137 (Int.toNat (((5 : Int) + ((3 : Int) * a1)) + (2 : Int))) a3) μ q35 q69.1 q69.2 e69) (g_cwV (C := RX9) 1 hts q_ml_X9_69 q_im_X9_ends q_se_X9_ends q_in_X9 q_co_X9_ends ⟨rfl, rfl⟩ (by decide +kernel) ⟨Nat.le_of_ble_eq_true rfl, Nat.le_of_ble_eq_true rfl⟩) hX hH (rfl : gKinds[136]? = _) rfl rfl hl.1 rfl (Nat.le_of_ble_eq_true rfl) dX9_move_69 ⟨Nat.zero_le _, Nat.zero_le _⟩ (fun H locs hH => ?_)
      exact g_iretS hx hb0 hr hH hlocks dX9_move_72 h
    · refine lv_aload_n hx hb0 dX9_move_22 rfl (lv_at hl 0 rfl) ?_
      refine lv_iconst (v := gI (2 : Int)) hx hb0 dX9_move_23 (by decide) ?_
      obtain ⟨q24, e24, h⟩ := gBind_some h
      refine g_callVi (k := 136) (T := TX9) (N := 19) (As := [.int (gI (2 : Int))]) (rest := []) ⟨hx, hb0, hml, hown, hts⟩ (metX9_fails l D G σ μ (2 : Int) q24.1 q24.2 e24) (g_cwV (C := RX9) 1 hts q_ml_X9_63 q_im_X9_fails q_se_X9_fails q_in_X9 q_co_X9_fails ⟨rfl, rfl⟩ (by decide +kernel) ⟨Nat.le_of_ble_eq_true rfl, Nat.le_of_ble_eq_true rfl⟩) hX hH (rfl : gKinds[136]? = _) rfl rfl hl.1 rfl (Nat.le_of_ble_eq_true rfl) dX9_move_24 ⟨Nat.zero_le _, Nat.zero_le _⟩ (fun H locs hH => ?_)
      exact g_iretS hx hb0 hr hH hlocks dX9_move_27 h
  · refine lv_aload_n hx hb0 dX9_move_8 rfl (lv_at hl 0 rfl) ?_
    refine lv_iconst (v := gI (1 : Int)) hx hb0 dX9_move_9 (by decide) ?_
    obtain ⟨q10, e10, h⟩ := gBind_some h
    refine g_callVi (k := 136) (T := TX9) (N := 19) (As := [.int (gI (1 : Int))]) (rest := []) ⟨hx, hb0, hml, hown, hts⟩ (metX9_fails l D G σ μ (1 : Int) q10.1 q10.2 e10) (g_cwV (C := RX9) 1 hts q_ml_X9_63 q_im_X9_fails q_se_X9_fails q_in_X9 q_co_X9_fails ⟨rfl, rfl⟩ (by decide +kernel) ⟨Nat.le_of_ble_eq_true rfl, Nat.le_of_ble_eq_true rfl⟩) hX hH (rfl : gKinds[136]? = _) rfl rfl hl.1 rfl (Nat.le_of_ble_eq_true rfl) dX9_move_10 ⟨Nat.zero_le _, Nat.zero_le _⟩ (fun H locs hH => ?_)
    exact g_iretS hx hb0 hr hH hlocks dX9_move_13 h
def DX9_arrowGoes_L18 : Nat → Int → gSt → Option (gSt)
  | 0, _, _ => none
  | f18 + 1, x2_18, σ18 => gAt (77 : Int) 138 (gIf (x2_18 < ((78 : Int) + ((2 : Int) * (σ18 137 (Int.toNat (77 : Int)))))) x2_18 ((78 : Int) + ((2 : Int) * (σ18 137 (Int.toNat (77 : Int))))) (gAt (x2_18 + (2 : Int)) 138 (gAt x2_18 138 (((DX9_arrowGoes_L18 f18) (x2_18 + (1 : Int)) (gUp σ18 137 (Int.toNat x2_18) (σ18 137 (Int.toNat (x2_18 + (2 : Int))))))))) (some σ18))
def DX9_arrowGoes (σ : gSt) (a1 : Int) : Option (gSt) :=
  gAt (77 : Int) 138 (gAt (77 : Int) 138 ((DX9_arrowGoes_L18 gFuel ((78 : Int) + ((2 : Int) * a1)) (gUp σ 137 (Int.toNat (77 : Int)) ((σ 137 (Int.toNat (77 : Int))) - (1 : Int))))))
set_option maxHeartbeats 4000000 in
set_option maxRecDepth 100000 in
theorem metX9_arrowGoes (l : Launch) (D : va_G) (G : gAd) (σ : gSt) (μ : gLg) (a1 : Int) (σ' : gSt) (h : DX9_arrowGoes σ a1 = some σ') : Met l yX9_arrowGoes (gWs yX9_arrowGoes cX9_arrowGoes 3 none) ({ frames := 0, cells := 0, slots := 0, locals := 0 } : Room) (gPc D G [.ref (G.1 136), .int (gI a1)] σ μ) (gQv D G σ' μ) 0 0 (gA G) := by
  refine Met.ofW (cc := cX9_arrowGoes) (maxL := 3) (ret := none) (by decide) rfl ?_
  intro p e s m args below meth c s₁ B hml hv
  obtain ⟨rfl, hP, hX⟩ := hv
  have hx := B.exec
  have hb0 := B.bytes
  have hr := B.returns
  have hts0 := atoms_spec (ws := (gWs yX9_arrowGoes cX9_arrowGoes 3 none)) B.pre
  have hts : ∀ w ∈ gLW, w.before _ s = true := fun w hw => hts0 w (List.mem_cons_of_mem _ hw)
  have hown : s.vm.findClass RX9 = some m.cls := findClass_of_methodNamed B.named
  have hlocks := B.notSynchronized
  have hH : gH D G s s.heap [] σ μ := ⟨hP, va_S.rf⟩
  have hl := lv_entry ([.ref (G.1 136), .int (gI a1)]) (n := 3) (Nat.le_of_ble_eq_true rfl)
  rw [lg_entry_eq]
  generalize (lg_sl ([.ref (G.1 136), .int (gI a1)]) ++ List.replicate (3 - (lg_sl ([.ref (G.1 136), .int (gI a1)])).length) Slot.unset).toArray = ls at hl ⊢
  have hl : lv_has ls 3 [(0, .ref (G.1 136)), (1, .int (gI a1))] := hl
  unfold DX9_arrowGoes at h
  refine lv_aload_n hx hb0 dX9_arrowGoes_0 rfl (lv_at hl 0 rfl) ?_
  refine g_getR hx hb0 hts q_ws_X9 hown hX hH (C := RX9) (T := TX9) (N := 19) (k := 136) (i := 0) (j := 137) (rfl : gKinds[136]? = _) rfl (by decide) (hts _ q_fl_X9_7) rfl rfl dX9_arrowGoes_1 ?_
  refine lv_bipush (v := gI (77 : Int)) hx hb0 dX9_arrowGoes_4 (by decide) ?_
  refine lv_dup2_11 hx hb0 dX9_arrowGoes_6 rfl rfl ?_
  refine g_iald hx hb0 hX hH (k := 137) (rfl : gKinds[137]? = _) (by decide) dX9_arrowGoes_7 h (fun h => ?_)
  refine lv_iconst (v := gI (1 : Int)) hx hb0 dX9_arrowGoes_8 (by decide) ?_
  refine g_isub hx hb0 dX9_arrowGoes_9 ?_
  refine g_iast hx hb0 hX hH (k := 137) (rfl : gKinds[137]? = _) (by decide) dX9_arrowGoes_10 h (fun h H locs hH => ?_)
  refine lv_bipush (v := gI (78 : Int)) hx hb0 dX9_arrowGoes_11 (by decide) ?_
  refine lv_iconst (v := gI (2 : Int)) hx hb0 dX9_arrowGoes_13 (by decide) ?_
  refine lv_iload_n hx hb0 dX9_arrowGoes_14 rfl (lv_at hl 1 rfl) ?_
  refine g_imul hx hb0 dX9_arrowGoes_15 ?_
  refine g_iadd hx hb0 dX9_arrowGoes_16 ?_
  refine lv_istore_n (lv' := [(2, .int (gI ((78 : Int) + ((2 : Int) * a1)))), (0, .ref (G.1 136)), (1, .int (gI a1))]) hx hb0 dX9_arrowGoes_17 rfl hl (by decide) rfl (fun ls hl => ?_)
  have hL18 : ∀ (f18 : Nat) (x2_18 : Int) (σ18 : gSt) (H : Heap) (locs : List Loc) (ls : Array Slot), gH D G s H locs σ18 μ → lv_has ls 3 [(2, .int (gI x2_18)), (0, .ref (G.1 136))] → (DX9_arrowGoes_L18 f18 x2_18 σ18) = some σ' → W p l e (headSpec (gWs yX9_arrowGoes cX9_arrowGoes 3 none) ({ frames := 0, cells := 0, slots := 0, locals := 0 } : Room)).room s m ([.ref (G.1 136), .int (gI a1)] : List Value).toArray below meth c H locs 0 0 (MQ below (gQv D G σ' μ) ([.ref (G.1 136), .int (gI a1)] : List Value).toArray s 0 0 (gA G)) (F0 m 18 ls []) := by
    intro f18
    induction f18 with
    | zero => intro x2_18 σ18 H locs ls hH hl h; cases h
    | succ f18 ih18 =>
      intro x2_18 σ18 H locs ls hH hl h
      unfold DX9_arrowGoes_L18 at h
      refine lv_iload_n hx hb0 dX9_arrowGoes_18 rfl (lv_at hl 0 rfl) ?_
      refine lv_bipush (v := gI (78 : Int)) hx hb0 dX9_arrowGoes_19 (by decide) ?_
      refine lv_iconst (v := gI (2 : Int)) hx hb0 dX9_arrowGoes_21 (by decide) ?_
      refine lv_aload_n hx hb0 dX9_arrowGoes_22 rfl (lv_at hl 1 rfl) ?_
      refine g_getR hx hb0 hts q_ws_X9 hown hX hH (C := RX9) (T := TX9) (N := 19) (k := 136) (i := 0) (j := 137) (rfl : gKinds[136]? = _) rfl (by decide) (hts _ q_fl_X9_7) rfl rfl dX9_arrowGoes_23 ?_
      refine lv_bipush (v := gI (77 : Int)) hx hb0 dX9_arrowGoes_26 (by decide) ?_
      refine g_iald hx hb0 hX hH (k := 137) (rfl : gKinds[137]? = _) (by decide) dX9_arrowGoes_28 h (fun h => ?_)
      refine g_imul hx hb0 dX9_arrowGoes_29 ?_
      refine g_iadd hx hb0 dX9_arrowGoes_30 ?_
      refine g_icmp_ge (tgt := 54) hx hb0 dX9_arrowGoes_31 (by decide) h (fun h => ?_) (fun h => ?_)
      · exact g_vretS hx hb0 hr hH hlocks dX9_arrowGoes_54 h
      · refine lv_aload_n hx hb0 dX9_arrowGoes_34 rfl (lv_at hl 1 rfl) ?_
        refine g_getR hx hb0 hts q_ws_X9 hown hX hH (C := RX9) (T := TX9) (N := 19) (k := 136) (i := 0) (j := 137) (rfl : gKinds[136]? = _) rfl (by decide) (hts _ q_fl_X9_7) rfl rfl dX9_arrowGoes_35 ?_
        refine lv_iload_n hx hb0 dX9_arrowGoes_38 rfl (lv_at hl 0 rfl) ?_
        refine lv_aload_n hx hb0 dX9_arrowGoes_39 rfl (lv_at hl 1 rfl) ?_
        refine g_getR hx hb0 hts q_ws_X9 hown hX hH (C := RX9) (T := TX9) (N := 19) (k := 136) (i := 0) (j := 137) (rfl : gKinds[136]? = _) rfl (by decide) (hts _ q_fl_X9_7) rfl rfl dX9_arrowGoes_40 ?_
        refine lv_iload_n hx hb0 dX9_arrowGoes_43 rfl (lv_at hl 0 rfl) ?_
        refine lv_iconst (v := gI (2 : Int)) hx hb0 dX9_arrowGoes_44 (by decide) ?_
        refine g_iadd hx hb0 dX9_arrowGoes_45 ?_
        refine g_iald hx hb0 hX hH (k := 137) (rfl : gKinds[137]? = _) (by decide) dX9_arrowGoes_46 h (fun h => ?_)
        refine g_iast hx hb0 hX hH (k := 137) (rfl : gKinds[137]? = _) (by decide) dX9_arrowGoes_47 h (fun h H locs hH => ?_)
        refine g_iinc (k := 0) (n := (1 : Int)) (lv' := [(2, .int (gI (x2_18 + (1 : Int)))), (0, .ref (G.1 136))]) hx hb0 dX9_arrowGoes_48 hl rfl (by decide) rfl (fun ls hl => ?_)
        refine lv_goto (tgt := 18) hx hb0 dX9_arrowGoes_51 (by decide) ?_
        exact ih18 _ _ _ _ _ hH (lv_sub hl [0, 1] rfl) h
  exact hL18 gFuel _ _ _ _ _ hH (lv_sub hl [0, 1] rfl) h
def DX9_removeTask_K167 (x2_68 : Int) (σ167 : gSt) : Option (Int × gSt) :=
  (DX9_ends σ167 x2_68).bind fun q169 => some (q169.1, q169.2)
def DX9_removeTask_L133 (K167 : gSt → Option (Int × gSt)) : Nat → Int → gSt → Option (Int × gSt)
  | 0, _, _ => none
  | f133 + 1, x3_133, σ133 => gAt (4 : Int) 138 (gIf (x3_133 < ((5 : Int) + ((3 : Int) * (σ133 137 (Int.toNat (4 : Int)))))) x3_133 ((5 : Int) + ((3 : Int) * (σ133 137 (Int.toNat (4 : Int))))) (gAt (x3_133 + (3 : Int)) 138 (gAt x3_133 138 (((DX9_removeTask_L133 K167 f133) (x3_133 + (1 : Int)) (gUp σ133 137 (Int.toNat x3_133) (σ133 137 (Int.toNat (x3_133 + (3 : Int))))))))) ((K167 σ133)))
def DX9_removeTask_K117 (a1 : Int) (x2_68 : Int) (σ117 : gSt) : Option (Int × gSt) :=
  gAt (4 : Int) 138 (gAt (4 : Int) 138 ((DX9_removeTask_L133 (DX9_removeTask_K167 x2_68) gFuel ((5 : Int) + ((3 : Int) * a1)) (gUp σ117 137 (Int.toNat (4 : Int)) ((σ117 137 (Int.toNat (4 : Int))) - (1 : Int))))))
def DX9_removeTask_J109 (R71 : Int → gSt → Option (Int × gSt)) (x3_71 : Int) (σ71 : gSt) (t0_109 : Int) : Option (Int × gSt) :=
  gAt x3_71 138 ((R71 (x3_71 + (1 : Int)) (gUp σ71 137 (Int.toNat x3_71) ((σ71 137 (Int.toNat x3_71)) - t0_109))))
def DX9_removeTask_L71 (K117 : gSt → Option (Int × gSt)) (a1 : Int) : Nat → Int → gSt → Option (Int × gSt)
  | 0, _, _ => none
  | f71 + 1, x3_71, σ71 => gAt (77 : Int) 138 (gIf (x3_71 < ((78 : Int) + ((2 : Int) * (σ71 137 (Int.toNat (77 : Int)))))) x3_71 ((78 : Int) + ((2 : Int) * (σ71 137 (Int.toNat (77 : Int))))) (gAt x3_71 138 (gAt x3_71 138 (gIf (a1 < (σ71 137 (Int.toNat x3_71))) (σ71 137 (Int.toNat x3_71)) a1 ((DX9_removeTask_J109 (DX9_removeTask_L71 K117 a1 f71) x3_71 σ71 (1 : Int))) ((DX9_removeTask_J109 (DX9_removeTask_L71 K117 a1 f71) x3_71 σ71 (0 : Int)))))) ((K117 σ71)))
def DX9_removeTask_K68 (a1 : Int) (x2_68 : Int) (σ68 : gSt) : Option (Int × gSt) :=
  (DX9_removeTask_L71 (DX9_removeTask_K117 a1 x2_68) a1 gFuel (78 : Int) σ68)
def DX9_removeTask_J62 (R30 : Int → Int → gSt → Option (Int × gSt)) (x3_30 : Int) (x2_62 : Int) (σ62 : gSt) : Option (Int × gSt) :=
  (R30 (x3_30 + (-1 : Int)) x2_62 σ62)
def DX9_removeTask_J54 (R30 : Int → Int → gSt → Option (Int × gSt)) (x3_30 : Int) (x2_30 : Int) (σ30 : gSt) : Option (Int × gSt) :=
  (DX9_arrowGoes σ30 x3_30).bind fun q56 => (DX9_removeTask_J62 R30 x3_30 (x2_30 + (1 : Int)) q56)
def DX9_removeTask_L30 (K68 : Int → gSt → Option (Int × gSt)) (a1 : Int) : Nat → Int → Int → gSt → Option (Int × gSt)
  | 0, _, _, _ => none
  | f30 + 1, x3_30, x2_30, σ30 => gIf (x3_30 < (0 : Int)) x3_30 (0 : Int) ((K68 x2_30 σ30)) ((DX9_end σ30 x3_30 (0 : Int)).bind fun q37 => gIf (q37 = a1) q37 a1 ((DX9_removeTask_J54 (DX9_removeTask_L30 K68 a1 f30) x3_30 x2_30 σ30)) ((DX9_end σ30 x3_30 (1 : Int)).bind fun q47 => gIf (q47 = a1) q47 a1 ((DX9_removeTask_J54 (DX9_removeTask_L30 K68 a1 f30) x3_30 x2_30 σ30)) ((DX9_removeTask_J62 (DX9_removeTask_L30 K68 a1 f30) x3_30 x2_30 σ30))))
def DX9_removeTask (σ : gSt) (a1 : Int) : Option (Int × gSt) :=
  (DX9_isTask σ a1).bind fun q2 => gIf (q2 = (0 : Int)) q2 (0 : Int) ((DX9_fails σ (1 : Int)).bind fun q10 => some (q10.1, q10.2)) ((DX9_hold σ).bind fun q15 => gAt (77 : Int) 138 ((DX9_removeTask_L30 (DX9_removeTask_K68 a1) a1 gFuel ((q15 137 (Int.toNat (77 : Int))) - (1 : Int)) (0 : Int) q15)))
set_option maxHeartbeats 4000000 in
set_option maxRecDepth 100000 in
theorem metX9_removeTask (l : Launch) (D : va_G) (G : gAd) (σ : gSt) (μ : gLg) (a1 : Int) (r : Int) (σ' : gSt) (h : DX9_removeTask σ a1 = some (r, σ')) : Met l yX9_removeTask (gWs yX9_removeTask cX9_removeTask 4 (some (Jvm.ClassFile.FieldType.int))) ({ frames := 2, cells := 0, slots := 0, locals := 43 } : Room) (gPc D G [.ref (G.1 136), .int (gI a1)] σ μ) (gQi D G r σ' μ) 0 0 (gA G) := by
  refine Met.ofW (cc := cX9_removeTask) (maxL := 4) (ret := (some (Jvm.ClassFile.FieldType.int))) (by decide) rfl ?_
  intro p e s m args below meth c s₁ B hml hv
  obtain ⟨rfl, hP, hX⟩ := hv
  have hx := B.exec
  have hb0 := B.bytes
  have hr := B.returns
  have hts0 := atoms_spec (ws := (gWs yX9_removeTask cX9_removeTask 4 (some (Jvm.ClassFile.FieldType.int)))) B.pre
  have hts : ∀ w ∈ gLW, w.before _ s = true := fun w hw => hts0 w (List.mem_cons_of_mem _ hw)
  have hown : s.vm.findClass RX9 = some m.cls := findClass_of_methodNamed B.named
  have hlocks := B.notSynchronized
  have hH : gH D G s s.heap [] σ μ := ⟨hP, va_S.rf⟩
  have hl := lv_entry ([.ref (G.1 136), .int (gI a1)]) (n := 4) (Nat.le_of_ble_eq_true rfl)
  rw [lg_entry_eq]
  generalize (lg_sl ([.ref (G.1 136), .int (gI a1)]) ++ List.replicate (4 - (lg_sl ([.ref (G.1 136), .int (gI a1)])).length) Slot.unset).toArray = ls at hl ⊢
  have hl : lv_has ls 4 [(0, .ref (G.1 136)), (1, .int (gI a1))] := hl
  unfold DX9_removeTask at h
  refine lv_aload_n hx hb0 dX9_removeTask_0 rfl (lv_at hl 0 rfl) ?_
  refine lv_iload_n hx hb0 dX9_removeTask_1 rfl (lv_at hl 1 rfl) ?_
  obtain ⟨q2, e2, h⟩ := gBind_some h
  refine g_callVi (k := 136) (T := TX9) (N := 19) (As := [.int (gI a1)]) (rest := []) ⟨hx, hb0, hml, hown, hts⟩ (metX9_isTask l D G σ μ a1 q2 e2) (g_cwV (C := RX9) 1 hts q_ml_X9_82 q_im_X9_isTask q_se_X9_isTask q_in_X9 q_co_X9_isTask ⟨rfl, rfl⟩ (by decide +kernel) ⟨Nat.le_of_ble_eq_true rfl, Nat.le_of_ble_eq_true rfl⟩) hX hH (rfl : gKinds[136]? = _) rfl rfl hl.1 rfl (Nat.le_of_ble_eq_true rfl) dX9_removeTask_2 ⟨Nat.zero_le _, Nat.zero_le _⟩ (fun H locs hH => ?_)
  refine g_if_ne (tgt := 14) hx hb0 dX9_removeTask_5 (by decide) h (fun h => ?_) (fun h => ?_)
  · refine lv_aload_n hx hb0 dX9_removeTask_14 rfl (lv_at hl 0 rfl) ?_
    obtain ⟨q15, e15, h⟩ := gBind_some h
    refine g_callVv (k := 136) (T := TX9) (N := 19) (As := []) (rest := []) ⟨hx, hb0, hml, hown, hts⟩ (metX9_hold l D G σ μ q15 e15) (g_cwV (C := RX9) 0 hts q_ml_X9_66 q_im_X9_hold q_se_X9_hold q_in_X9 q_co_X9_hold ⟨rfl, rfl⟩ (by decide +kernel) ⟨Nat.le_of_ble_eq_true rfl, Nat.le_of_ble_eq_true rfl⟩) hX hH (rfl : gKinds[136]? = _) rfl rfl hl.1 rfl (Nat.le_of_ble_eq_true rfl) dX9_removeTask_15 ⟨Nat.zero_le _, Nat.zero_le _⟩ (fun H locs hH => ?_)
    refine lv_iconst (v := gI (0 : Int)) hx hb0 dX9_removeTask_18 (by decide) ?_
    refine lv_istore_n (lv' := [(2, .int (gI (0 : Int))), (0, .ref (G.1 136)), (1, .int (gI a1))]) hx hb0 dX9_removeTask_19 rfl hl (by decide) rfl (fun ls hl => ?_)
    refine lv_aload_n hx hb0 dX9_removeTask_20 rfl (lv_at hl 1 rfl) ?_
    refine g_getR hx hb0 hts q_ws_X9 hown hX hH (C := RX9) (T := TX9) (N := 19) (k := 136) (i := 0) (j := 137) (rfl : gKinds[136]? = _) rfl (by decide) (hts _ q_fl_X9_7) rfl rfl dX9_removeTask_21 ?_
    refine lv_bipush (v := gI (77 : Int)) hx hb0 dX9_removeTask_24 (by decide) ?_
    refine g_iald hx hb0 hX hH (k := 137) (rfl : gKinds[137]? = _) (by decide) dX9_removeTask_26 h (fun h => ?_)
    refine lv_iconst (v := gI (1 : Int)) hx hb0 dX9_removeTask_27 (by decide) ?_
    refine g_isub hx hb0 dX9_removeTask_28 ?_
    refine lv_istore_n (lv' := [(3, .int (gI ((q15 137 (Int.toNat (77 : Int))) - (1 : Int)))), (2, .int (gI (0 : Int))), (0, .ref (G.1 136)), (1, .int (gI a1))]) hx hb0 dX9_removeTask_29 rfl hl (by decide) rfl (fun ls hl => ?_)
    have hK68 : ∀ (x2_68 : Int) (σ68 : gSt) (H : Heap) (locs : List Loc) (ls : Array Slot), gH D G s H locs σ68 μ → lv_has ls 4 [(2, .int (gI x2_68)), (0, .ref (G.1 136)), (1, .int (gI a1))] → (DX9_removeTask_K68 a1 x2_68 σ68) = some (r, σ') → W p l e (headSpec (gWs yX9_removeTask cX9_removeTask 4 (some (Jvm.ClassFile.FieldType.int))) ({ frames := 2, cells := 0, slots := 0, locals := 43 } : Room)).room s m ([.ref (G.1 136), .int (gI a1)] : List Value).toArray below meth c H locs 0 0 (MQ below (gQi D G r σ' μ) ([.ref (G.1 136), .int (gI a1)] : List Value).toArray s 0 0 (gA G)) (F0 m 68 ls []) := by
      intro x2_68 σ68 H locs ls hH hl h
      unfold DX9_removeTask_K68 at h
      refine lv_bipush (v := gI (78 : Int)) hx hb0 dX9_removeTask_68 (by decide) ?_
      refine lv_istore_n (lv' := [(3, .int (gI (78 : Int))), (2, .int (gI x2_68)), (0, .ref (G.1 136)), (1, .int (gI a1))]) hx hb0 dX9_removeTask_70 rfl hl (by decide) rfl (fun ls hl => ?_)
      have hK117 : ∀ (σ117 : gSt) (H : Heap) (locs : List Loc) (ls : Array Slot), gH D G s H locs σ117 μ → lv_has ls 4 [(2, .int (gI x2_68)), (0, .ref (G.1 136)), (1, .int (gI a1))] → (DX9_removeTask_K117 a1 x2_68 σ117) = some (r, σ') → W p l e (headSpec (gWs yX9_removeTask cX9_removeTask 4 (some (Jvm.ClassFile.FieldType.int))) ({ frames := 2, cells := 0, slots := 0, locals := 43 } : Room)).room s m ([.ref (G.1 136), .int (gI a1)] : List Value).toArray below meth c H locs 0 0 (MQ below (gQi D G r σ' μ) ([.ref (G.1 136), .int (gI a1)] : List Value).toArray s 0 0 (gA G)) (F0 m 117 ls []) := by
        intro σ117 H locs ls hH hl h
        unfold DX9_removeTask_K117 at h
        refine lv_aload_n hx hb0 dX9_removeTask_117 rfl (lv_at hl 1 rfl) ?_
        refine g_getR hx hb0 hts q_ws_X9 hown hX hH (C := RX9) (T := TX9) (N := 19) (k := 136) (i := 0) (j := 137) (rfl : gKinds[136]? = _) rfl (by decide) (hts _ q_fl_X9_7) rfl rfl dX9_removeTask_118 ?_
        refine lv_iconst (v := gI (4 : Int)) hx hb0 dX9_removeTask_121 (by decide) ?_
        refine lv_dup2_11 hx hb0 dX9_removeTask_122 rfl rfl ?_
        refine g_iald hx hb0 hX hH (k := 137) (rfl : gKinds[137]? = _) (by decide) dX9_removeTask_123 h (fun h => ?_)
        refine lv_iconst (v := gI (1 : Int)) hx hb0 dX9_removeTask_124 (by decide) ?_
        refine g_isub hx hb0 dX9_removeTask_125 ?_
        refine g_iast hx hb0 hX hH (k := 137) (rfl : gKinds[137]? = _) (by decide) dX9_removeTask_126 h (fun h H locs hH => ?_)
        refine lv_iconst (v := gI (5 : Int)) hx hb0 dX9_removeTask_127 (by decide) ?_
        refine lv_iconst (v := gI (3 : Int)) hx hb0 dX9_removeTask_128 (by decide) ?_
        refine lv_iload_n hx hb0 dX9_removeTask_129 rfl (lv_at hl 2 rfl) ?_
        refine g_imul hx hb0 dX9_removeTask_130 ?_
        refine g_iadd hx hb0 dX9_removeTask_131 ?_
        refine lv_istore_n (lv' := [(3, .int (gI ((5 : Int) + ((3 : Int) * a1)))), (2, .int (gI x2_68)), (0, .ref (G.1 136)), (1, .int (gI a1))]) hx hb0 dX9_removeTask_132 rfl hl (by decide) rfl (fun ls hl => ?_)
        have hK167 : ∀ (σ167 : gSt) (H : Heap) (locs : List Loc) (ls : Array Slot), gH D G s H locs σ167 μ → lv_has ls 4 [(2, .int (gI x2_68)), (0, .ref (G.1 136))] → (DX9_removeTask_K167 x2_68 σ167) = some (r, σ') → W p l e (headSpec (gWs yX9_removeTask cX9_removeTask 4 (some (Jvm.ClassFile.FieldType.int))) ({ frames := 2, cells := 0, slots := 0, locals := 43 } : Room)).room s m ([.ref (G.1 136), .int (gI a1)] : List Value).toArray below meth c H locs 0 0 (MQ below (gQi D G r σ' μ) ([.ref (G.1 136), .int (gI a1)] : List Value).toArray s 0 0 (gA G)) (F0 m 167 ls []) := by
          intro σ167 H locs ls hH hl h
          unfold DX9_removeTask_K167 at h
          refine lv_aload_n hx hb0 dX9_removeTask_167 rfl (lv_at hl 1 rfl) ?_
          refine lv_iload_n hx hb0 dX9_removeTask_168 rfl (lv_at hl 0 rfl) ?_
          obtain ⟨q169, e169, h⟩ := gBind_some h
          refine g_callVi (k := 136) (T := TX9) (N := 19) (As := [.int (gI x2_68)]) (rest := []) ⟨hx, hb0, hml, hown, hts⟩ (metX9_ends l D G σ167 μ x2_68 q169.1 q169.2 e169) (g_cwV (C := RX9) 1 hts q_ml_X9_69 q_im_X9_ends q_se_X9_ends q_in_X9 q_co_X9_ends ⟨rfl, rfl⟩ (by decide +kernel) ⟨Nat.le_of_ble_eq_true rfl, Nat.le_of_ble_eq_true rfl⟩) hX hH (rfl : gKinds[136]? = _) rfl rfl hl.1 rfl (Nat.le_of_ble_eq_true rfl) dX9_removeTask_169 ⟨Nat.zero_le _, Nat.zero_le _⟩ (fun H locs hH => ?_)
          exact g_iretS hx hb0 hr hH hlocks dX9_removeTask_172 h
        have hL133 : ∀ (f133 : Nat) (x3_133 : Int) (σ133 : gSt) (H : Heap) (locs : List Loc) (ls : Array Slot), gH D G s H locs σ133 μ → lv_has ls 4 [(3, .int (gI x3_133)), (2, .int (gI x2_68)), (0, .ref (G.1 136))] → (DX9_removeTask_L133 (DX9_removeTask_K167 x2_68) f133 x3_133 σ133) = some (r, σ') → W p l e (headSpec (gWs yX9_removeTask cX9_removeTask 4 (some (Jvm.ClassFile.FieldType.int))) ({ frames := 2, cells := 0, slots := 0, locals := 43 } : Room)).room s m ([.ref (G.1 136), .int (gI a1)] : List Value).toArray below meth c H locs 0 0 (MQ below (gQi D G r σ' μ) ([.ref (G.1 136), .int (gI a1)] : List Value).toArray s 0 0 (gA G)) (F0 m 133 ls []) := by
          intro f133
          induction f133 with
          | zero => intro x3_133 σ133 H locs ls hH hl h; cases h
          | succ f133 ih133 =>
            intro x3_133 σ133 H locs ls hH hl h
            unfold DX9_removeTask_L133 at h
            refine lv_iload_n hx hb0 dX9_removeTask_133 rfl (lv_at hl 0 rfl) ?_
            refine lv_iconst (v := gI (5 : Int)) hx hb0 dX9_removeTask_134 (by decide) ?_
            refine lv_iconst (v := gI (3 : Int)) hx hb0 dX9_removeTask_135 (by decide) ?_
            refine lv_aload_n hx hb0 dX9_removeTask_136 rfl (lv_at hl 2 rfl) ?_
            refine g_getR hx hb0 hts q_ws_X9 hown hX hH (C := RX9) (T := TX9) (N := 19) (k := 136) (i := 0) (j := 137) (rfl : gKinds[136]? = _) rfl (by decide) (hts _ q_fl_X9_7) rfl rfl dX9_removeTask_137 ?_
            refine lv_iconst (v := gI (4 : Int)) hx hb0 dX9_removeTask_140 (by decide) ?_
            refine g_iald hx hb0 hX hH (k := 137) (rfl : gKinds[137]? = _) (by decide) dX9_removeTask_141 h (fun h => ?_)
            refine g_imul hx hb0 dX9_removeTask_142 ?_
            refine g_iadd hx hb0 dX9_removeTask_143 ?_
            refine g_icmp_ge (tgt := 167) hx hb0 dX9_removeTask_144 (by decide) h (fun h => ?_) (fun h => ?_)
            · exact hK167 _ _ _ _ hH (lv_sub hl [1, 2] rfl) h
            · refine lv_aload_n hx hb0 dX9_removeTask_147 rfl (lv_at hl 2 rfl) ?_
              refine g_getR hx hb0 hts q_ws_X9 hown hX hH (C := RX9) (T := TX9) (N := 19) (k := 136) (i := 0) (j := 137) (rfl : gKinds[136]? = _) rfl (by decide) (hts _ q_fl_X9_7) rfl rfl dX9_removeTask_148 ?_
              refine lv_iload_n hx hb0 dX9_removeTask_151 rfl (lv_at hl 0 rfl) ?_
              refine lv_aload_n hx hb0 dX9_removeTask_152 rfl (lv_at hl 2 rfl) ?_
              refine g_getR hx hb0 hts q_ws_X9 hown hX hH (C := RX9) (T := TX9) (N := 19) (k := 136) (i := 0) (j := 137) (rfl : gKinds[136]? = _) rfl (by decide) (hts _ q_fl_X9_7) rfl rfl dX9_removeTask_153 ?_
              refine lv_iload_n hx hb0 dX9_removeTask_156 rfl (lv_at hl 0 rfl) ?_
              refine lv_iconst (v := gI (3 : Int)) hx hb0 dX9_removeTask_157 (by decide) ?_
              refine g_iadd hx hb0 dX9_removeTask_158 ?_
              refine g_iald hx hb0 hX hH (k := 137) (rfl : gKinds[137]? = _) (by decide) dX9_removeTask_159 h (fun h => ?_)
              refine g_iast hx hb0 hX hH (k := 137) (rfl : gKinds[137]? = _) (by decide) dX9_removeTask_160 h (fun h H locs hH => ?_)
              refine g_iinc (k := 0) (n := (1 : Int)) (lv' := [(3, .int (gI (x3_133 + (1 : Int)))), (2, .int (gI x2_68)), (0, .ref (G.1 136))]) hx hb0 dX9_removeTask_161 hl rfl (by decide) rfl (fun ls hl => ?_)
              refine lv_goto (tgt := 133) hx hb0 dX9_removeTask_164 (by decide) ?_
              exact ih133 _ _ _ _ _ hH (lv_sub hl [0, 1, 2] rfl) h
        exact hL133 gFuel _ _ _ _ _ hH (lv_sub hl [0, 1, 2] rfl) h
      have hL71 : ∀ (f71 : Nat) (x3_71 : Int) (σ71 : gSt) (H : Heap) (locs : List Loc) (ls : Array Slot), gH D G s H locs σ71 μ → lv_has ls 4 [(3, .int (gI x3_71)), (2, .int (gI x2_68)), (0, .ref (G.1 136)), (1, .int (gI a1))] → (DX9_removeTask_L71 (DX9_removeTask_K117 a1 x2_68) a1 f71 x3_71 σ71) = some (r, σ') → W p l e (headSpec (gWs yX9_removeTask cX9_removeTask 4 (some (Jvm.ClassFile.FieldType.int))) ({ frames := 2, cells := 0, slots := 0, locals := 43 } : Room)).room s m ([.ref (G.1 136), .int (gI a1)] : List Value).toArray below meth c H locs 0 0 (MQ below (gQi D G r σ' μ) ([.ref (G.1 136), .int (gI a1)] : List Value).toArray s 0 0 (gA G)) (F0 m 71 ls []) := by
        intro f71
        induction f71 with
        | zero => intro x3_71 σ71 H locs ls hH hl h; cases h
        | succ f71 ih71 =>
          intro x3_71 σ71 H locs ls hH hl h
          unfold DX9_removeTask_L71 at h
          refine lv_iload_n hx hb0 dX9_removeTask_71 rfl (lv_at hl 0 rfl) ?_
          refine lv_bipush (v := gI (78 : Int)) hx hb0 dX9_removeTask_72 (by decide) ?_
          refine lv_iconst (v := gI (2 : Int)) hx hb0 dX9_removeTask_74 (by decide) ?_
          refine lv_aload_n hx hb0 dX9_removeTask_75 rfl (lv_at hl 2 rfl) ?_
          refine g_getR hx hb0 hts q_ws_X9 hown hX hH (C := RX9) (T := TX9) (N := 19) (k := 136) (i := 0) (j := 137) (rfl : gKinds[136]? = _) rfl (by decide) (hts _ q_fl_X9_7) rfl rfl dX9_removeTask_76 ?_
          refine lv_bipush (v := gI (77 : Int)) hx hb0 dX9_removeTask_79 (by decide) ?_
          refine g_iald hx hb0 hX hH (k := 137) (rfl : gKinds[137]? = _) (by decide) dX9_removeTask_81 h (fun h => ?_)
          refine g_imul hx hb0 dX9_removeTask_82 ?_
          refine g_iadd hx hb0 dX9_removeTask_83 ?_
          refine g_icmp_ge (tgt := 117) hx hb0 dX9_removeTask_84 (by decide) h (fun h => ?_) (fun h => ?_)
          · exact hK117 _ _ _ _ hH (lv_sub hl [1, 2, 3] rfl) h
          · refine lv_aload_n hx hb0 dX9_removeTask_87 rfl (lv_at hl 2 rfl) ?_
            refine g_getR hx hb0 hts q_ws_X9 hown hX hH (C := RX9) (T := TX9) (N := 19) (k := 136) (i := 0) (j := 137) (rfl : gKinds[136]? = _) rfl (by decide) (hts _ q_fl_X9_7) rfl rfl dX9_removeTask_88 ?_
            refine lv_iload_n hx hb0 dX9_removeTask_91 rfl (lv_at hl 0 rfl) ?_
            refine lv_dup2_11 hx hb0 dX9_removeTask_92 rfl rfl ?_
            refine g_iald hx hb0 hX hH (k := 137) (rfl : gKinds[137]? = _) (by decide) dX9_removeTask_93 h (fun h => ?_)
            refine lv_aload_n hx hb0 dX9_removeTask_94 rfl (lv_at hl 2 rfl) ?_
            refine g_getR hx hb0 hts q_ws_X9 hown hX hH (C := RX9) (T := TX9) (N := 19) (k := 136) (i := 0) (j := 137) (rfl : gKinds[136]? = _) rfl (by decide) (hts _ q_fl_X9_7) rfl rfl dX9_removeTask_95 ?_
            refine lv_iload_n hx hb0 dX9_removeTask_98 rfl (lv_at hl 0 rfl) ?_
            refine g_iald hx hb0 hX hH (k := 137) (rfl : gKinds[137]? = _) (by decide) dX9_removeTask_99 h (fun h => ?_)
            refine lv_iload_n hx hb0 dX9_removeTask_100 rfl (lv_at hl 3 rfl) ?_
            have hJ109 : ∀ (t0_109 : Int) (H : Heap) (locs : List Loc) (ls : Array Slot), gH D G s H locs σ71 μ → lv_has ls 4 [(3, .int (gI x3_71)), (2, .int (gI x2_68)), (0, .ref (G.1 136)), (1, .int (gI a1))] → (DX9_removeTask_J109 (DX9_removeTask_L71 (DX9_removeTask_K117 a1 x2_68) a1 f71) x3_71 σ71 t0_109) = some (r, σ') → W p l e (headSpec (gWs yX9_removeTask cX9_removeTask 4 (some (Jvm.ClassFile.FieldType.int))) ({ frames := 2, cells := 0, slots := 0, locals := 43 } : Room)).room s m ([.ref (G.1 136), .int (gI a1)] : List Value).toArray below meth c H locs 0 0 (MQ below (gQi D G r σ' μ) ([.ref (G.1 136), .int (gI a1)] : List Value).toArray s 0 0 (gA G)) (F0 m 109 ls [.int (gI t0_109), .int (gI (σ71 137 (Int.toNat x3_71))), .int (gI x3_71), .ref (G.1 137)]) := by
              intro t0_109 H locs ls hH hl h
              unfold DX9_removeTask_J109 at h
              refine g_isub hx hb0 dX9_removeTask_109 ?_
              refine g_iast hx hb0 hX hH (k := 137) (rfl : gKinds[137]? = _) (by decide) dX9_removeTask_110 h (fun h H locs hH => ?_)
              refine g_iinc (k := 0) (n := (1 : Int)) (lv' := [(3, .int (gI (x3_71 + (1 : Int)))), (2, .int (gI x2_68)), (0, .ref (G.1 136)), (1, .int (gI a1))]) hx hb0 dX9_removeTask_111 hl rfl (by decide) rfl (fun ls hl => ?_)
              refine lv_goto (tgt := 71) hx hb0 dX9_removeTask_114 (by decide) ?_
              exact ih71 _ _ _ _ _ hH (lv_sub hl [0, 1, 2, 3] rfl) h
            refine g_icmp_le (tgt := 108) hx hb0 dX9_removeTask_101 (by decide) h (fun h => ?_) (fun h => ?_)
            · refine lv_iconst (v := gI (0 : Int)) hx hb0 dX9_removeTask_108 (by decide) ?_
              exact hJ109 _ _ _ _ hH (lv_sub hl [0, 1, 2, 3] rfl) h
            · refine lv_iconst (v := gI (1 : Int)) hx hb0 dX9_removeTask_104 (by decide) ?_
              refine lv_goto (tgt := 109) hx hb0 dX9_removeTask_105 (by decide) ?_
              exact hJ109 _ _ _ _ hH (lv_sub hl [0, 1, 2, 3] rfl) h
      exact hL71 gFuel _ _ _ _ _ hH (lv_sub hl [0, 1, 2, 3] rfl) h
    have hL30 : ∀ (f30 : Nat) (x3_30 : Int) (x2_30 : Int) (σ30 : gSt) (H : Heap) (locs : List Loc) (ls : Array Slot), gH D G s H locs σ30 μ → lv_has ls 4 [(3, .int (gI x3_30)), (2, .int (gI x2_30)), (0, .ref (G.1 136)), (1, .int (gI a1))] → (DX9_removeTask_L30 (DX9_removeTask_K68 a1) a1 f30 x3_30 x2_30 σ30) = some (r, σ') → W p l e (headSpec (gWs yX9_removeTask cX9_removeTask 4 (some (Jvm.ClassFile.FieldType.int))) ({ frames := 2, cells := 0, slots := 0, locals := 43 } : Room)).room s m ([.ref (G.1 136), .int (gI a1)] : List Value).toArray below meth c H locs 0 0 (MQ below (gQi D G r σ' μ) ([.ref (G.1 136), .int (gI a1)] : List Value).toArray s 0 0 (gA G)) (F0 m 30 ls []) := by
      intro f30
      induction f30 with
      | zero => intro x3_30 x2_30 σ30 H locs ls hH hl h; cases h
      | succ f30 ih30 =>
        intro x3_30 x2_30 σ30 H locs ls hH hl h
        unfold DX9_removeTask_L30 at h
        refine lv_iload_n hx hb0 dX9_removeTask_30 rfl (lv_at hl 0 rfl) ?_
        refine g_if_lt (tgt := 68) hx hb0 dX9_removeTask_31 (by decide) h (fun h => ?_) (fun h => ?_)
        · exact hK68 _ _ _ _ _ hH (lv_sub hl [1, 2, 3] rfl) h
        · refine lv_aload_n hx hb0 dX9_removeTask_34 rfl (lv_at hl 2 rfl) ?_
          refine lv_iload_n hx hb0 dX9_removeTask_35 rfl (lv_at hl 0 rfl) ?_
          refine lv_iconst (v := gI (0 : Int)) hx hb0 dX9_removeTask_36 (by decide) ?_
          obtain ⟨q37, e37, h⟩ := gBind_some h
          refine g_callVi (k := 136) (T := TX9) (N := 19) (As := [.int (gI x3_30), .int (gI (0 : Int))]) (rest := []) ⟨hx, hb0, hml, hown, hts⟩ (metX9_end l D G σ30 μ x3_30 (0 : Int) q37 e37) (g_cwV (C := RX9) 2 hts q_ml_X9_86 q_im_X9_end q_se_X9_end q_in_X9 q_co_X9_end ⟨rfl, rfl⟩ (by decide +kernel) ⟨Nat.le_of_ble_eq_true rfl, Nat.le_of_ble_eq_true rfl⟩) hX hH (rfl : gKinds[136]? = _) rfl rfl hl.1 rfl (Nat.le_of_ble_eq_true rfl) dX9_removeTask_37 ⟨Nat.zero_le _, Nat.zero_le _⟩ (fun H locs hH => ?_)
          refine lv_iload_n hx hb0 dX9_removeTask_40 rfl (lv_at hl 3 rfl) ?_
          have hJ62 : ∀ (x2_62 : Int) (σ62 : gSt) (H : Heap) (locs : List Loc) (ls : Array Slot), gH D G s H locs σ62 μ → lv_has ls 4 [(3, .int (gI x3_30)), (2, .int (gI x2_62)), (0, .ref (G.1 136)), (1, .int (gI a1))] → (DX9_removeTask_J62 (DX9_removeTask_L30 (DX9_removeTask_K68 a1) a1 f30) x3_30 x2_62 σ62) = some (r, σ') → W p l e (headSpec (gWs yX9_removeTask cX9_removeTask 4 (some (Jvm.ClassFile.FieldType.int))) ({ frames := 2, cells := 0, slots := 0, locals := 43 } : Room)).room s m ([.ref (G.1 136), .int (gI a1)] : List Value).toArray below meth c H locs 0 0 (MQ below (gQi D G r σ' μ) ([.ref (G.1 136), .int (gI a1)] : List Value).toArray s 0 0 (gA G)) (F0 m 62 ls []) := by
            intro x2_62 σ62 H locs ls hH hl h
            unfold DX9_removeTask_J62 at h
            refine g_iinc (k := 0) (n := (-1 : Int)) (lv' := [(3, .int (gI (x3_30 + (-1 : Int)))), (2, .int (gI x2_62)), (0, .ref (G.1 136)), (1, .int (gI a1))]) hx hb0 dX9_removeTask_62 hl rfl (by decide) rfl (fun ls hl => ?_)
            refine lv_goto (tgt := 30) hx hb0 dX9_removeTask_65 (by decide) ?_
            exact ih30 _ _ _ _ _ _ hH (lv_sub hl [0, 1, 2, 3] rfl) h
          have hJ54 : ∀  (H : Heap) (locs : List Loc) (ls : Array Slot), gH D G s H locs σ30 μ → lv_has ls 4 [(3, .int (gI x3_30)), (2, .int (gI x2_30)), (0, .ref (G.1 136)), (1, .int (gI a1))] → (DX9_removeTask_J54 (DX9_removeTask_L30 (DX9_removeTask_K68 a1) a1 f30) x3_30 x2_30 σ30) = some (r, σ') → W p l e (headSpec (gWs yX9_removeTask cX9_removeTask 4 (some (Jvm.ClassFile.FieldType.int))) ({ frames := 2, cells := 0, slots := 0, locals := 43 } : Room)).room s m ([.ref (G.1 136), .int (gI a1)] : List Value).toArray below meth c H locs 0 0 (MQ below (gQi D G r σ' μ) ([.ref (G.1 136), .int (gI a1)] : List Value).toArray s 0 0 (gA G)) (F0 m 54 ls []) := by
            intro H locs ls hH hl h
            unfold DX9_removeTask_J54 at h
            refine lv_aload_n hx hb0 dX9_removeTask_54 rfl (lv_at hl 2 rfl) ?_
            refine lv_iload_n hx hb0 dX9_removeTask_55 rfl (lv_at hl 0 rfl) ?_
            obtain ⟨q56, e56, h⟩ := gBind_some h
            refine g_callVv (k := 136) (T := TX9) (N := 19) (As := [.int (gI x3_30)]) (rest := []) ⟨hx, hb0, hml, hown, hts⟩ (metX9_arrowGoes l D G σ30 μ x3_30 q56 e56) (g_cwV (C := RX9) 1 hts q_ml_X9_89 q_im_X9_arrowGoes q_se_X9_arrowGoes q_in_X9 q_co_X9_arrowGoes ⟨rfl, rfl⟩ (by decide +kernel) ⟨Nat.le_of_ble_eq_true rfl, Nat.le_of_ble_eq_true rfl⟩) hX hH (rfl : gKinds[136]? = _) rfl rfl hl.1 rfl (Nat.le_of_ble_eq_true rfl) dX9_removeTask_56 ⟨Nat.zero_le _, Nat.zero_le _⟩ (fun H locs hH => ?_)
            refine g_iinc (k := 1) (n := (1 : Int)) (lv' := [(2, .int (gI (x2_30 + (1 : Int)))), (3, .int (gI x3_30)), (0, .ref (G.1 136)), (1, .int (gI a1))]) hx hb0 dX9_removeTask_59 hl rfl (by decide) rfl (fun ls hl => ?_)
            exact hJ62 _ _ _ _ _ hH (lv_sub hl [1, 0, 2, 3] rfl) h
          refine g_icmp_eq (tgt := 54) hx hb0 dX9_removeTask_41 (by decide) h (fun h => ?_) (fun h => ?_)
          · exact hJ54  _ _ _ hH (lv_sub hl [0, 1, 2, 3] rfl) h
          · refine lv_aload_n hx hb0 dX9_removeTask_44 rfl (lv_at hl 2 rfl) ?_
            refine lv_iload_n hx hb0 dX9_removeTask_45 rfl (lv_at hl 0 rfl) ?_
            refine lv_iconst (v := gI (1 : Int)) hx hb0 dX9_removeTask_46 (by decide) ?_
            obtain ⟨q47, e47, h⟩ := gBind_some h
            refine g_callVi (k := 136) (T := TX9) (N := 19) (As := [.int (gI x3_30), .int (gI (1 : Int))]) (rest := []) ⟨hx, hb0, hml, hown, hts⟩ (metX9_end l D G σ30 μ x3_30 (1 : Int) q47 e47) (g_cwV (C := RX9) 2 hts q_ml_X9_86 q_im_X9_end q_se_X9_end q_in_X9 q_co_X9_end ⟨rfl, rfl⟩ (by decide +kernel) ⟨Nat.le_of_ble_eq_true rfl, Nat.le_of_ble_eq_true rfl⟩) hX hH (rfl : gKinds[136]? = _) rfl rfl hl.1 rfl (Nat.le_of_ble_eq_true rfl) dX9_removeTask_47 ⟨Nat.zero_le _, Nat.zero_le _⟩ (fun H locs hH => ?_)
            refine lv_iload_n hx hb0 dX9_removeTask_50 rfl (lv_at hl 3 rfl) ?_
            refine g_icmp_ne (tgt := 62) hx hb0 dX9_removeTask_51 (by decide) h (fun h => ?_) (fun h => ?_)
            · exact hJ62 _ _ _ _ _ hH (lv_sub hl [0, 1, 2, 3] rfl) h
            · exact hJ54  _ _ _ hH (lv_sub hl [0, 1, 2, 3] rfl) h
    exact hL30 gFuel _ _ _ _ _ _ hH (lv_sub hl [0, 1, 2, 3] rfl) h
  · refine lv_aload_n hx hb0 dX9_removeTask_8 rfl (lv_at hl 0 rfl) ?_
    refine lv_iconst (v := gI (1 : Int)) hx hb0 dX9_removeTask_9 (by decide) ?_
    obtain ⟨q10, e10, h⟩ := gBind_some h
    refine g_callVi (k := 136) (T := TX9) (N := 19) (As := [.int (gI (1 : Int))]) (rest := []) ⟨hx, hb0, hml, hown, hts⟩ (metX9_fails l D G σ μ (1 : Int) q10.1 q10.2 e10) (g_cwV (C := RX9) 1 hts q_ml_X9_63 q_im_X9_fails q_se_X9_fails q_in_X9 q_co_X9_fails ⟨rfl, rfl⟩ (by decide +kernel) ⟨Nat.le_of_ble_eq_true rfl, Nat.le_of_ble_eq_true rfl⟩) hX hH (rfl : gKinds[136]? = _) rfl rfl hl.1 rfl (Nat.le_of_ble_eq_true rfl) dX9_removeTask_10 ⟨Nat.zero_le _, Nat.zero_le _⟩ (fun H locs hH => ?_)
    exact g_iretS hx hb0 hr hH hlocks dX9_removeTask_13 h
def DX9_hasArrow_J48 (R5 : Int → Int → Option (Int)) (x4_5 : Int) (t0_48 : Int) : Option (Int) :=
  (R5 (x4_5 + (1 : Int)) t0_48)
def DX9_hasArrow_J43 (R5 : Int → Int → Option (Int)) (x4_5 : Int) : Option (Int) :=
  (DX9_hasArrow_J48 R5 x4_5 (1 : Int))
def DX9_hasArrow_J47 (R5 : Int → Int → Option (Int)) (x4_5 : Int) : Option (Int) :=
  (DX9_hasArrow_J48 R5 x4_5 (0 : Int))
def DX9_hasArrow_L5 (σ : gSt) (a1 : Int) (a2 : Int) : Nat → Int → Int → Option (Int)
  | 0, _, _ => none
  | f5 + 1, x4_5, x3_5 => gAt (77 : Int) 138 (gIf (x4_5 < (σ 137 (Int.toNat (77 : Int)))) x4_5 (σ 137 (Int.toNat (77 : Int))) (gIf (x3_5 = (0 : Int)) x3_5 (0 : Int) ((DX9_end σ x4_5 (0 : Int)).bind fun q25 => gIf (q25 = a1) q25 a1 ((DX9_end σ x4_5 (1 : Int)).bind fun q36 => gIf (q36 = a2) q36 a2 ((DX9_hasArrow_J43 (DX9_hasArrow_L5 σ a1 a2 f5) x4_5)) ((DX9_hasArrow_J47 (DX9_hasArrow_L5 σ a1 a2 f5) x4_5))) ((DX9_hasArrow_J47 (DX9_hasArrow_L5 σ a1 a2 f5) x4_5))) ((DX9_hasArrow_J43 (DX9_hasArrow_L5 σ a1 a2 f5) x4_5))) (gBo x3_5 (some x3_5)))
def DX9_hasArrow (σ : gSt) (a1 : Int) (a2 : Int) : Option (Int) :=
  (DX9_hasArrow_L5 σ a1 a2 gFuel (0 : Int) (0 : Int))
set_option maxHeartbeats 4000000 in
set_option maxRecDepth 100000 in
theorem metX9_hasArrow (l : Launch) (D : va_G) (G : gAd) (σ : gSt) (μ : gLg) (a1 : Int) (a2 : Int) (r : Int) (h : DX9_hasArrow σ a1 a2 = some r) : Met l yX9_hasArrow (gWs yX9_hasArrow cX9_hasArrow 5 (some (Jvm.ClassFile.FieldType.boolean))) ({ frames := 1, cells := 0, slots := 0, locals := 22 } : Room) (gPc D G [.ref (G.1 136), .int (gI a1), .int (gI a2)] σ μ) (gQi D G r σ μ) 0 0 (gA G) := by
  refine Met.ofW (cc := cX9_hasArrow) (maxL := 5) (ret := (some (Jvm.ClassFile.FieldType.boolean))) (by decide) rfl ?_
  intro p e s m args below meth c s₁ B hml hv
  obtain ⟨rfl, hP, hX⟩ := hv
  have hx := B.exec
  have hb0 := B.bytes
  have hr := B.returns
  have hts0 := atoms_spec (ws := (gWs yX9_hasArrow cX9_hasArrow 5 (some (Jvm.ClassFile.FieldType.boolean)))) B.pre
  have hts : ∀ w ∈ gLW, w.before _ s = true := fun w hw => hts0 w (List.mem_cons_of_mem _ hw)
  have hown : s.vm.findClass RX9 = some m.cls := findClass_of_methodNamed B.named
  have hlocks := B.notSynchronized
  have hH : gH D G s s.heap [] σ μ := ⟨hP, va_S.rf⟩
  have hl := lv_entry ([.ref (G.1 136), .int (gI a1), .int (gI a2)]) (n := 5) (Nat.le_of_ble_eq_true rfl)
  rw [lg_entry_eq]
  generalize (lg_sl ([.ref (G.1 136), .int (gI a1), .int (gI a2)]) ++ List.replicate (5 - (lg_sl ([.ref (G.1 136), .int (gI a1), .int (gI a2)])).length) Slot.unset).toArray = ls at hl ⊢
  have hl : lv_has ls 5 [(0, .ref (G.1 136)), (1, .int (gI a1)), (2, .int (gI a2))] := hl
  unfold DX9_hasArrow at h
  refine lv_iconst (v := gI (0 : Int)) hx hb0 dX9_hasArrow_0 (by decide) ?_
  refine lv_istore_n (lv' := [(3, .int (gI (0 : Int))), (0, .ref (G.1 136)), (1, .int (gI a1)), (2, .int (gI a2))]) hx hb0 dX9_hasArrow_1 rfl hl (by decide) rfl (fun ls hl => ?_)
  refine lv_iconst (v := gI (0 : Int)) hx hb0 dX9_hasArrow_2 (by decide) ?_
  refine lv_istore (lv' := [(4, .int (gI (0 : Int))), (3, .int (gI (0 : Int))), (0, .ref (G.1 136)), (1, .int (gI a1)), (2, .int (gI a2))]) hx hb0 dX9_hasArrow_3 hl (by decide) rfl (fun ls hl => ?_)
  have hL5 : ∀ (f5 : Nat) (x4_5 : Int) (x3_5 : Int) (H : Heap) (locs : List Loc) (ls : Array Slot), gH D G s H locs σ μ → lv_has ls 5 [(4, .int (gI x4_5)), (3, .int (gI x3_5)), (0, .ref (G.1 136)), (1, .int (gI a1)), (2, .int (gI a2))] → (DX9_hasArrow_L5 σ a1 a2 f5 x4_5 x3_5) = some r → W p l e (headSpec (gWs yX9_hasArrow cX9_hasArrow 5 (some (Jvm.ClassFile.FieldType.boolean))) ({ frames := 1, cells := 0, slots := 0, locals := 22 } : Room)).room s m ([.ref (G.1 136), .int (gI a1), .int (gI a2)] : List Value).toArray below meth c H locs 0 0 (MQ below (gQi D G r σ μ) ([.ref (G.1 136), .int (gI a1), .int (gI a2)] : List Value).toArray s 0 0 (gA G)) (F0 m 5 ls []) := by
    intro f5
    induction f5 with
    | zero => intro x4_5 x3_5 H locs ls hH hl h; cases h
    | succ f5 ih5 =>
      intro x4_5 x3_5 H locs ls hH hl h
      unfold DX9_hasArrow_L5 at h
      refine lv_iload hx hb0 dX9_hasArrow_5 (lv_at hl 0 rfl) ?_
      refine lv_aload_n hx hb0 dX9_hasArrow_7 rfl (lv_at hl 2 rfl) ?_
      refine g_getR hx hb0 hts q_ws_X9 hown hX hH (C := RX9) (T := TX9) (N := 19) (k := 136) (i := 0) (j := 137) (rfl : gKinds[136]? = _) rfl (by decide) (hts _ q_fl_X9_7) rfl rfl dX9_hasArrow_8 ?_
      refine lv_bipush (v := gI (77 : Int)) hx hb0 dX9_hasArrow_11 (by decide) ?_
      refine g_iald hx hb0 hX hH (k := 137) (rfl : gKinds[137]? = _) (by decide) dX9_hasArrow_13 h (fun h => ?_)
      refine g_icmp_ge (tgt := 55) hx hb0 dX9_hasArrow_14 (by decide) h (fun h => ?_) (fun h => ?_)
      · refine lv_iload_n hx hb0 dX9_hasArrow_55 rfl (lv_at hl 1 rfl) ?_
        exact g_zretP hx hb0 hr hH hlocks dX9_hasArrow_56 h
      · refine lv_iload_n hx hb0 dX9_hasArrow_17 rfl (lv_at hl 1 rfl) ?_
        have hJ48 : ∀ (t0_48 : Int) (H : Heap) (locs : List Loc) (ls : Array Slot), gH D G s H locs σ μ → lv_has ls 5 [(4, .int (gI x4_5)), (0, .ref (G.1 136)), (1, .int (gI a1)), (2, .int (gI a2))] → (DX9_hasArrow_J48 (DX9_hasArrow_L5 σ a1 a2 f5) x4_5 t0_48) = some r → W p l e (headSpec (gWs yX9_hasArrow cX9_hasArrow 5 (some (Jvm.ClassFile.FieldType.boolean))) ({ frames := 1, cells := 0, slots := 0, locals := 22 } : Room)).room s m ([.ref (G.1 136), .int (gI a1), .int (gI a2)] : List Value).toArray below meth c H locs 0 0 (MQ below (gQi D G r σ μ) ([.ref (G.1 136), .int (gI a1), .int (gI a2)] : List Value).toArray s 0 0 (gA G)) (F0 m 48 ls [.int (gI t0_48)]) := by
          intro t0_48 H locs ls hH hl h
          unfold DX9_hasArrow_J48 at h
          refine lv_istore_n (lv' := [(3, .int (gI t0_48)), (4, .int (gI x4_5)), (0, .ref (G.1 136)), (1, .int (gI a1)), (2, .int (gI a2))]) hx hb0 dX9_hasArrow_48 rfl hl (by decide) rfl (fun ls hl => ?_)
          refine g_iinc (k := 1) (n := (1 : Int)) (lv' := [(4, .int (gI (x4_5 + (1 : Int)))), (3, .int (gI t0_48)), (0, .ref (G.1 136)), (1, .int (gI a1)), (2, .int (gI a2))]) hx hb0 dX9_hasArrow_49 hl rfl (by decide) rfl (fun ls hl => ?_)
          refine lv_goto (tgt := 5) hx hb0 dX9_hasArrow_52 (by decide) ?_
          exact ih5 _ _ _ _ _ hH (lv_sub hl [0, 1, 2, 3, 4] rfl) h
        have hJ43 : ∀  (H : Heap) (locs : List Loc) (ls : Array Slot), gH D G s H locs σ μ → lv_has ls 5 [(4, .int (gI x4_5)), (0, .ref (G.1 136)), (1, .int (gI a1)), (2, .int (gI a2))] → (DX9_hasArrow_J43 (DX9_hasArrow_L5 σ a1 a2 f5) x4_5) = some r → W p l e (headSpec (gWs yX9_hasArrow cX9_hasArrow 5 (some (Jvm.ClassFile.FieldType.boolean))) ({ frames := 1, cells := 0, slots := 0, locals := 22 } : Room)).room s m ([.ref (G.1 136), .int (gI a1), .int (gI a2)] : List Value).toArray below meth c H locs 0 0 (MQ below (gQi D G r σ μ) ([.ref (G.1 136), .int (gI a1), .int (gI a2)] : List Value).toArray s 0 0 (gA G)) (F0 m 43 ls []) := by
          intro H locs ls hH hl h
          unfold DX9_hasArrow_J43 at h
          refine lv_iconst (v := gI (1 : Int)) hx hb0 dX9_hasArrow_43 (by decide) ?_
          refine lv_goto (tgt := 48) hx hb0 dX9_hasArrow_44 (by decide) ?_
          exact hJ48 _ _ _ _ hH (lv_sub hl [0, 1, 2, 3] rfl) h
        refine g_if_ne (tgt := 43) hx hb0 dX9_hasArrow_18 (by decide) h (fun h => ?_) (fun h => ?_)
        · exact hJ43  _ _ _ hH (lv_sub hl [0, 2, 3, 4] rfl) h
        · refine lv_aload_n hx hb0 dX9_hasArrow_21 rfl (lv_at hl 2 rfl) ?_
          refine lv_iload hx hb0 dX9_hasArrow_22 (lv_at hl 0 rfl) ?_
          refine lv_iconst (v := gI (0 : Int)) hx hb0 dX9_hasArrow_24 (by decide) ?_
          obtain ⟨q25, e25, h⟩ := gBind_some h
          refine g_callVi (k := 136) (T := TX9) (N := 19) (As := [.int (gI x4_5), .int (gI (0 : Int))]) (rest := []) ⟨hx, hb0, hml, hown, hts⟩ (metX9_end l D G σ μ x4_5 (0 : Int) q25 e25) (g_cwV (C := RX9) 2 hts q_ml_X9_86 q_im_X9_end q_se_X9_end q_in_X9 q_co_X9_end ⟨rfl, rfl⟩ (by decide +kernel) ⟨Nat.le_of_ble_eq_true rfl, Nat.le_of_ble_eq_true rfl⟩) hX hH (rfl : gKinds[136]? = _) rfl rfl hl.1 rfl (Nat.le_of_ble_eq_true rfl) dX9_hasArrow_25 ⟨Nat.zero_le _, Nat.zero_le _⟩ (fun H locs hH => ?_)
          refine lv_iload_n hx hb0 dX9_hasArrow_28 rfl (lv_at hl 3 rfl) ?_
          have hJ47 : ∀  (H : Heap) (locs : List Loc) (ls : Array Slot), gH D G s H locs σ μ → lv_has ls 5 [(4, .int (gI x4_5)), (0, .ref (G.1 136)), (1, .int (gI a1)), (2, .int (gI a2))] → (DX9_hasArrow_J47 (DX9_hasArrow_L5 σ a1 a2 f5) x4_5) = some r → W p l e (headSpec (gWs yX9_hasArrow cX9_hasArrow 5 (some (Jvm.ClassFile.FieldType.boolean))) ({ frames := 1, cells := 0, slots := 0, locals := 22 } : Room)).room s m ([.ref (G.1 136), .int (gI a1), .int (gI a2)] : List Value).toArray below meth c H locs 0 0 (MQ below (gQi D G r σ μ) ([.ref (G.1 136), .int (gI a1), .int (gI a2)] : List Value).toArray s 0 0 (gA G)) (F0 m 47 ls []) := by
            intro H locs ls hH hl h
            unfold DX9_hasArrow_J47 at h
            refine lv_iconst (v := gI (0 : Int)) hx hb0 dX9_hasArrow_47 (by decide) ?_
            exact hJ48 _ _ _ _ hH (lv_sub hl [0, 1, 2, 3] rfl) h
          refine g_icmp_ne (tgt := 47) hx hb0 dX9_hasArrow_29 (by decide) h (fun h => ?_) (fun h => ?_)
          · exact hJ47  _ _ _ hH (lv_sub hl [0, 2, 3, 4] rfl) h
          · refine lv_aload_n hx hb0 dX9_hasArrow_32 rfl (lv_at hl 2 rfl) ?_
            refine lv_iload hx hb0 dX9_hasArrow_33 (lv_at hl 0 rfl) ?_
            refine lv_iconst (v := gI (1 : Int)) hx hb0 dX9_hasArrow_35 (by decide) ?_
            obtain ⟨q36, e36, h⟩ := gBind_some h
            refine g_callVi (k := 136) (T := TX9) (N := 19) (As := [.int (gI x4_5), .int (gI (1 : Int))]) (rest := []) ⟨hx, hb0, hml, hown, hts⟩ (metX9_end l D G σ μ x4_5 (1 : Int) q36 e36) (g_cwV (C := RX9) 2 hts q_ml_X9_86 q_im_X9_end q_se_X9_end q_in_X9 q_co_X9_end ⟨rfl, rfl⟩ (by decide +kernel) ⟨Nat.le_of_ble_eq_true rfl, Nat.le_of_ble_eq_true rfl⟩) hX hH (rfl : gKinds[136]? = _) rfl rfl hl.1 rfl (Nat.le_of_ble_eq_true rfl) dX9_hasArrow_36 ⟨Nat.zero_le _, Nat.zero_le _⟩ (fun H locs hH => ?_)
            refine lv_iload_n hx hb0 dX9_hasArrow_39 rfl (lv_at hl 4 rfl) ?_
            refine g_icmp_ne (tgt := 47) hx hb0 dX9_hasArrow_40 (by decide) h (fun h => ?_) (fun h => ?_)
            · exact hJ47  _ _ _ hH (lv_sub hl [0, 2, 3, 4] rfl) h
            · exact hJ43  _ _ _ hH (lv_sub hl [0, 2, 3, 4] rfl) h
  exact hL5 gFuel _ _ _ _ _ hH (lv_sub hl [0, 1, 2, 3, 4] rfl) h
def DX9_arrowComes (σ : gSt) (a1 : Int) (a2 : Int) : Option (gSt) :=
  gAt (77 : Int) 138 (gAt ((78 : Int) + ((2 : Int) * (σ 137 (Int.toNat (77 : Int))))) 138 (gAt (77 : Int) 138 (gAt (((78 : Int) + ((2 : Int) * ((gUp σ 137 (Int.toNat ((78 : Int) + ((2 : Int) * (σ 137 (Int.toNat (77 : Int)))))) a1) 137 (Int.toNat (77 : Int))))) + (1 : Int)) 138 (gAt (77 : Int) 138 (gAt (77 : Int) 138 (some (gUp (gUp (gUp σ 137 (Int.toNat ((78 : Int) + ((2 : Int) * (σ 137 (Int.toNat (77 : Int)))))) a1) 137 (Int.toNat (((78 : Int) + ((2 : Int) * ((gUp σ 137 (Int.toNat ((78 : Int) + ((2 : Int) * (σ 137 (Int.toNat (77 : Int)))))) a1) 137 (Int.toNat (77 : Int))))) + (1 : Int))) a2) 137 (Int.toNat (77 : Int)) (((gUp (gUp σ 137 (Int.toNat ((78 : Int) + ((2 : Int) * (σ 137 (Int.toNat (77 : Int)))))) a1) 137 (Int.toNat (((78 : Int) + ((2 : Int) * ((gUp σ 137 (Int.toNat ((78 : Int) + ((2 : Int) * (σ 137 (Int.toNat (77 : Int)))))) a1) 137 (Int.toNat (77 : Int))))) + (1 : Int))) a2) 137 (Int.toNat (77 : Int))) + (1 : Int)))))))))
set_option maxHeartbeats 4000000 in
set_option maxRecDepth 100000 in
theorem metX9_arrowComes (l : Launch) (D : va_G) (G : gAd) (σ : gSt) (μ : gLg) (a1 : Int) (a2 : Int) (σ' : gSt) (h : DX9_arrowComes σ a1 a2 = some σ') : Met l yX9_arrowComes (gWs yX9_arrowComes cX9_arrowComes 3 none) ({ frames := 0, cells := 0, slots := 0, locals := 0 } : Room) (gPc D G [.ref (G.1 136), .int (gI a1), .int (gI a2)] σ μ) (gQv D G σ' μ) 0 0 (gA G) := by
  refine Met.ofW (cc := cX9_arrowComes) (maxL := 3) (ret := none) (by decide) rfl ?_
  intro p e s m args below meth c s₁ B hml hv
  obtain ⟨rfl, hP, hX⟩ := hv
  have hx := B.exec
  have hb0 := B.bytes
  have hr := B.returns
  have hts0 := atoms_spec (ws := (gWs yX9_arrowComes cX9_arrowComes 3 none)) B.pre
  have hts : ∀ w ∈ gLW, w.before _ s = true := fun w hw => hts0 w (List.mem_cons_of_mem _ hw)
  have hown : s.vm.findClass RX9 = some m.cls := findClass_of_methodNamed B.named
  have hlocks := B.notSynchronized
  have hH : gH D G s s.heap [] σ μ := ⟨hP, va_S.rf⟩
  have hl := lv_entry ([.ref (G.1 136), .int (gI a1), .int (gI a2)]) (n := 3) (Nat.le_of_ble_eq_true rfl)
  rw [lg_entry_eq]
  generalize (lg_sl ([.ref (G.1 136), .int (gI a1), .int (gI a2)]) ++ List.replicate (3 - (lg_sl ([.ref (G.1 136), .int (gI a1), .int (gI a2)])).length) Slot.unset).toArray = ls at hl ⊢
  have hl : lv_has ls 3 [(0, .ref (G.1 136)), (1, .int (gI a1)), (2, .int (gI a2))] := hl
  unfold DX9_arrowComes at h
  refine lv_aload_n hx hb0 dX9_arrowComes_0 rfl (lv_at hl 0 rfl) ?_
  refine g_getR hx hb0 hts q_ws_X9 hown hX hH (C := RX9) (T := TX9) (N := 19) (k := 136) (i := 0) (j := 137) (rfl : gKinds[136]? = _) rfl (by decide) (hts _ q_fl_X9_7) rfl rfl dX9_arrowComes_1 ?_
  refine lv_bipush (v := gI (78 : Int)) hx hb0 dX9_arrowComes_4 (by decide) ?_
  refine lv_iconst (v := gI (2 : Int)) hx hb0 dX9_arrowComes_6 (by decide) ?_
  refine lv_aload_n hx hb0 dX9_arrowComes_7 rfl (lv_at hl 0 rfl) ?_
  refine g_getR hx hb0 hts q_ws_X9 hown hX hH (C := RX9) (T := TX9) (N := 19) (k := 136) (i := 0) (j := 137) (rfl : gKinds[136]? = _) rfl (by decide) (hts _ q_fl_X9_7) rfl rfl dX9_arrowComes_8 ?_
  refine lv_bipush (v := gI (77 : Int)) hx hb0 dX9_arrowComes_11 (by decide) ?_
  refine g_iald hx hb0 hX hH (k := 137) (rfl : gKinds[137]? = _) (by decide) dX9_arrowComes_13 h (fun h => ?_)
  refine g_imul hx hb0 dX9_arrowComes_14 ?_
  refine g_iadd hx hb0 dX9_arrowComes_15 ?_
  refine lv_iload_n hx hb0 dX9_arrowComes_16 rfl (lv_at hl 1 rfl) ?_
  refine g_iast hx hb0 hX hH (k := 137) (rfl : gKinds[137]? = _) (by decide) dX9_arrowComes_17 h (fun h H locs hH => ?_)
  refine lv_aload_n hx hb0 dX9_arrowComes_18 rfl (lv_at hl 0 rfl) ?_
  refine g_getR hx hb0 hts q_ws_X9 hown hX hH (C := RX9) (T := TX9) (N := 19) (k := 136) (i := 0) (j := 137) (rfl : gKinds[136]? = _) rfl (by decide) (hts _ q_fl_X9_7) rfl rfl dX9_arrowComes_19 ?_
  refine lv_bipush (v := gI (78 : Int)) hx hb0 dX9_arrowComes_22 (by decide) ?_
  refine lv_iconst (v := gI (2 : Int)) hx hb0 dX9_arrowComes_24 (by decide) ?_
  refine lv_aload_n hx hb0 dX9_arrowComes_25 rfl (lv_at hl 0 rfl) ?_
  refine g_getR hx hb0 hts q_ws_X9 hown hX hH (C := RX9) (T := TX9) (N := 19) (k := 136) (i := 0) (j := 137) (rfl : gKinds[136]? = _) rfl (by decide) (hts _ q_fl_X9_7) rfl rfl dX9_arrowComes_26 ?_
  refine lv_bipush (v := gI (77 : Int)) hx hb0 dX9_arrowComes_29 (by decide) ?_
  refine g_iald hx hb0 hX hH (k := 137) (rfl : gKinds[137]? = _) (by decide) dX9_arrowComes_31 h (fun h => ?_)
  refine g_imul hx hb0 dX9_arrowComes_32 ?_
  refine g_iadd hx hb0 dX9_arrowComes_33 ?_
  refine lv_iconst (v := gI (1 : Int)) hx hb0 dX9_arrowComes_34 (by decide) ?_
  refine g_iadd hx hb0 dX9_arrowComes_35 ?_
  refine lv_iload_n hx hb0 dX9_arrowComes_36 rfl (lv_at hl 2 rfl) ?_
  refine g_iast hx hb0 hX hH (k := 137) (rfl : gKinds[137]? = _) (by decide) dX9_arrowComes_37 h (fun h H locs hH => ?_)
  refine lv_aload_n hx hb0 dX9_arrowComes_38 rfl (lv_at hl 0 rfl) ?_
  refine g_getR hx hb0 hts q_ws_X9 hown hX hH (C := RX9) (T := TX9) (N := 19) (k := 136) (i := 0) (j := 137) (rfl : gKinds[136]? = _) rfl (by decide) (hts _ q_fl_X9_7) rfl rfl dX9_arrowComes_39 ?_
  refine lv_bipush (v := gI (77 : Int)) hx hb0 dX9_arrowComes_42 (by decide) ?_
  refine lv_dup2_11 hx hb0 dX9_arrowComes_44 rfl rfl ?_
  refine g_iald hx hb0 hX hH (k := 137) (rfl : gKinds[137]? = _) (by decide) dX9_arrowComes_45 h (fun h => ?_)
  refine lv_iconst (v := gI (1 : Int)) hx hb0 dX9_arrowComes_46 (by decide) ?_
  refine g_iadd hx hb0 dX9_arrowComes_47 ?_
  refine g_iast hx hb0 hX hH (k := 137) (rfl : gKinds[137]? = _) (by decide) dX9_arrowComes_48 h (fun h H locs hH => ?_)
  exact g_vretS hx hb0 hr hH hlocks dX9_arrowComes_49 h
def DX9_addArrow_J16 (σ : gSt) : Option (Int × gSt) :=
  (DX9_fails σ (1 : Int)).bind fun q18 => some (q18.1, q18.2)
def DX9_addArrow_J54 (σ : gSt) : Option (Int × gSt) :=
  (DX9_fails σ (3 : Int)).bind fun q56 => some (q56.1, q56.2)
def DX9_addArrow (σ : gSt) (a1 : Int) (a2 : Int) : Option (Int × gSt) :=
  (DX9_isTask σ a1).bind fun q2 => gIf (q2 = (0 : Int)) q2 (0 : Int) ((DX9_addArrow_J16 σ)) ((DX9_isTask σ a2).bind fun q10 => gIf (q10 = (0 : Int)) q10 (0 : Int) ((DX9_addArrow_J16 σ)) (gIf (a1 = a2) a1 a2 ((DX9_fails σ (2 : Int)).bind fun q29 => some (q29.1, q29.2)) ((DX9_hasArrow σ a1 a2).bind fun q36 => gIf (q36 = (0 : Int)) q36 (0 : Int) (gAt (77 : Int) 138 (gIf ((σ 137 (Int.toNat (77 : Int))) = (30 : Int)) (σ 137 (Int.toNat (77 : Int))) (30 : Int) ((DX9_addArrow_J54 σ)) ((DX9_hold σ).bind fun q61 => (DX9_arrowComes q61 a1 a2).bind fun q67 => gAt (77 : Int) 138 ((DX9_ends q67 ((q67 137 (Int.toNat (77 : Int))) - (1 : Int))).bind fun q80 => some (q80.1, q80.2))))) ((DX9_addArrow_J54 σ)))))
set_option maxHeartbeats 4000000 in
set_option maxRecDepth 100000 in
theorem metX9_addArrow (l : Launch) (D : va_G) (G : gAd) (σ : gSt) (μ : gLg) (a1 : Int) (a2 : Int) (r : Int) (σ' : gSt) (h : DX9_addArrow σ a1 a2 = some (r, σ')) : Met l yX9_addArrow (gWs yX9_addArrow cX9_addArrow 3 (some (Jvm.ClassFile.FieldType.int))) ({ frames := 2, cells := 0, slots := 0, locals := 46 } : Room) (gPc D G [.ref (G.1 136), .int (gI a1), .int (gI a2)] σ μ) (gQi D G r σ' μ) 0 0 (gA G) := by
  refine Met.ofW (cc := cX9_addArrow) (maxL := 3) (ret := (some (Jvm.ClassFile.FieldType.int))) (by decide) rfl ?_
  intro p e s m args below meth c s₁ B hml hv
  obtain ⟨rfl, hP, hX⟩ := hv
  have hx := B.exec
  have hb0 := B.bytes
  have hr := B.returns
  have hts0 := atoms_spec (ws := (gWs yX9_addArrow cX9_addArrow 3 (some (Jvm.ClassFile.FieldType.int)))) B.pre
  have hts : ∀ w ∈ gLW, w.before _ s = true := fun w hw => hts0 w (List.mem_cons_of_mem _ hw)
  have hown : s.vm.findClass RX9 = some m.cls := findClass_of_methodNamed B.named
  have hlocks := B.notSynchronized
  have hH : gH D G s s.heap [] σ μ := ⟨hP, va_S.rf⟩
  have hl := lv_entry ([.ref (G.1 136), .int (gI a1), .int (gI a2)]) (n := 3) (Nat.le_of_ble_eq_true rfl)
  rw [lg_entry_eq]
  generalize (lg_sl ([.ref (G.1 136), .int (gI a1), .int (gI a2)]) ++ List.replicate (3 - (lg_sl ([.ref (G.1 136), .int (gI a1), .int (gI a2)])).length) Slot.unset).toArray = ls at hl ⊢
  have hl : lv_has ls 3 [(0, .ref (G.1 136)), (1, .int (gI a1)), (2, .int (gI a2))] := hl
  unfold DX9_addArrow at h
  refine lv_aload_n hx hb0 dX9_addArrow_0 rfl (lv_at hl 0 rfl) ?_
  refine lv_iload_n hx hb0 dX9_addArrow_1 rfl (lv_at hl 1 rfl) ?_
  obtain ⟨q2, e2, h⟩ := gBind_some h
  refine g_callVi (k := 136) (T := TX9) (N := 19) (As := [.int (gI a1)]) (rest := []) ⟨hx, hb0, hml, hown, hts⟩ (metX9_isTask l D G σ μ a1 q2 e2) (g_cwV (C := RX9) 1 hts q_ml_X9_82 q_im_X9_isTask q_se_X9_isTask q_in_X9 q_co_X9_isTask ⟨rfl, rfl⟩ (by decide +kernel) ⟨Nat.le_of_ble_eq_true rfl, Nat.le_of_ble_eq_true rfl⟩) hX hH (rfl : gKinds[136]? = _) rfl rfl hl.1 rfl (Nat.le_of_ble_eq_true rfl) dX9_addArrow_2 ⟨Nat.zero_le _, Nat.zero_le _⟩ (fun H locs hH => ?_)
  have hJ16 : ∀  (H : Heap) (locs : List Loc) (ls : Array Slot), gH D G s H locs σ μ → lv_has ls 3 [(0, .ref (G.1 136))] → (DX9_addArrow_J16 σ) = some (r, σ') → W p l e (headSpec (gWs yX9_addArrow cX9_addArrow 3 (some (Jvm.ClassFile.FieldType.int))) ({ frames := 2, cells := 0, slots := 0, locals := 46 } : Room)).room s m ([.ref (G.1 136), .int (gI a1), .int (gI a2)] : List Value).toArray below meth c H locs 0 0 (MQ below (gQi D G r σ' μ) ([.ref (G.1 136), .int (gI a1), .int (gI a2)] : List Value).toArray s 0 0 (gA G)) (F0 m 16 ls []) := by
    intro H locs ls hH hl h
    unfold DX9_addArrow_J16 at h
    refine lv_aload_n hx hb0 dX9_addArrow_16 rfl (lv_at hl 0 rfl) ?_
    refine lv_iconst (v := gI (1 : Int)) hx hb0 dX9_addArrow_17 (by decide) ?_
    obtain ⟨q18, e18, h⟩ := gBind_some h
    refine g_callVi (k := 136) (T := TX9) (N := 19) (As := [.int (gI (1 : Int))]) (rest := []) ⟨hx, hb0, hml, hown, hts⟩ (metX9_fails l D G σ μ (1 : Int) q18.1 q18.2 e18) (g_cwV (C := RX9) 1 hts q_ml_X9_63 q_im_X9_fails q_se_X9_fails q_in_X9 q_co_X9_fails ⟨rfl, rfl⟩ (by decide +kernel) ⟨Nat.le_of_ble_eq_true rfl, Nat.le_of_ble_eq_true rfl⟩) hX hH (rfl : gKinds[136]? = _) rfl rfl hl.1 rfl (Nat.le_of_ble_eq_true rfl) dX9_addArrow_18 ⟨Nat.zero_le _, Nat.zero_le _⟩ (fun H locs hH => ?_)
    exact g_iretS hx hb0 hr hH hlocks dX9_addArrow_21 h
  refine g_if_eq (tgt := 16) hx hb0 dX9_addArrow_5 (by decide) h (fun h => ?_) (fun h => ?_)
  · exact hJ16  _ _ _ hH (lv_sub hl [0] rfl) h
  · refine lv_aload_n hx hb0 dX9_addArrow_8 rfl (lv_at hl 0 rfl) ?_
    refine lv_iload_n hx hb0 dX9_addArrow_9 rfl (lv_at hl 2 rfl) ?_
    obtain ⟨q10, e10, h⟩ := gBind_some h
    refine g_callVi (k := 136) (T := TX9) (N := 19) (As := [.int (gI a2)]) (rest := []) ⟨hx, hb0, hml, hown, hts⟩ (metX9_isTask l D G σ μ a2 q10 e10) (g_cwV (C := RX9) 1 hts q_ml_X9_82 q_im_X9_isTask q_se_X9_isTask q_in_X9 q_co_X9_isTask ⟨rfl, rfl⟩ (by decide +kernel) ⟨Nat.le_of_ble_eq_true rfl, Nat.le_of_ble_eq_true rfl⟩) hX hH (rfl : gKinds[136]? = _) rfl rfl hl.1 rfl (Nat.le_of_ble_eq_true rfl) dX9_addArrow_10 ⟨Nat.zero_le _, Nat.zero_le _⟩ (fun H locs hH => ?_)
    refine g_if_ne (tgt := 22) hx hb0 dX9_addArrow_13 (by decide) h (fun h => ?_) (fun h => ?_)
    · refine lv_iload_n hx hb0 dX9_addArrow_22 rfl (lv_at hl 1 rfl) ?_
      refine lv_iload_n hx hb0 dX9_addArrow_23 rfl (lv_at hl 2 rfl) ?_
      refine g_icmp_ne (tgt := 33) hx hb0 dX9_addArrow_24 (by decide) h (fun h => ?_) (fun h => ?_)
      · refine lv_aload_n hx hb0 dX9_addArrow_33 rfl (lv_at hl 0 rfl) ?_
        refine lv_iload_n hx hb0 dX9_addArrow_34 rfl (lv_at hl 1 rfl) ?_
        refine lv_iload_n hx hb0 dX9_addArrow_35 rfl (lv_at hl 2 rfl) ?_
        obtain ⟨q36, e36, h⟩ := gBind_some h
        refine g_callVi (k := 136) (T := TX9) (N := 19) (As := [.int (gI a1), .int (gI a2)]) (rest := []) ⟨hx, hb0, hml, hown, hts⟩ (metX9_hasArrow l D G σ μ a1 a2 q36 e36) (g_cwV (C := RX9) 2 hts q_ml_X9_93 q_im_X9_hasArrow q_se_X9_hasArrow q_in_X9 q_co_X9_hasArrow ⟨rfl, rfl⟩ (by decide +kernel) ⟨Nat.le_of_ble_eq_true rfl, Nat.le_of_ble_eq_true rfl⟩) hX hH (rfl : gKinds[136]? = _) rfl rfl hl.1 rfl (Nat.le_of_ble_eq_true rfl) dX9_addArrow_36 ⟨Nat.zero_le _, Nat.zero_le _⟩ (fun H locs hH => ?_)
        have hJ54 : ∀  (H : Heap) (locs : List Loc) (ls : Array Slot), gH D G s H locs σ μ → lv_has ls 3 [(0, .ref (G.1 136))] → (DX9_addArrow_J54 σ) = some (r, σ') → W p l e (headSpec (gWs yX9_addArrow cX9_addArrow 3 (some (Jvm.ClassFile.FieldType.int))) ({ frames := 2, cells := 0, slots := 0, locals := 46 } : Room)).room s m ([.ref (G.1 136), .int (gI a1), .int (gI a2)] : List Value).toArray below meth c H locs 0 0 (MQ below (gQi D G r σ' μ) ([.ref (G.1 136), .int (gI a1), .int (gI a2)] : List Value).toArray s 0 0 (gA G)) (F0 m 54 ls []) := by
          intro H locs ls hH hl h
          unfold DX9_addArrow_J54 at h
          refine lv_aload_n hx hb0 dX9_addArrow_54 rfl (lv_at hl 0 rfl) ?_
          refine lv_iconst (v := gI (3 : Int)) hx hb0 dX9_addArrow_55 (by decide) ?_
          obtain ⟨q56, e56, h⟩ := gBind_some h
          refine g_callVi (k := 136) (T := TX9) (N := 19) (As := [.int (gI (3 : Int))]) (rest := []) ⟨hx, hb0, hml, hown, hts⟩ (metX9_fails l D G σ μ (3 : Int) q56.1 q56.2 e56) (g_cwV (C := RX9) 1 hts q_ml_X9_63 q_im_X9_fails q_se_X9_fails q_in_X9 q_co_X9_fails ⟨rfl, rfl⟩ (by decide +kernel) ⟨Nat.le_of_ble_eq_true rfl, Nat.le_of_ble_eq_true rfl⟩) hX hH (rfl : gKinds[136]? = _) rfl rfl hl.1 rfl (Nat.le_of_ble_eq_true rfl) dX9_addArrow_56 ⟨Nat.zero_le _, Nat.zero_le _⟩ (fun H locs hH => ?_)
          exact g_iretS hx hb0 hr hH hlocks dX9_addArrow_59 h
        refine g_if_ne (tgt := 54) hx hb0 dX9_addArrow_39 (by decide) h (fun h => ?_) (fun h => ?_)
        · exact hJ54  _ _ _ hH (lv_sub hl [0] rfl) h
        · refine lv_aload_n hx hb0 dX9_addArrow_42 rfl (lv_at hl 0 rfl) ?_
          refine g_getR hx hb0 hts q_ws_X9 hown hX hH (C := RX9) (T := TX9) (N := 19) (k := 136) (i := 0) (j := 137) (rfl : gKinds[136]? = _) rfl (by decide) (hts _ q_fl_X9_7) rfl rfl dX9_addArrow_43 ?_
          refine lv_bipush (v := gI (77 : Int)) hx hb0 dX9_addArrow_46 (by decide) ?_
          refine g_iald hx hb0 hX hH (k := 137) (rfl : gKinds[137]? = _) (by decide) dX9_addArrow_48 h (fun h => ?_)
          refine lv_bipush (v := gI (30 : Int)) hx hb0 dX9_addArrow_49 (by decide) ?_
          refine g_icmp_ne (tgt := 60) hx hb0 dX9_addArrow_51 (by decide) h (fun h => ?_) (fun h => ?_)
          · refine lv_aload_n hx hb0 dX9_addArrow_60 rfl (lv_at hl 0 rfl) ?_
            obtain ⟨q61, e61, h⟩ := gBind_some h
            refine g_callVv (k := 136) (T := TX9) (N := 19) (As := []) (rest := []) ⟨hx, hb0, hml, hown, hts⟩ (metX9_hold l D G σ μ q61 e61) (g_cwV (C := RX9) 0 hts q_ml_X9_66 q_im_X9_hold q_se_X9_hold q_in_X9 q_co_X9_hold ⟨rfl, rfl⟩ (by decide +kernel) ⟨Nat.le_of_ble_eq_true rfl, Nat.le_of_ble_eq_true rfl⟩) hX hH (rfl : gKinds[136]? = _) rfl rfl hl.1 rfl (Nat.le_of_ble_eq_true rfl) dX9_addArrow_61 ⟨Nat.zero_le _, Nat.zero_le _⟩ (fun H locs hH => ?_)
            refine lv_aload_n hx hb0 dX9_addArrow_64 rfl (lv_at hl 0 rfl) ?_
            refine lv_iload_n hx hb0 dX9_addArrow_65 rfl (lv_at hl 1 rfl) ?_
            refine lv_iload_n hx hb0 dX9_addArrow_66 rfl (lv_at hl 2 rfl) ?_
            obtain ⟨q67, e67, h⟩ := gBind_some h
            refine g_callVv (k := 136) (T := TX9) (N := 19) (As := [.int (gI a1), .int (gI a2)]) (rest := []) ⟨hx, hb0, hml, hown, hts⟩ (metX9_arrowComes l D G q61 μ a1 a2 q67 e67) (g_cwV (C := RX9) 2 hts q_ml_X9_96 q_im_X9_arrowComes q_se_X9_arrowComes q_in_X9 q_co_X9_arrowComes ⟨rfl, rfl⟩ (by decide +kernel) ⟨Nat.le_of_ble_eq_true rfl, Nat.le_of_ble_eq_true rfl⟩) hX hH (rfl : gKinds[136]? = _) rfl rfl hl.1 rfl (Nat.le_of_ble_eq_true rfl) dX9_addArrow_67 ⟨Nat.zero_le _, Nat.zero_le _⟩ (fun H locs hH => ?_)
            refine lv_aload_n hx hb0 dX9_addArrow_70 rfl (lv_at hl 0 rfl) ?_
            refine lv_aload_n hx hb0 dX9_addArrow_71 rfl (lv_at hl 0 rfl) ?_
            refine g_getR hx hb0 hts q_ws_X9 hown hX hH (C := RX9) (T := TX9) (N := 19) (k := 136) (i := 0) (j := 137) (rfl : gKinds[136]? = _) rfl (by decide) (hts _ q_fl_X9_7) rfl rfl dX9_addArrow_72 ?_
            refine lv_bipush (v := gI (77 : Int)) hx hb0 dX9_addArrow_75 (by decide) ?_
            refine g_iald hx hb0 hX hH (k := 137) (rfl : gKinds[137]? = _) (by decide) dX9_addArrow_77 h (fun h => ?_)
            refine lv_iconst (v := gI (1 : Int)) hx hb0 dX9_addArrow_78 (by decide) ?_
            refine g_isub hx hb0 dX9_addArrow_79 ?_
            obtain ⟨q80, e80, h⟩ := gBind_some h
            refine g_callVi (k := 136) (T := TX9) (N := 19) (As := [.int (gI ((q67 137 (Int.toNat (77 : Int))) - (1 : Int)))]) (rest := []) ⟨hx, hb0, hml, hown, hts⟩ (metX9_ends l D G q67 μ ((q67 137 (Int.toNat (77 : Int))) - (1 : Int)) q80.1 q80.2 e80) (g_cwV (C := RX9) 1 hts q_ml_X9_69 q_im_X9_ends q_se_X9_ends q_in_X9 q_co_X9_ends ⟨rfl, rfl⟩ (by decide +kernel) ⟨Nat.le_of_ble_eq_true rfl, Nat.le_of_ble_eq_true rfl⟩) hX hH (rfl : gKinds[136]? = _) rfl rfl hl.1 rfl (Nat.le_of_ble_eq_true rfl) dX9_addArrow_80 ⟨Nat.zero_le _, Nat.zero_le _⟩ (fun H locs hH => ?_)
            exact g_iretS hx hb0 hr hH hlocks dX9_addArrow_83 h
          · exact hJ54  _ _ _ hH (lv_sub hl [0] rfl) h
      · refine lv_aload_n hx hb0 dX9_addArrow_27 rfl (lv_at hl 0 rfl) ?_
        refine lv_iconst (v := gI (2 : Int)) hx hb0 dX9_addArrow_28 (by decide) ?_
        obtain ⟨q29, e29, h⟩ := gBind_some h
        refine g_callVi (k := 136) (T := TX9) (N := 19) (As := [.int (gI (2 : Int))]) (rest := []) ⟨hx, hb0, hml, hown, hts⟩ (metX9_fails l D G σ μ (2 : Int) q29.1 q29.2 e29) (g_cwV (C := RX9) 1 hts q_ml_X9_63 q_im_X9_fails q_se_X9_fails q_in_X9 q_co_X9_fails ⟨rfl, rfl⟩ (by decide +kernel) ⟨Nat.le_of_ble_eq_true rfl, Nat.le_of_ble_eq_true rfl⟩) hX hH (rfl : gKinds[136]? = _) rfl rfl hl.1 rfl (Nat.le_of_ble_eq_true rfl) dX9_addArrow_29 ⟨Nat.zero_le _, Nat.zero_le _⟩ (fun H locs hH => ?_)
        exact g_iretS hx hb0 hr hH hlocks dX9_addArrow_32 h
    · exact hJ16  _ _ _ hH (lv_sub hl [0] rfl) h
def DX9_removeArrow (σ : gSt) (a1 : Int) : Option (Int × gSt) :=
  (DX9_isArrow σ a1).bind fun q2 => gIf (q2 = (0 : Int)) q2 (0 : Int) ((DX9_fails σ (1 : Int)).bind fun q10 => some (q10.1, q10.2)) ((DX9_hold σ).bind fun q15 => (DX9_arrowGoes q15 a1).bind fun q20 => gAt (77 : Int) 138 ((DX9_ends q20 (q20 137 (Int.toNat (77 : Int)))).bind fun q31 => some (q31.1, q31.2)))
set_option maxHeartbeats 4000000 in
set_option maxRecDepth 100000 in
theorem metX9_removeArrow (l : Launch) (D : va_G) (G : gAd) (σ : gSt) (μ : gLg) (a1 : Int) (r : Int) (σ' : gSt) (h : DX9_removeArrow σ a1 = some (r, σ')) : Met l yX9_removeArrow (gWs yX9_removeArrow cX9_removeArrow 2 (some (Jvm.ClassFile.FieldType.int))) ({ frames := 2, cells := 0, slots := 0, locals := 43 } : Room) (gPc D G [.ref (G.1 136), .int (gI a1)] σ μ) (gQi D G r σ' μ) 0 0 (gA G) := by
  refine Met.ofW (cc := cX9_removeArrow) (maxL := 2) (ret := (some (Jvm.ClassFile.FieldType.int))) (by decide) rfl ?_
  intro p e s m args below meth c s₁ B hml hv
  obtain ⟨rfl, hP, hX⟩ := hv
  have hx := B.exec
  have hb0 := B.bytes
  have hr := B.returns
  have hts0 := atoms_spec (ws := (gWs yX9_removeArrow cX9_removeArrow 2 (some (Jvm.ClassFile.FieldType.int)))) B.pre
  have hts : ∀ w ∈ gLW, w.before _ s = true := fun w hw => hts0 w (List.mem_cons_of_mem _ hw)
  have hown : s.vm.findClass RX9 = some m.cls := findClass_of_methodNamed B.named
  have hlocks := B.notSynchronized
  have hH : gH D G s s.heap [] σ μ := ⟨hP, va_S.rf⟩
  have hl := lv_entry ([.ref (G.1 136), .int (gI a1)]) (n := 2) (Nat.le_of_ble_eq_true rfl)
  rw [lg_entry_eq]
  generalize (lg_sl ([.ref (G.1 136), .int (gI a1)]) ++ List.replicate (2 - (lg_sl ([.ref (G.1 136), .int (gI a1)])).length) Slot.unset).toArray = ls at hl ⊢
  have hl : lv_has ls 2 [(0, .ref (G.1 136)), (1, .int (gI a1))] := hl
  unfold DX9_removeArrow at h
  refine lv_aload_n hx hb0 dX9_removeArrow_0 rfl (lv_at hl 0 rfl) ?_
  refine lv_iload_n hx hb0 dX9_removeArrow_1 rfl (lv_at hl 1 rfl) ?_
  obtain ⟨q2, e2, h⟩ := gBind_some h
  refine g_callVi (k := 136) (T := TX9) (N := 19) (As := [.int (gI a1)]) (rest := []) ⟨hx, hb0, hml, hown, hts⟩ (metX9_isArrow l D G σ μ a1 q2 e2) (g_cwV (C := RX9) 1 hts q_ml_X9_100 q_im_X9_isArrow q_se_X9_isArrow q_in_X9 q_co_X9_isArrow ⟨rfl, rfl⟩ (by decide +kernel) ⟨Nat.le_of_ble_eq_true rfl, Nat.le_of_ble_eq_true rfl⟩) hX hH (rfl : gKinds[136]? = _) rfl rfl hl.1 rfl (Nat.le_of_ble_eq_true rfl) dX9_removeArrow_2 ⟨Nat.zero_le _, Nat.zero_le _⟩ (fun H locs hH => ?_)
  refine g_if_ne (tgt := 14) hx hb0 dX9_removeArrow_5 (by decide) h (fun h => ?_) (fun h => ?_)
  · refine lv_aload_n hx hb0 dX9_removeArrow_14 rfl (lv_at hl 0 rfl) ?_
    obtain ⟨q15, e15, h⟩ := gBind_some h
    refine g_callVv (k := 136) (T := TX9) (N := 19) (As := []) (rest := []) ⟨hx, hb0, hml, hown, hts⟩ (metX9_hold l D G σ μ q15 e15) (g_cwV (C := RX9) 0 hts q_ml_X9_66 q_im_X9_hold q_se_X9_hold q_in_X9 q_co_X9_hold ⟨rfl, rfl⟩ (by decide +kernel) ⟨Nat.le_of_ble_eq_true rfl, Nat.le_of_ble_eq_true rfl⟩) hX hH (rfl : gKinds[136]? = _) rfl rfl hl.1 rfl (Nat.le_of_ble_eq_true rfl) dX9_removeArrow_15 ⟨Nat.zero_le _, Nat.zero_le _⟩ (fun H locs hH => ?_)
    refine lv_aload_n hx hb0 dX9_removeArrow_18 rfl (lv_at hl 0 rfl) ?_
    refine lv_iload_n hx hb0 dX9_removeArrow_19 rfl (lv_at hl 1 rfl) ?_
    obtain ⟨q20, e20, h⟩ := gBind_some h
    refine g_callVv (k := 136) (T := TX9) (N := 19) (As := [.int (gI a1)]) (rest := []) ⟨hx, hb0, hml, hown, hts⟩ (metX9_arrowGoes l D G q15 μ a1 q20 e20) (g_cwV (C := RX9) 1 hts q_ml_X9_89 q_im_X9_arrowGoes q_se_X9_arrowGoes q_in_X9 q_co_X9_arrowGoes ⟨rfl, rfl⟩ (by decide +kernel) ⟨Nat.le_of_ble_eq_true rfl, Nat.le_of_ble_eq_true rfl⟩) hX hH (rfl : gKinds[136]? = _) rfl rfl hl.1 rfl (Nat.le_of_ble_eq_true rfl) dX9_removeArrow_20 ⟨Nat.zero_le _, Nat.zero_le _⟩ (fun H locs hH => ?_)
    refine lv_aload_n hx hb0 dX9_removeArrow_23 rfl (lv_at hl 0 rfl) ?_
    refine lv_aload_n hx hb0 dX9_removeArrow_24 rfl (lv_at hl 0 rfl) ?_
    refine g_getR hx hb0 hts q_ws_X9 hown hX hH (C := RX9) (T := TX9) (N := 19) (k := 136) (i := 0) (j := 137) (rfl : gKinds[136]? = _) rfl (by decide) (hts _ q_fl_X9_7) rfl rfl dX9_removeArrow_25 ?_
    refine lv_bipush (v := gI (77 : Int)) hx hb0 dX9_removeArrow_28 (by decide) ?_
    refine g_iald hx hb0 hX hH (k := 137) (rfl : gKinds[137]? = _) (by decide) dX9_removeArrow_30 h (fun h => ?_)
    obtain ⟨q31, e31, h⟩ := gBind_some h
    refine g_callVi (k := 136) (T := TX9) (N := 19) (As := [.int (gI (q20 137 (Int.toNat (77 : Int))))]) (rest := []) ⟨hx, hb0, hml, hown, hts⟩ (metX9_ends l D G q20 μ (q20 137 (Int.toNat (77 : Int))) q31.1 q31.2 e31) (g_cwV (C := RX9) 1 hts q_ml_X9_69 q_im_X9_ends q_se_X9_ends q_in_X9 q_co_X9_ends ⟨rfl, rfl⟩ (by decide +kernel) ⟨Nat.le_of_ble_eq_true rfl, Nat.le_of_ble_eq_true rfl⟩) hX hH (rfl : gKinds[136]? = _) rfl rfl hl.1 rfl (Nat.le_of_ble_eq_true rfl) dX9_removeArrow_31 ⟨Nat.zero_le _, Nat.zero_le _⟩ (fun H locs hH => ?_)
    exact g_iretS hx hb0 hr hH hlocks dX9_removeArrow_34 h
  · refine lv_aload_n hx hb0 dX9_removeArrow_8 rfl (lv_at hl 0 rfl) ?_
    refine lv_iconst (v := gI (1 : Int)) hx hb0 dX9_removeArrow_9 (by decide) ?_
    obtain ⟨q10, e10, h⟩ := gBind_some h
    refine g_callVi (k := 136) (T := TX9) (N := 19) (As := [.int (gI (1 : Int))]) (rest := []) ⟨hx, hb0, hml, hown, hts⟩ (metX9_fails l D G σ μ (1 : Int) q10.1 q10.2 e10) (g_cwV (C := RX9) 1 hts q_ml_X9_63 q_im_X9_fails q_se_X9_fails q_in_X9 q_co_X9_fails ⟨rfl, rfl⟩ (by decide +kernel) ⟨Nat.le_of_ble_eq_true rfl, Nat.le_of_ble_eq_true rfl⟩) hX hH (rfl : gKinds[136]? = _) rfl rfl hl.1 rfl (Nat.le_of_ble_eq_true rfl) dX9_removeArrow_10 ⟨Nat.zero_le _, Nat.zero_le _⟩ (fun H locs hH => ?_)
    exact g_iretS hx hb0 hr hH hlocks dX9_removeArrow_13 h
def DX9_newBand_K29  (σ29 : gSt) : Option (gSt) :=
  some (gUp (gUp σ29 136 7 ((σ29 136 7) + (1 : Int))) 136 8 (0 : Int))
def DX9_newBand_L2 (K29 : gSt → Option (gSt)) : Nat → Int → gSt → Option (gSt)
  | 0, _, _ => none
  | f2 + 1, x1_2, σ2 => gIf (x1_2 < (20 : Int)) x1_2 (20 : Int) (gAt (((20 : Int) * (σ2 136 7)) + x1_2) 480 (((DX9_newBand_L2 K29 f2) (x1_2 + (1 : Int)) (gUp σ2 141 (Int.toNat (((20 : Int) * (σ2 136 7)) + x1_2)) (-1 : Int))))) ((K29 σ2))
def DX9_newBand (σ : gSt) : Option (gSt) :=
  (DX9_newBand_L2 (DX9_newBand_K29) gFuel (0 : Int) σ)
set_option maxHeartbeats 4000000 in
set_option maxRecDepth 100000 in
theorem metX9_newBand (l : Launch) (D : va_G) (G : gAd) (σ : gSt) (μ : gLg) (σ' : gSt) (h : DX9_newBand σ = some σ') : Met l yX9_newBand (gWs yX9_newBand cX9_newBand 2 none) ({ frames := 0, cells := 0, slots := 0, locals := 0 } : Room) (gPc D G [.ref (G.1 136)] σ μ) (gQv D G σ' μ) 0 0 (gA G) := by
  refine Met.ofW (cc := cX9_newBand) (maxL := 2) (ret := none) (by decide) rfl ?_
  intro p e s m args below meth c s₁ B hml hv
  obtain ⟨rfl, hP, hX⟩ := hv
  have hx := B.exec
  have hb0 := B.bytes
  have hr := B.returns
  have hts0 := atoms_spec (ws := (gWs yX9_newBand cX9_newBand 2 none)) B.pre
  have hts : ∀ w ∈ gLW, w.before _ s = true := fun w hw => hts0 w (List.mem_cons_of_mem _ hw)
  have hown : s.vm.findClass RX9 = some m.cls := findClass_of_methodNamed B.named
  have hlocks := B.notSynchronized
  have hH : gH D G s s.heap [] σ μ := ⟨hP, va_S.rf⟩
  have hl := lv_entry ([.ref (G.1 136)]) (n := 2) (Nat.le_of_ble_eq_true rfl)
  rw [lg_entry_eq]
  generalize (lg_sl ([.ref (G.1 136)]) ++ List.replicate (2 - (lg_sl ([.ref (G.1 136)])).length) Slot.unset).toArray = ls at hl ⊢
  have hl : lv_has ls 2 [(0, .ref (G.1 136))] := hl
  unfold DX9_newBand at h
  refine lv_iconst (v := gI (0 : Int)) hx hb0 dX9_newBand_0 (by decide) ?_
  refine lv_istore_n (lv' := [(1, .int (gI (0 : Int))), (0, .ref (G.1 136))]) hx hb0 dX9_newBand_1 rfl hl (by decide) rfl (fun ls hl => ?_)
  have hK29 : ∀ (σ29 : gSt) (H : Heap) (locs : List Loc) (ls : Array Slot), gH D G s H locs σ29 μ → lv_has ls 2 [(0, .ref (G.1 136))] → (DX9_newBand_K29 σ29) = some σ' → W p l e (headSpec (gWs yX9_newBand cX9_newBand 2 none) ({ frames := 0, cells := 0, slots := 0, locals := 0 } : Room)).room s m ([.ref (G.1 136)] : List Value).toArray below meth c H locs 0 0 (MQ below (gQv D G σ' μ) ([.ref (G.1 136)] : List Value).toArray s 0 0 (gA G)) (F0 m 29 ls []) := by
    intro σ29 H locs ls hH hl h
    unfold DX9_newBand_K29 at h
    refine lv_aload_n hx hb0 dX9_newBand_29 rfl (lv_at hl 0 rfl) ?_
    refine lv_dup hx hb0 dX9_newBand_30 rfl ?_
    refine g_getI hx hb0 hts q_ws_X9 hown hX hH (C := RX9) (T := TX9) (N := 19) (k := 136) (i := 7) (rfl : gKinds[136]? = _) rfl (by decide) (hts _ q_fl_X9_103) rfl rfl dX9_newBand_31 ?_
    refine lv_iconst (v := gI (1 : Int)) hx hb0 dX9_newBand_34 (by decide) ?_
    refine g_iadd hx hb0 dX9_newBand_35 ?_
    refine g_putI hx hb0 hts q_ws_X9 tyX9 tyX9_ok nmX9 hown hX hH (C := RX9) (T := TX9) (N := 19) (k := 136) (i := 7) (rfl : gKinds[136]? = _) rfl (by decide) (hts _ q_fl_X9_103) rfl rfl rfl rfl dX9_newBand_36 (fun H locs hH => ?_)
    refine lv_aload_n hx hb0 dX9_newBand_39 rfl (lv_at hl 0 rfl) ?_
    refine lv_iconst (v := gI (0 : Int)) hx hb0 dX9_newBand_40 (by decide) ?_
    refine g_putI hx hb0 hts q_ws_X9 tyX9 tyX9_ok nmX9 hown hX hH (C := RX9) (T := TX9) (N := 19) (k := 136) (i := 8) (rfl : gKinds[136]? = _) rfl (by decide) (hts _ q_fl_X9_106) rfl rfl rfl rfl dX9_newBand_41 (fun H locs hH => ?_)
    exact g_vretS hx hb0 hr hH hlocks dX9_newBand_44 h
  have hL2 : ∀ (f2 : Nat) (x1_2 : Int) (σ2 : gSt) (H : Heap) (locs : List Loc) (ls : Array Slot), gH D G s H locs σ2 μ → lv_has ls 2 [(1, .int (gI x1_2)), (0, .ref (G.1 136))] → (DX9_newBand_L2 (DX9_newBand_K29) f2 x1_2 σ2) = some σ' → W p l e (headSpec (gWs yX9_newBand cX9_newBand 2 none) ({ frames := 0, cells := 0, slots := 0, locals := 0 } : Room)).room s m ([.ref (G.1 136)] : List Value).toArray below meth c H locs 0 0 (MQ below (gQv D G σ' μ) ([.ref (G.1 136)] : List Value).toArray s 0 0 (gA G)) (F0 m 2 ls []) := by
    intro f2
    induction f2 with
    | zero => intro x1_2 σ2 H locs ls hH hl h; cases h
    | succ f2 ih2 =>
      intro x1_2 σ2 H locs ls hH hl h
      unfold DX9_newBand_L2 at h
      refine lv_iload_n hx hb0 dX9_newBand_2 rfl (lv_at hl 0 rfl) ?_
      refine lv_bipush (v := gI (20 : Int)) hx hb0 dX9_newBand_3 (by decide) ?_
      refine g_icmp_ge (tgt := 29) hx hb0 dX9_newBand_5 (by decide) h (fun h => ?_) (fun h => ?_)
      · exact hK29 _ _ _ _ hH (lv_sub hl [1] rfl) h
      · refine lv_aload_n hx hb0 dX9_newBand_8 rfl (lv_at hl 1 rfl) ?_
        refine g_getR hx hb0 hts q_ws_X9 hown hX hH (C := RX9) (T := TX9) (N := 19) (k := 136) (i := 9) (j := 141) (rfl : gKinds[136]? = _) rfl (by decide) (hts _ q_fl_X9_22) rfl rfl dX9_newBand_9 ?_
        refine lv_bipush (v := gI (20 : Int)) hx hb0 dX9_newBand_12 (by decide) ?_
        refine lv_aload_n hx hb0 dX9_newBand_14 rfl (lv_at hl 1 rfl) ?_
        refine g_getI hx hb0 hts q_ws_X9 hown hX hH (C := RX9) (T := TX9) (N := 19) (k := 136) (i := 7) (rfl : gKinds[136]? = _) rfl (by decide) (hts _ q_fl_X9_103) rfl rfl dX9_newBand_15 ?_
        refine g_imul hx hb0 dX9_newBand_18 ?_
        refine lv_iload_n hx hb0 dX9_newBand_19 rfl (lv_at hl 0 rfl) ?_
        refine g_iadd hx hb0 dX9_newBand_20 ?_
        refine lv_iconst (v := gI (-1 : Int)) hx hb0 dX9_newBand_21 (by decide) ?_
        refine g_iast hx hb0 hX hH (k := 141) (rfl : gKinds[141]? = _) (by decide) dX9_newBand_22 h (fun h H locs hH => ?_)
        refine g_iinc (k := 0) (n := (1 : Int)) (lv' := [(1, .int (gI (x1_2 + (1 : Int)))), (0, .ref (G.1 136))]) hx hb0 dX9_newBand_23 hl rfl (by decide) rfl (fun ls hl => ?_)
        refine lv_goto (tgt := 2) hx hb0 dX9_newBand_26 (by decide) ?_
        exact ih2 _ _ _ _ _ hH (lv_sub hl [0, 1] rfl) h
  exact hL2 gFuel _ _ _ _ _ hH (lv_sub hl [0, 1] rfl) h
def DX9_takesRow (σ : gSt) (a1 : Int) : Option (gSt) :=
  gAt (((20 : Int) * ((σ 136 7) - (1 : Int))) + (σ 136 8)) 480 (some (gUp (gUp σ 141 (Int.toNat (((20 : Int) * ((σ 136 7) - (1 : Int))) + (σ 136 8))) a1) 136 8 (((gUp σ 141 (Int.toNat (((20 : Int) * ((σ 136 7) - (1 : Int))) + (σ 136 8))) a1) 136 8) + (1 : Int))))
set_option maxHeartbeats 4000000 in
set_option maxRecDepth 100000 in
theorem metX9_takesRow (l : Launch) (D : va_G) (G : gAd) (σ : gSt) (μ : gLg) (a1 : Int) (σ' : gSt) (h : DX9_takesRow σ a1 = some σ') : Met l yX9_takesRow (gWs yX9_takesRow cX9_takesRow 2 none) ({ frames := 0, cells := 0, slots := 0, locals := 0 } : Room) (gPc D G [.ref (G.1 136), .int (gI a1)] σ μ) (gQv D G σ' μ) 0 0 (gA G) := by
  refine Met.ofW (cc := cX9_takesRow) (maxL := 2) (ret := none) (by decide) rfl ?_
  intro p e s m args below meth c s₁ B hml hv
  obtain ⟨rfl, hP, hX⟩ := hv
  have hx := B.exec
  have hb0 := B.bytes
  have hr := B.returns
  have hts0 := atoms_spec (ws := (gWs yX9_takesRow cX9_takesRow 2 none)) B.pre
  have hts : ∀ w ∈ gLW, w.before _ s = true := fun w hw => hts0 w (List.mem_cons_of_mem _ hw)
  have hown : s.vm.findClass RX9 = some m.cls := findClass_of_methodNamed B.named
  have hlocks := B.notSynchronized
  have hH : gH D G s s.heap [] σ μ := ⟨hP, va_S.rf⟩
  have hl := lv_entry ([.ref (G.1 136), .int (gI a1)]) (n := 2) (Nat.le_of_ble_eq_true rfl)
  rw [lg_entry_eq]
  generalize (lg_sl ([.ref (G.1 136), .int (gI a1)]) ++ List.replicate (2 - (lg_sl ([.ref (G.1 136), .int (gI a1)])).length) Slot.unset).toArray = ls at hl ⊢
  have hl : lv_has ls 2 [(0, .ref (G.1 136)), (1, .int (gI a1))] := hl
  unfold DX9_takesRow at h
  refine lv_aload_n hx hb0 dX9_takesRow_0 rfl (lv_at hl 0 rfl) ?_
  refine g_getR hx hb0 hts q_ws_X9 hown hX hH (C := RX9) (T := TX9) (N := 19) (k := 136) (i := 9) (j := 141) (rfl : gKinds[136]? = _) rfl (by decide) (hts _ q_fl_X9_22) rfl rfl dX9_takesRow_1 ?_
  refine lv_bipush (v := gI (20 : Int)) hx hb0 dX9_takesRow_4 (by decide) ?_
  refine lv_aload_n hx hb0 dX9_takesRow_6 rfl (lv_at hl 0 rfl) ?_
  refine g_getI hx hb0 hts q_ws_X9 hown hX hH (C := RX9) (T := TX9) (N := 19) (k := 136) (i := 7) (rfl : gKinds[136]? = _) rfl (by decide) (hts _ q_fl_X9_103) rfl rfl dX9_takesRow_7 ?_
  refine lv_iconst (v := gI (1 : Int)) hx hb0 dX9_takesRow_10 (by decide) ?_
  refine g_isub hx hb0 dX9_takesRow_11 ?_
  refine g_imul hx hb0 dX9_takesRow_12 ?_
  refine lv_aload_n hx hb0 dX9_takesRow_13 rfl (lv_at hl 0 rfl) ?_
  refine g_getI hx hb0 hts q_ws_X9 hown hX hH (C := RX9) (T := TX9) (N := 19) (k := 136) (i := 8) (rfl : gKinds[136]? = _) rfl (by decide) (hts _ q_fl_X9_106) rfl rfl dX9_takesRow_14 ?_
  refine g_iadd hx hb0 dX9_takesRow_17 ?_
  refine lv_iload_n hx hb0 dX9_takesRow_18 rfl (lv_at hl 1 rfl) ?_
  refine g_iast hx hb0 hX hH (k := 141) (rfl : gKinds[141]? = _) (by decide) dX9_takesRow_19 h (fun h H locs hH => ?_)
  refine lv_aload_n hx hb0 dX9_takesRow_20 rfl (lv_at hl 0 rfl) ?_
  refine lv_dup hx hb0 dX9_takesRow_21 rfl ?_
  refine g_getI hx hb0 hts q_ws_X9 hown hX hH (C := RX9) (T := TX9) (N := 19) (k := 136) (i := 8) (rfl : gKinds[136]? = _) rfl (by decide) (hts _ q_fl_X9_106) rfl rfl dX9_takesRow_22 ?_
  refine lv_iconst (v := gI (1 : Int)) hx hb0 dX9_takesRow_25 (by decide) ?_
  refine g_iadd hx hb0 dX9_takesRow_26 ?_
  refine g_putI hx hb0 hts q_ws_X9 tyX9 tyX9_ok nmX9 hown hX hH (C := RX9) (T := TX9) (N := 19) (k := 136) (i := 8) (rfl : gKinds[136]? = _) rfl (by decide) (hts _ q_fl_X9_106) rfl rfl rfl rfl dX9_takesRow_27 (fun H locs hH => ?_)
  exact g_vretS hx hb0 hr hH hlocks dX9_takesRow_30 h
def DX9_sizeOf_J30 (R4 : Int → Int → Option (Int)) (x3_4 : Int) (x2_4 : Int) (t0_30 : Int) : Option (Int) :=
  (R4 (x3_4 + (1 : Int)) (x2_4 + t0_30))
def DX9_sizeOf_L4 (σ : gSt) (a1 : Int) : Nat → Int → Int → Option (Int)
  | 0, _, _ => none
  | f4 + 1, x3_4, x2_4 => gAt (4 : Int) 138 (gIf (x3_4 < (σ 137 (Int.toNat (4 : Int)))) x3_4 (σ 137 (Int.toNat (4 : Int))) ((DX9_of σ x3_4 (0 : Int)).bind fun q18 => gIf (q18 = a1) q18 a1 ((DX9_sizeOf_J30 (DX9_sizeOf_L4 σ a1 f4) x3_4 x2_4 (1 : Int))) ((DX9_sizeOf_J30 (DX9_sizeOf_L4 σ a1 f4) x3_4 x2_4 (0 : Int)))) (some x2_4))
def DX9_sizeOf (σ : gSt) (a1 : Int) : Option (Int) :=
  (DX9_sizeOf_L4 σ a1 gFuel (0 : Int) (0 : Int))
set_option maxHeartbeats 4000000 in
set_option maxRecDepth 100000 in
theorem metX9_sizeOf (l : Launch) (D : va_G) (G : gAd) (σ : gSt) (μ : gLg) (a1 : Int) (r : Int) (h : DX9_sizeOf σ a1 = some r) : Met l yX9_sizeOf (gWs yX9_sizeOf cX9_sizeOf 4 (some (Jvm.ClassFile.FieldType.int))) ({ frames := 1, cells := 0, slots := 0, locals := 22 } : Room) (gPc D G [.ref (G.1 136), .int (gI a1)] σ μ) (gQi D G r σ μ) 0 0 (gA G) := by
  refine Met.ofW (cc := cX9_sizeOf) (maxL := 4) (ret := (some (Jvm.ClassFile.FieldType.int))) (by decide) rfl ?_
  intro p e s m args below meth c s₁ B hml hv
  obtain ⟨rfl, hP, hX⟩ := hv
  have hx := B.exec
  have hb0 := B.bytes
  have hr := B.returns
  have hts0 := atoms_spec (ws := (gWs yX9_sizeOf cX9_sizeOf 4 (some (Jvm.ClassFile.FieldType.int)))) B.pre
  have hts : ∀ w ∈ gLW, w.before _ s = true := fun w hw => hts0 w (List.mem_cons_of_mem _ hw)
  have hown : s.vm.findClass RX9 = some m.cls := findClass_of_methodNamed B.named
  have hlocks := B.notSynchronized
  have hH : gH D G s s.heap [] σ μ := ⟨hP, va_S.rf⟩
  have hl := lv_entry ([.ref (G.1 136), .int (gI a1)]) (n := 4) (Nat.le_of_ble_eq_true rfl)
  rw [lg_entry_eq]
  generalize (lg_sl ([.ref (G.1 136), .int (gI a1)]) ++ List.replicate (4 - (lg_sl ([.ref (G.1 136), .int (gI a1)])).length) Slot.unset).toArray = ls at hl ⊢
  have hl : lv_has ls 4 [(0, .ref (G.1 136)), (1, .int (gI a1))] := hl
  unfold DX9_sizeOf at h
  refine lv_iconst (v := gI (0 : Int)) hx hb0 dX9_sizeOf_0 (by decide) ?_
  refine lv_istore_n (lv' := [(2, .int (gI (0 : Int))), (0, .ref (G.1 136)), (1, .int (gI a1))]) hx hb0 dX9_sizeOf_1 rfl hl (by decide) rfl (fun ls hl => ?_)
  refine lv_iconst (v := gI (0 : Int)) hx hb0 dX9_sizeOf_2 (by decide) ?_
  refine lv_istore_n (lv' := [(3, .int (gI (0 : Int))), (2, .int (gI (0 : Int))), (0, .ref (G.1 136)), (1, .int (gI a1))]) hx hb0 dX9_sizeOf_3 rfl hl (by decide) rfl (fun ls hl => ?_)
  have hL4 : ∀ (f4 : Nat) (x3_4 : Int) (x2_4 : Int) (H : Heap) (locs : List Loc) (ls : Array Slot), gH D G s H locs σ μ → lv_has ls 4 [(3, .int (gI x3_4)), (2, .int (gI x2_4)), (0, .ref (G.1 136)), (1, .int (gI a1))] → (DX9_sizeOf_L4 σ a1 f4 x3_4 x2_4) = some r → W p l e (headSpec (gWs yX9_sizeOf cX9_sizeOf 4 (some (Jvm.ClassFile.FieldType.int))) ({ frames := 1, cells := 0, slots := 0, locals := 22 } : Room)).room s m ([.ref (G.1 136), .int (gI a1)] : List Value).toArray below meth c H locs 0 0 (MQ below (gQi D G r σ μ) ([.ref (G.1 136), .int (gI a1)] : List Value).toArray s 0 0 (gA G)) (F0 m 4 ls []) := by
    intro f4
    induction f4 with
    | zero => intro x3_4 x2_4 H locs ls hH hl h; cases h
    | succ f4 ih4 =>
      intro x3_4 x2_4 H locs ls hH hl h
      unfold DX9_sizeOf_L4 at h
      refine lv_iload_n hx hb0 dX9_sizeOf_4 rfl (lv_at hl 0 rfl) ?_
      refine lv_aload_n hx hb0 dX9_sizeOf_5 rfl (lv_at hl 2 rfl) ?_
      refine g_getR hx hb0 hts q_ws_X9 hown hX hH (C := RX9) (T := TX9) (N := 19) (k := 136) (i := 0) (j := 137) (rfl : gKinds[136]? = _) rfl (by decide) (hts _ q_fl_X9_7) rfl rfl dX9_sizeOf_6 ?_
      refine lv_iconst (v := gI (4 : Int)) hx hb0 dX9_sizeOf_9 (by decide) ?_
      refine g_iald hx hb0 hX hH (k := 137) (rfl : gKinds[137]? = _) (by decide) dX9_sizeOf_10 h (fun h => ?_)
      refine g_icmp_ge (tgt := 38) hx hb0 dX9_sizeOf_11 (by decide) h (fun h => ?_) (fun h => ?_)
      · refine lv_iload_n hx hb0 dX9_sizeOf_38 rfl (lv_at hl 1 rfl) ?_
        exact g_iretP hx hb0 hr hH hlocks dX9_sizeOf_39 h
      · refine lv_iload_n hx hb0 dX9_sizeOf_14 rfl (lv_at hl 1 rfl) ?_
        refine lv_aload_n hx hb0 dX9_sizeOf_15 rfl (lv_at hl 2 rfl) ?_
        refine lv_iload_n hx hb0 dX9_sizeOf_16 rfl (lv_at hl 0 rfl) ?_
        refine lv_iconst (v := gI (0 : Int)) hx hb0 dX9_sizeOf_17 (by decide) ?_
        obtain ⟨q18, e18, h⟩ := gBind_some h
        refine g_callVi (k := 136) (T := TX9) (N := 19) (As := [.int (gI x3_4), .int (gI (0 : Int))]) (rest := [.int (gI x2_4)]) ⟨hx, hb0, hml, hown, hts⟩ (metX9_of l D G σ μ x3_4 (0 : Int) q18 e18) (g_cwV (C := RX9) 2 hts q_ml_X9_55 q_im_X9_of q_se_X9_of q_in_X9 q_co_X9_of ⟨rfl, rfl⟩ (by decide +kernel) ⟨Nat.le_of_ble_eq_true rfl, Nat.le_of_ble_eq_true rfl⟩) hX hH (rfl : gKinds[136]? = _) rfl rfl hl.1 rfl (Nat.le_of_ble_eq_true rfl) dX9_sizeOf_18 ⟨Nat.zero_le _, Nat.zero_le _⟩ (fun H locs hH => ?_)
        refine lv_iload_n hx hb0 dX9_sizeOf_21 rfl (lv_at hl 3 rfl) ?_
        have hJ30 : ∀ (t0_30 : Int) (H : Heap) (locs : List Loc) (ls : Array Slot), gH D G s H locs σ μ → lv_has ls 4 [(3, .int (gI x3_4)), (0, .ref (G.1 136)), (1, .int (gI a1))] → (DX9_sizeOf_J30 (DX9_sizeOf_L4 σ a1 f4) x3_4 x2_4 t0_30) = some r → W p l e (headSpec (gWs yX9_sizeOf cX9_sizeOf 4 (some (Jvm.ClassFile.FieldType.int))) ({ frames := 1, cells := 0, slots := 0, locals := 22 } : Room)).room s m ([.ref (G.1 136), .int (gI a1)] : List Value).toArray below meth c H locs 0 0 (MQ below (gQi D G r σ μ) ([.ref (G.1 136), .int (gI a1)] : List Value).toArray s 0 0 (gA G)) (F0 m 30 ls [.int (gI t0_30), .int (gI x2_4)]) := by
          intro t0_30 H locs ls hH hl h
          unfold DX9_sizeOf_J30 at h
          refine g_iadd hx hb0 dX9_sizeOf_30 ?_
          refine lv_istore_n (lv' := [(2, .int (gI (x2_4 + t0_30))), (3, .int (gI x3_4)), (0, .ref (G.1 136)), (1, .int (gI a1))]) hx hb0 dX9_sizeOf_31 rfl hl (by decide) rfl (fun ls hl => ?_)
          refine g_iinc (k := 1) (n := (1 : Int)) (lv' := [(3, .int (gI (x3_4 + (1 : Int)))), (2, .int (gI (x2_4 + t0_30))), (0, .ref (G.1 136)), (1, .int (gI a1))]) hx hb0 dX9_sizeOf_32 hl rfl (by decide) rfl (fun ls hl => ?_)
          refine lv_goto (tgt := 4) hx hb0 dX9_sizeOf_35 (by decide) ?_
          exact ih4 _ _ _ _ _ hH (lv_sub hl [0, 1, 2, 3] rfl) h
        refine g_icmp_ne (tgt := 29) hx hb0 dX9_sizeOf_22 (by decide) h (fun h => ?_) (fun h => ?_)
        · refine lv_iconst (v := gI (0 : Int)) hx hb0 dX9_sizeOf_29 (by decide) ?_
          exact hJ30 _ _ _ _ hH (lv_sub hl [0, 2, 3] rfl) h
        · refine lv_iconst (v := gI (1 : Int)) hx hb0 dX9_sizeOf_25 (by decide) ?_
          refine lv_goto (tgt := 30) hx hb0 dX9_sizeOf_26 (by decide) ?_
          exact hJ30 _ _ _ _ hH (lv_sub hl [0, 2, 3] rfl) h
  exact hL4 gFuel _ _ _ _ _ hH (lv_sub hl [0, 1, 2, 3] rfl) h
def DX9_next_J106 (R5 : Int → Int → Option (Int)) (x4_5 : Int) (x3_106 : Int) : Option (Int) :=
  (R5 (x4_5 + (1 : Int)) x3_106)
def DX9_next_J103 (R5 : Int → Int → Option (Int)) (x4_5 : Int) : Option (Int) :=
  (DX9_next_J106 R5 x4_5 x4_5)
def DX9_next_J64 (σ : gSt) (a1 : Int) (R5 : Int → Int → Option (Int)) (x4_5 : Int) (x3_5 : Int) (t0_64 : Int) : Option (Int) :=
  (DX9_of σ x4_5 (0 : Int)).bind fun q70 => gIf (q70 = a1) q70 a1 (gIf (t0_64 = (0 : Int)) t0_64 (0 : Int) ((DX9_next_J106 R5 x4_5 x3_5)) (gIf (x3_5 = (-1 : Int)) x3_5 (-1 : Int) ((DX9_next_J103 R5 x4_5)) ((DX9_of σ x4_5 (1 : Int)).bind fun q91 => (DX9_of σ x3_5 (1 : Int)).bind fun q97 => gIf (q91 < q97) q91 q97 ((DX9_next_J103 R5 x4_5)) ((DX9_next_J106 R5 x4_5 x3_5))))) ((DX9_next_J106 R5 x4_5 x3_5))
def DX9_next_J59 (σ : gSt) (a1 : Int) (R5 : Int → Int → Option (Int)) (x4_5 : Int) (x3_5 : Int) : Option (Int) :=
  (DX9_next_J64 σ a1 R5 x4_5 x3_5 (1 : Int))
def DX9_next_J63 (σ : gSt) (a1 : Int) (R5 : Int → Int → Option (Int)) (x4_5 : Int) (x3_5 : Int) : Option (Int) :=
  (DX9_next_J64 σ a1 R5 x4_5 x3_5 (0 : Int))
def DX9_next_L5 (σ : gSt) (a1 : Int) (a2 : Int) : Nat → Int → Int → Option (Int)
  | 0, _, _ => none
  | f5 + 1, x4_5, x3_5 => gAt (4 : Int) 138 (gIf (x4_5 < (σ 137 (Int.toNat (4 : Int)))) x4_5 (σ 137 (Int.toNat (4 : Int))) (gIf (a2 = (-1 : Int)) a2 (-1 : Int) ((DX9_next_J59 σ a1 (DX9_next_L5 σ a1 a2 f5) x4_5 x3_5)) ((DX9_of σ x4_5 (1 : Int)).bind fun q25 => (DX9_of σ a2 (1 : Int)).bind fun q31 => gIf (q31 < q25) q25 q31 ((DX9_next_J59 σ a1 (DX9_next_L5 σ a1 a2 f5) x4_5 x3_5)) ((DX9_of σ x4_5 (1 : Int)).bind fun q41 => (DX9_of σ a2 (1 : Int)).bind fun q47 => gIf (q41 = q47) q41 q47 (gIf (a2 < x4_5) x4_5 a2 ((DX9_next_J59 σ a1 (DX9_next_L5 σ a1 a2 f5) x4_5 x3_5)) ((DX9_next_J63 σ a1 (DX9_next_L5 σ a1 a2 f5) x4_5 x3_5))) ((DX9_next_J63 σ a1 (DX9_next_L5 σ a1 a2 f5) x4_5 x3_5))))) (some x3_5))
def DX9_next (σ : gSt) (a1 : Int) (a2 : Int) : Option (Int) :=
  (DX9_next_L5 σ a1 a2 gFuel (0 : Int) (-1 : Int))
set_option maxHeartbeats 4000000 in
set_option maxRecDepth 100000 in
theorem metX9_next (l : Launch) (D : va_G) (G : gAd) (σ : gSt) (μ : gLg) (a1 : Int) (a2 : Int) (r : Int) (h : DX9_next σ a1 a2 = some r) : Met l yX9_next (gWs yX9_next cX9_next 6 (some (Jvm.ClassFile.FieldType.int))) ({ frames := 1, cells := 0, slots := 0, locals := 22 } : Room) (gPc D G [.ref (G.1 136), .int (gI a1), .int (gI a2)] σ μ) (gQi D G r σ μ) 0 0 (gA G) := by
  refine Met.ofW (cc := cX9_next) (maxL := 6) (ret := (some (Jvm.ClassFile.FieldType.int))) (by decide) rfl ?_
  intro p e s m args below meth c s₁ B hml hv
  obtain ⟨rfl, hP, hX⟩ := hv
  have hx := B.exec
  have hb0 := B.bytes
  have hr := B.returns
  have hts0 := atoms_spec (ws := (gWs yX9_next cX9_next 6 (some (Jvm.ClassFile.FieldType.int)))) B.pre
  have hts : ∀ w ∈ gLW, w.before _ s = true := fun w hw => hts0 w (List.mem_cons_of_mem _ hw)
  have hown : s.vm.findClass RX9 = some m.cls := findClass_of_methodNamed B.named
  have hlocks := B.notSynchronized
  have hH : gH D G s s.heap [] σ μ := ⟨hP, va_S.rf⟩
  have hl := lv_entry ([.ref (G.1 136), .int (gI a1), .int (gI a2)]) (n := 6) (Nat.le_of_ble_eq_true rfl)
  rw [lg_entry_eq]
  generalize (lg_sl ([.ref (G.1 136), .int (gI a1), .int (gI a2)]) ++ List.replicate (6 - (lg_sl ([.ref (G.1 136), .int (gI a1), .int (gI a2)])).length) Slot.unset).toArray = ls at hl ⊢
  have hl : lv_has ls 6 [(0, .ref (G.1 136)), (1, .int (gI a1)), (2, .int (gI a2))] := hl
  unfold DX9_next at h
  refine lv_iconst (v := gI (-1 : Int)) hx hb0 dX9_next_0 (by decide) ?_
  refine lv_istore_n (lv' := [(3, .int (gI (-1 : Int))), (0, .ref (G.1 136)), (1, .int (gI a1)), (2, .int (gI a2))]) hx hb0 dX9_next_1 rfl hl (by decide) rfl (fun ls hl => ?_)
  refine lv_iconst (v := gI (0 : Int)) hx hb0 dX9_next_2 (by decide) ?_
  refine lv_istore (lv' := [(4, .int (gI (0 : Int))), (3, .int (gI (-1 : Int))), (0, .ref (G.1 136)), (1, .int (gI a1)), (2, .int (gI a2))]) hx hb0 dX9_next_3 hl (by decide) rfl (fun ls hl => ?_)
  have hL5 : ∀ (f5 : Nat) (x4_5 : Int) (x3_5 : Int) (H : Heap) (locs : List Loc) (ls : Array Slot), gH D G s H locs σ μ → lv_has ls 6 [(4, .int (gI x4_5)), (3, .int (gI x3_5)), (0, .ref (G.1 136)), (1, .int (gI a1)), (2, .int (gI a2))] → (DX9_next_L5 σ a1 a2 f5 x4_5 x3_5) = some r → W p l e (headSpec (gWs yX9_next cX9_next 6 (some (Jvm.ClassFile.FieldType.int))) ({ frames := 1, cells := 0, slots := 0, locals := 22 } : Room)).room s m ([.ref (G.1 136), .int (gI a1), .int (gI a2)] : List Value).toArray below meth c H locs 0 0 (MQ below (gQi D G r σ μ) ([.ref (G.1 136), .int (gI a1), .int (gI a2)] : List Value).toArray s 0 0 (gA G)) (F0 m 5 ls []) := by
    intro f5
    induction f5 with
    | zero => intro x4_5 x3_5 H locs ls hH hl h; cases h
    | succ f5 ih5 =>
      intro x4_5 x3_5 H locs ls hH hl h
      unfold DX9_next_L5 at h
      refine lv_iload hx hb0 dX9_next_5 (lv_at hl 0 rfl) ?_
      refine lv_aload_n hx hb0 dX9_next_7 rfl (lv_at hl 2 rfl) ?_
      refine g_getR hx hb0 hts q_ws_X9 hown hX hH (C := RX9) (T := TX9) (N := 19) (k := 136) (i := 0) (j := 137) (rfl : gKinds[136]? = _) rfl (by decide) (hts _ q_fl_X9_7) rfl rfl dX9_next_8 ?_
      refine lv_iconst (v := gI (4 : Int)) hx hb0 dX9_next_11 (by decide) ?_
      refine g_iald hx hb0 hX hH (k := 137) (rfl : gKinds[137]? = _) (by decide) dX9_next_12 h (fun h => ?_)
      refine g_icmp_ge (tgt := 112) hx hb0 dX9_next_13 (by decide) h (fun h => ?_) (fun h => ?_)
      · refine lv_iload_n hx hb0 dX9_next_112 rfl (lv_at hl 1 rfl) ?_
        exact g_iretP hx hb0 hr hH hlocks dX9_next_113 h
      · refine lv_iload_n hx hb0 dX9_next_16 rfl (lv_at hl 4 rfl) ?_
        refine lv_iconst (v := gI (-1 : Int)) hx hb0 dX9_next_17 (by decide) ?_
        have hJ64 : ∀ (t0_64 : Int) (H : Heap) (locs : List Loc) (ls : Array Slot), gH D G s H locs σ μ → lv_has ls 6 [(4, .int (gI x4_5)), (3, .int (gI x3_5)), (0, .ref (G.1 136)), (1, .int (gI a1)), (2, .int (gI a2))] → (DX9_next_J64 σ a1 (DX9_next_L5 σ a1 a2 f5) x4_5 x3_5 t0_64) = some r → W p l e (headSpec (gWs yX9_next cX9_next 6 (some (Jvm.ClassFile.FieldType.int))) ({ frames := 1, cells := 0, slots := 0, locals := 22 } : Room)).room s m ([.ref (G.1 136), .int (gI a1), .int (gI a2)] : List Value).toArray below meth c H locs 0 0 (MQ below (gQi D G r σ μ) ([.ref (G.1 136), .int (gI a1), .int (gI a2)] : List Value).toArray s 0 0 (gA G)) (F0 m 64 ls [.int (gI t0_64)]) := by
          intro t0_64 H locs ls hH hl h
          unfold DX9_next_J64 at h
          refine lv_istore (lv' := [(5, .int (gI t0_64)), (4, .int (gI x4_5)), (3, .int (gI x3_5)), (0, .ref (G.1 136)), (1, .int (gI a1)), (2, .int (gI a2))]) hx hb0 dX9_next_64 hl (by decide) rfl (fun ls hl => ?_)
          refine lv_aload_n hx hb0 dX9_next_66 rfl (lv_at hl 3 rfl) ?_
          refine lv_iload hx hb0 dX9_next_67 (lv_at hl 1 rfl) ?_
          refine lv_iconst (v := gI (0 : Int)) hx hb0 dX9_next_69 (by decide) ?_
          obtain ⟨q70, e70, h⟩ := gBind_some h
          refine g_callVi (k := 136) (T := TX9) (N := 19) (As := [.int (gI x4_5), .int (gI (0 : Int))]) (rest := []) ⟨hx, hb0, hml, hown, hts⟩ (metX9_of l D G σ μ x4_5 (0 : Int) q70 e70) (g_cwV (C := RX9) 2 hts q_ml_X9_55 q_im_X9_of q_se_X9_of q_in_X9 q_co_X9_of ⟨rfl, rfl⟩ (by decide +kernel) ⟨Nat.le_of_ble_eq_true rfl, Nat.le_of_ble_eq_true rfl⟩) hX hH (rfl : gKinds[136]? = _) rfl rfl hl.1 rfl (Nat.le_of_ble_eq_true rfl) dX9_next_70 ⟨Nat.zero_le _, Nat.zero_le _⟩ (fun H locs hH => ?_)
          refine lv_iload_n hx hb0 dX9_next_73 rfl (lv_at hl 4 rfl) ?_
          have hJ106 : ∀ (x3_106 : Int) (H : Heap) (locs : List Loc) (ls : Array Slot), gH D G s H locs σ μ → lv_has ls 6 [(4, .int (gI x4_5)), (3, .int (gI x3_106)), (0, .ref (G.1 136)), (1, .int (gI a1)), (2, .int (gI a2))] → (DX9_next_J106 (DX9_next_L5 σ a1 a2 f5) x4_5 x3_106) = some r → W p l e (headSpec (gWs yX9_next cX9_next 6 (some (Jvm.ClassFile.FieldType.int))) ({ frames := 1, cells := 0, slots := 0, locals := 22 } : Room)).room s m ([.ref (G.1 136), .int (gI a1), .int (gI a2)] : List Value).toArray below meth c H locs 0 0 (MQ below (gQi D G r σ μ) ([.ref (G.1 136), .int (gI a1), .int (gI a2)] : List Value).toArray s 0 0 (gA G)) (F0 m 106 ls []) := by
            intro x3_106 H locs ls hH hl h
            unfold DX9_next_J106 at h
            refine g_iinc (k := 0) (n := (1 : Int)) (lv' := [(4, .int (gI (x4_5 + (1 : Int)))), (3, .int (gI x3_106)), (0, .ref (G.1 136)), (1, .int (gI a1)), (2, .int (gI a2))]) hx hb0 dX9_next_106 hl rfl (by decide) rfl (fun ls hl => ?_)
            refine lv_goto (tgt := 5) hx hb0 dX9_next_109 (by decide) ?_
            exact ih5 _ _ _ _ _ hH (lv_sub hl [0, 1, 2, 3, 4] rfl) h
          refine g_icmp_ne (tgt := 106) hx hb0 dX9_next_74 (by decide) h (fun h => ?_) (fun h => ?_)
          · exact hJ106 _ _ _ _ hH (lv_sub hl [1, 2, 3, 4, 5] rfl) h
          · refine lv_iload hx hb0 dX9_next_77 (lv_at hl 0 rfl) ?_
            refine g_if_eq (tgt := 106) hx hb0 dX9_next_79 (by decide) h (fun h => ?_) (fun h => ?_)
            · exact hJ106 _ _ _ _ hH (lv_sub hl [1, 2, 3, 4, 5] rfl) h
            · refine lv_iload_n hx hb0 dX9_next_82 rfl (lv_at hl 2 rfl) ?_
              refine lv_iconst (v := gI (-1 : Int)) hx hb0 dX9_next_83 (by decide) ?_
              have hJ103 : ∀  (H : Heap) (locs : List Loc) (ls : Array Slot), gH D G s H locs σ μ → lv_has ls 6 [(4, .int (gI x4_5)), (0, .ref (G.1 136)), (1, .int (gI a1)), (2, .int (gI a2))] → (DX9_next_J103 (DX9_next_L5 σ a1 a2 f5) x4_5) = some r → W p l e (headSpec (gWs yX9_next cX9_next 6 (some (Jvm.ClassFile.FieldType.int))) ({ frames := 1, cells := 0, slots := 0, locals := 22 } : Room)).room s m ([.ref (G.1 136), .int (gI a1), .int (gI a2)] : List Value).toArray below meth c H locs 0 0 (MQ below (gQi D G r σ μ) ([.ref (G.1 136), .int (gI a1), .int (gI a2)] : List Value).toArray s 0 0 (gA G)) (F0 m 103 ls []) := by
                intro H locs ls hH hl h
                unfold DX9_next_J103 at h
                refine lv_iload hx hb0 dX9_next_103 (lv_at hl 0 rfl) ?_
                refine lv_istore_n (lv' := [(3, .int (gI x4_5)), (4, .int (gI x4_5)), (0, .ref (G.1 136)), (1, .int (gI a1)), (2, .int (gI a2))]) hx hb0 dX9_next_105 rfl hl (by decide) rfl (fun ls hl => ?_)
                exact hJ106 _ _ _ _ hH (lv_sub hl [1, 0, 2, 3, 4] rfl) h
              refine g_icmp_eq (tgt := 103) hx hb0 dX9_next_84 (by decide) h (fun h => ?_) (fun h => ?_)
              · exact hJ103  _ _ _ hH (lv_sub hl [1, 3, 4, 5] rfl) h
              · refine lv_aload_n hx hb0 dX9_next_87 rfl (lv_at hl 3 rfl) ?_
                refine lv_iload hx hb0 dX9_next_88 (lv_at hl 1 rfl) ?_
                refine lv_iconst (v := gI (1 : Int)) hx hb0 dX9_next_90 (by decide) ?_
                obtain ⟨q91, e91, h⟩ := gBind_some h
                refine g_callVi (k := 136) (T := TX9) (N := 19) (As := [.int (gI x4_5), .int (gI (1 : Int))]) (rest := []) ⟨hx, hb0, hml, hown, hts⟩ (metX9_of l D G σ μ x4_5 (1 : Int) q91 e91) (g_cwV (C := RX9) 2 hts q_ml_X9_55 q_im_X9_of q_se_X9_of q_in_X9 q_co_X9_of ⟨rfl, rfl⟩ (by decide +kernel) ⟨Nat.le_of_ble_eq_true rfl, Nat.le_of_ble_eq_true rfl⟩) hX hH (rfl : gKinds[136]? = _) rfl rfl hl.1 rfl (Nat.le_of_ble_eq_true rfl) dX9_next_91 ⟨Nat.zero_le _, Nat.zero_le _⟩ (fun H locs hH => ?_)
                refine lv_aload_n hx hb0 dX9_next_94 rfl (lv_at hl 3 rfl) ?_
                refine lv_iload_n hx hb0 dX9_next_95 rfl (lv_at hl 2 rfl) ?_
                refine lv_iconst (v := gI (1 : Int)) hx hb0 dX9_next_96 (by decide) ?_
                obtain ⟨q97, e97, h⟩ := gBind_some h
                refine g_callVi (k := 136) (T := TX9) (N := 19) (As := [.int (gI x3_5), .int (gI (1 : Int))]) (rest := [.int (gI q91)]) ⟨hx, hb0, hml, hown, hts⟩ (metX9_of l D G σ μ x3_5 (1 : Int) q97 e97) (g_cwV (C := RX9) 2 hts q_ml_X9_55 q_im_X9_of q_se_X9_of q_in_X9 q_co_X9_of ⟨rfl, rfl⟩ (by decide +kernel) ⟨Nat.le_of_ble_eq_true rfl, Nat.le_of_ble_eq_true rfl⟩) hX hH (rfl : gKinds[136]? = _) rfl rfl hl.1 rfl (Nat.le_of_ble_eq_true rfl) dX9_next_97 ⟨Nat.zero_le _, Nat.zero_le _⟩ (fun H locs hH => ?_)
                refine g_icmp_ge (tgt := 106) hx hb0 dX9_next_100 (by decide) h (fun h => ?_) (fun h => ?_)
                · exact hJ106 _ _ _ _ hH (lv_sub hl [1, 2, 3, 4, 5] rfl) h
                · exact hJ103  _ _ _ hH (lv_sub hl [1, 3, 4, 5] rfl) h
        have hJ59 : ∀  (H : Heap) (locs : List Loc) (ls : Array Slot), gH D G s H locs σ μ → lv_has ls 6 [(4, .int (gI x4_5)), (3, .int (gI x3_5)), (0, .ref (G.1 136)), (1, .int (gI a1)), (2, .int (gI a2))] → (DX9_next_J59 σ a1 (DX9_next_L5 σ a1 a2 f5) x4_5 x3_5) = some r → W p l e (headSpec (gWs yX9_next cX9_next 6 (some (Jvm.ClassFile.FieldType.int))) ({ frames := 1, cells := 0, slots := 0, locals := 22 } : Room)).room s m ([.ref (G.1 136), .int (gI a1), .int (gI a2)] : List Value).toArray below meth c H locs 0 0 (MQ below (gQi D G r σ μ) ([.ref (G.1 136), .int (gI a1), .int (gI a2)] : List Value).toArray s 0 0 (gA G)) (F0 m 59 ls []) := by
          intro H locs ls hH hl h
          unfold DX9_next_J59 at h
          refine lv_iconst (v := gI (1 : Int)) hx hb0 dX9_next_59 (by decide) ?_
          refine lv_goto (tgt := 64) hx hb0 dX9_next_60 (by decide) ?_
          exact hJ64 _ _ _ _ hH (lv_sub hl [0, 1, 2, 3, 4] rfl) h
        refine g_icmp_eq (tgt := 59) hx hb0 dX9_next_18 (by decide) h (fun h => ?_) (fun h => ?_)
        · exact hJ59  _ _ _ hH (lv_sub hl [0, 1, 2, 3, 4] rfl) h
        · refine lv_aload_n hx hb0 dX9_next_21 rfl (lv_at hl 2 rfl) ?_
          refine lv_iload hx hb0 dX9_next_22 (lv_at hl 0 rfl) ?_
          refine lv_iconst (v := gI (1 : Int)) hx hb0 dX9_next_24 (by decide) ?_
          obtain ⟨q25, e25, h⟩ := gBind_some h
          refine g_callVi (k := 136) (T := TX9) (N := 19) (As := [.int (gI x4_5), .int (gI (1 : Int))]) (rest := []) ⟨hx, hb0, hml, hown, hts⟩ (metX9_of l D G σ μ x4_5 (1 : Int) q25 e25) (g_cwV (C := RX9) 2 hts q_ml_X9_55 q_im_X9_of q_se_X9_of q_in_X9 q_co_X9_of ⟨rfl, rfl⟩ (by decide +kernel) ⟨Nat.le_of_ble_eq_true rfl, Nat.le_of_ble_eq_true rfl⟩) hX hH (rfl : gKinds[136]? = _) rfl rfl hl.1 rfl (Nat.le_of_ble_eq_true rfl) dX9_next_25 ⟨Nat.zero_le _, Nat.zero_le _⟩ (fun H locs hH => ?_)
          refine lv_aload_n hx hb0 dX9_next_28 rfl (lv_at hl 2 rfl) ?_
          refine lv_iload_n hx hb0 dX9_next_29 rfl (lv_at hl 4 rfl) ?_
          refine lv_iconst (v := gI (1 : Int)) hx hb0 dX9_next_30 (by decide) ?_
          obtain ⟨q31, e31, h⟩ := gBind_some h
          refine g_callVi (k := 136) (T := TX9) (N := 19) (As := [.int (gI a2), .int (gI (1 : Int))]) (rest := [.int (gI q25)]) ⟨hx, hb0, hml, hown, hts⟩ (metX9_of l D G σ μ a2 (1 : Int) q31 e31) (g_cwV (C := RX9) 2 hts q_ml_X9_55 q_im_X9_of q_se_X9_of q_in_X9 q_co_X9_of ⟨rfl, rfl⟩ (by decide +kernel) ⟨Nat.le_of_ble_eq_true rfl, Nat.le_of_ble_eq_true rfl⟩) hX hH (rfl : gKinds[136]? = _) rfl rfl hl.1 rfl (Nat.le_of_ble_eq_true rfl) dX9_next_31 ⟨Nat.zero_le _, Nat.zero_le _⟩ (fun H locs hH => ?_)
          refine g_icmp_gt (tgt := 59) hx hb0 dX9_next_34 (by decide) h (fun h => ?_) (fun h => ?_)
          · exact hJ59  _ _ _ hH (lv_sub hl [0, 1, 2, 3, 4] rfl) h
          · refine lv_aload_n hx hb0 dX9_next_37 rfl (lv_at hl 2 rfl) ?_
            refine lv_iload hx hb0 dX9_next_38 (lv_at hl 0 rfl) ?_
            refine lv_iconst (v := gI (1 : Int)) hx hb0 dX9_next_40 (by decide) ?_
            obtain ⟨q41, e41, h⟩ := gBind_some h
            refine g_callVi (k := 136) (T := TX9) (N := 19) (As := [.int (gI x4_5), .int (gI (1 : Int))]) (rest := []) ⟨hx, hb0, hml, hown, hts⟩ (metX9_of l D G σ μ x4_5 (1 : Int) q41 e41) (g_cwV (C := RX9) 2 hts q_ml_X9_55 q_im_X9_of q_se_X9_of q_in_X9 q_co_X9_of ⟨rfl, rfl⟩ (by decide +kernel) ⟨Nat.le_of_ble_eq_true rfl, Nat.le_of_ble_eq_true rfl⟩) hX hH (rfl : gKinds[136]? = _) rfl rfl hl.1 rfl (Nat.le_of_ble_eq_true rfl) dX9_next_41 ⟨Nat.zero_le _, Nat.zero_le _⟩ (fun H locs hH => ?_)
            refine lv_aload_n hx hb0 dX9_next_44 rfl (lv_at hl 2 rfl) ?_
            refine lv_iload_n hx hb0 dX9_next_45 rfl (lv_at hl 4 rfl) ?_
            refine lv_iconst (v := gI (1 : Int)) hx hb0 dX9_next_46 (by decide) ?_
            obtain ⟨q47, e47, h⟩ := gBind_some h
            refine g_callVi (k := 136) (T := TX9) (N := 19) (As := [.int (gI a2), .int (gI (1 : Int))]) (rest := [.int (gI q41)]) ⟨hx, hb0, hml, hown, hts⟩ (metX9_of l D G σ μ a2 (1 : Int) q47 e47) (g_cwV (C := RX9) 2 hts q_ml_X9_55 q_im_X9_of q_se_X9_of q_in_X9 q_co_X9_of ⟨rfl, rfl⟩ (by decide +kernel) ⟨Nat.le_of_ble_eq_true rfl, Nat.le_of_ble_eq_true rfl⟩) hX hH (rfl : gKinds[136]? = _) rfl rfl hl.1 rfl (Nat.le_of_ble_eq_true rfl) dX9_next_47 ⟨Nat.zero_le _, Nat.zero_le _⟩ (fun H locs hH => ?_)
            have hJ63 : ∀  (H : Heap) (locs : List Loc) (ls : Array Slot), gH D G s H locs σ μ → lv_has ls 6 [(4, .int (gI x4_5)), (3, .int (gI x3_5)), (0, .ref (G.1 136)), (1, .int (gI a1)), (2, .int (gI a2))] → (DX9_next_J63 σ a1 (DX9_next_L5 σ a1 a2 f5) x4_5 x3_5) = some r → W p l e (headSpec (gWs yX9_next cX9_next 6 (some (Jvm.ClassFile.FieldType.int))) ({ frames := 1, cells := 0, slots := 0, locals := 22 } : Room)).room s m ([.ref (G.1 136), .int (gI a1), .int (gI a2)] : List Value).toArray below meth c H locs 0 0 (MQ below (gQi D G r σ μ) ([.ref (G.1 136), .int (gI a1), .int (gI a2)] : List Value).toArray s 0 0 (gA G)) (F0 m 63 ls []) := by
              intro H locs ls hH hl h
              unfold DX9_next_J63 at h
              refine lv_iconst (v := gI (0 : Int)) hx hb0 dX9_next_63 (by decide) ?_
              exact hJ64 _ _ _ _ hH (lv_sub hl [0, 1, 2, 3, 4] rfl) h
            refine g_icmp_ne (tgt := 63) hx hb0 dX9_next_50 (by decide) h (fun h => ?_) (fun h => ?_)
            · exact hJ63  _ _ _ hH (lv_sub hl [0, 1, 2, 3, 4] rfl) h
            · refine lv_iload hx hb0 dX9_next_53 (lv_at hl 0 rfl) ?_
              refine lv_iload_n hx hb0 dX9_next_55 rfl (lv_at hl 4 rfl) ?_
              refine g_icmp_le (tgt := 63) hx hb0 dX9_next_56 (by decide) h (fun h => ?_) (fun h => ?_)
              · exact hJ63  _ _ _ hH (lv_sub hl [0, 1, 2, 3, 4] rfl) h
              · exact hJ59  _ _ _ hH (lv_sub hl [0, 1, 2, 3, 4] rfl) h
  exact hL5 gFuel _ _ _ _ _ hH (lv_sub hl [0, 1, 2, 3, 4] rfl) h
