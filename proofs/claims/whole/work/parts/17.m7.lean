def DX9_sheet (σ : gSt) (a1 : Int) (a2 : Int) : Option (Int × gSt) :=
  (DX9_prints σ).bind fun q1 => (DX9_in q1 a1 (0 : Int) ((q1 136 12) - (1 : Int))).bind fun q12 => gIf (q12 = (0 : Int)) q12 (0 : Int) ((DX9_fails q1 (1 : Int)).bind fun q20 => some (q20.1, q20.2)) ((DX9_in q1 a2 (0 : Int) (4 : Int)).bind fun q27 => gIf (q27 = (0 : Int)) q27 (0 : Int) ((DX9_fails q1 (2 : Int)).bind fun q48 => some (q48.1, q48.2)) ((DX9_sheetTold q1 a1 a2).bind fun q37 => (DX9_tells q1 q37).bind fun q40 => some (q40.1, q40.2)))
set_option maxHeartbeats 4000000 in
set_option maxRecDepth 100000 in
theorem metX9_sheet (l : Launch) (D : va_G) (G : gAd) (σ : gSt) (μ : gLg) (a1 : Int) (a2 : Int) (r : Int) (σ' : gSt) (h : DX9_sheet σ a1 a2 = some (r, σ')) : Met l yX9_sheet (gWs yX9_sheet cX9_sheet 3 (some (Jvm.ClassFile.FieldType.int))) ({ frames := 6, cells := 0, slots := 0, locals := 139 } : Room) (gPc D G [.ref (G.1 136), .int (gI a1), .int (gI a2)] σ μ) (gQi D G r σ' μ) 0 0 (gA G) := by
  refine Met.ofW (cc := cX9_sheet) (maxL := 3) (ret := (some (Jvm.ClassFile.FieldType.int))) (by decide) rfl ?_
  intro p e s m args below meth c s₁ B hml hv
  obtain ⟨rfl, hP, hX⟩ := hv
  have hx := B.exec
  have hb0 := B.bytes
  have hr := B.returns
  have hts0 := atoms_spec (ws := (gWs yX9_sheet cX9_sheet 3 (some (Jvm.ClassFile.FieldType.int)))) B.pre
  have hts : ∀ w ∈ gLW, w.before _ s = true := fun w hw => hts0 w (List.mem_cons_of_mem _ hw)
  have hown : s.vm.findClass RX9 = some m.cls := findClass_of_methodNamed B.named
  have hlocks := B.notSynchronized
  have hH : gH D G s s.heap [] σ μ := ⟨hP, va_S.rf⟩
  have hl := lv_entry ([.ref (G.1 136), .int (gI a1), .int (gI a2)]) (n := 3) (Nat.le_of_ble_eq_true rfl)
  rw [lg_entry_eq]
  generalize (lg_sl ([.ref (G.1 136), .int (gI a1), .int (gI a2)]) ++ List.replicate (3 - (lg_sl ([.ref (G.1 136), .int (gI a1), .int (gI a2)])).length) Slot.unset).toArray = ls at hl ⊢
  have hl : lv_has ls 3 [(0, .ref (G.1 136)), (1, .int (gI a1)), (2, .int (gI a2))] := hl
  unfold DX9_sheet at h
  refine lv_aload_n hx hb0 dX9_sheet_0 rfl (lv_at hl 0 rfl) ?_
  obtain ⟨q1, e1, h⟩ := gBind_some h
  refine g_callVv (k := 136) (T := TX9) (N := 19) (As := []) (rest := []) ⟨hx, hb0, hml, hown, hts⟩ (metX9_prints l D G σ μ q1 e1) (g_cwV (C := RX9) 0 hts q_ml_X9_155 q_im_X9_prints q_se_X9_prints q_in_X9 q_co_X9_prints ⟨rfl, rfl⟩ (by decide +kernel) ⟨Nat.le_of_ble_eq_true rfl, Nat.le_of_ble_eq_true rfl⟩) hX hH (rfl : gKinds[136]? = _) rfl rfl hl.1 rfl (Nat.le_of_ble_eq_true rfl) dX9_sheet_1 ⟨Nat.zero_le _, Nat.zero_le _⟩ (fun H locs hH => ?_)
  refine lv_iload_n hx hb0 dX9_sheet_4 rfl (lv_at hl 1 rfl) ?_
  refine lv_iconst (v := gI (0 : Int)) hx hb0 dX9_sheet_5 (by decide) ?_
  refine lv_aload_n hx hb0 dX9_sheet_6 rfl (lv_at hl 0 rfl) ?_
  refine g_getI hx hb0 hts q_ws_X9 hown hX hH (C := RX9) (T := TX9) (N := 19) (k := 136) (i := 12) (rfl : gKinds[136]? = _) rfl (by decide) (hts _ q_fl_X9_130) rfl rfl dX9_sheet_7 ?_
  refine lv_iconst (v := gI (1 : Int)) hx hb0 dX9_sheet_10 (by decide) ?_
  refine g_isub hx hb0 dX9_sheet_11 ?_
  obtain ⟨q12, e12, h⟩ := gBind_some h
  refine g_callSi (As := [.int (gI a1), .int (gI (0 : Int)), .int (gI ((q1 136 12) - (1 : Int)))]) (rest := []) ⟨hx, hb0, hml, hown, hts⟩ (metX9_in l D G q1 μ a1 (0 : Int) ((q1 136 12) - (1 : Int)) q12 e12) (g_cwS 3 hts q_ml_X9_51 q_st_X9_in q_in_X9 q_co_X9_in ⟨rfl, rfl⟩ (by decide +kernel) ⟨Nat.le_of_ble_eq_true rfl, Nat.le_of_ble_eq_true rfl⟩) hX hH rfl hl.1 rfl (Nat.le_of_ble_eq_true rfl) dX9_sheet_12 ⟨Nat.zero_le _, Nat.zero_le _⟩ (fun H locs hH => ?_)
  refine g_if_ne (tgt := 24) hx hb0 dX9_sheet_15 (by decide) h (fun h => ?_) (fun h => ?_)
  · refine lv_iload_n hx hb0 dX9_sheet_24 rfl (lv_at hl 2 rfl) ?_
    refine lv_iconst (v := gI (0 : Int)) hx hb0 dX9_sheet_25 (by decide) ?_
    refine lv_iconst (v := gI (4 : Int)) hx hb0 dX9_sheet_26 (by decide) ?_
    obtain ⟨q27, e27, h⟩ := gBind_some h
    refine g_callSi (As := [.int (gI a2), .int (gI (0 : Int)), .int (gI (4 : Int))]) (rest := []) ⟨hx, hb0, hml, hown, hts⟩ (metX9_in l D G q1 μ a2 (0 : Int) (4 : Int) q27 e27) (g_cwS 3 hts q_ml_X9_51 q_st_X9_in q_in_X9 q_co_X9_in ⟨rfl, rfl⟩ (by decide +kernel) ⟨Nat.le_of_ble_eq_true rfl, Nat.le_of_ble_eq_true rfl⟩) hX hH rfl hl.1 rfl (Nat.le_of_ble_eq_true rfl) dX9_sheet_27 ⟨Nat.zero_le _, Nat.zero_le _⟩ (fun H locs hH => ?_)
    refine g_if_eq (tgt := 46) hx hb0 dX9_sheet_30 (by decide) h (fun h => ?_) (fun h => ?_)
    · refine lv_aload_n hx hb0 dX9_sheet_46 rfl (lv_at hl 0 rfl) ?_
      refine lv_iconst (v := gI (2 : Int)) hx hb0 dX9_sheet_47 (by decide) ?_
      obtain ⟨q48, e48, h⟩ := gBind_some h
      refine g_callVi (k := 136) (T := TX9) (N := 19) (As := [.int (gI (2 : Int))]) (rest := []) ⟨hx, hb0, hml, hown, hts⟩ (metX9_fails l D G q1 μ (2 : Int) q48.1 q48.2 e48) (g_cwV (C := RX9) 1 hts q_ml_X9_63 q_im_X9_fails q_se_X9_fails q_in_X9 q_co_X9_fails ⟨rfl, rfl⟩ (by decide +kernel) ⟨Nat.le_of_ble_eq_true rfl, Nat.le_of_ble_eq_true rfl⟩) hX hH (rfl : gKinds[136]? = _) rfl rfl hl.1 rfl (Nat.le_of_ble_eq_true rfl) dX9_sheet_48 ⟨Nat.zero_le _, Nat.zero_le _⟩ (fun H locs hH => ?_)
      exact g_iretS hx hb0 hr hH hlocks dX9_sheet_51 h
    · refine lv_aload_n hx hb0 dX9_sheet_33 rfl (lv_at hl 0 rfl) ?_
      refine lv_aload_n hx hb0 dX9_sheet_34 rfl (lv_at hl 0 rfl) ?_
      refine lv_iload_n hx hb0 dX9_sheet_35 rfl (lv_at hl 1 rfl) ?_
      refine lv_iload_n hx hb0 dX9_sheet_36 rfl (lv_at hl 2 rfl) ?_
      obtain ⟨q37, e37, h⟩ := gBind_some h
      refine g_callVi (k := 136) (T := TX9) (N := 19) (As := [.int (gI a1), .int (gI a2)]) (rest := [.ref (G.1 136)]) ⟨hx, hb0, hml, hown, hts⟩ (metX9_sheetTold l D G q1 μ a1 a2 q37 e37) (g_cwV (C := RX9) 2 hts q_ml_X9_165 q_im_X9_sheetTold q_se_X9_sheetTold q_in_X9 q_co_X9_sheetTold ⟨rfl, rfl⟩ (by decide +kernel) ⟨Nat.le_of_ble_eq_true rfl, Nat.le_of_ble_eq_true rfl⟩) hX hH (rfl : gKinds[136]? = _) rfl rfl hl.1 rfl (Nat.le_of_ble_eq_true rfl) dX9_sheet_37 ⟨Nat.zero_le _, Nat.zero_le _⟩ (fun H locs hH => ?_)
      obtain ⟨q40, e40, h⟩ := gBind_some h
      refine g_callVi (k := 136) (T := TX9) (N := 19) (As := [.int (gI q37)]) (rest := []) ⟨hx, hb0, hml, hown, hts⟩ (metX9_tells l D G q1 μ q37 q40.1 q40.2 e40) (g_cwV (C := RX9) 1 hts q_ml_X9_47 q_im_X9_tells q_se_X9_tells q_in_X9 q_co_X9_tells ⟨rfl, rfl⟩ (by decide +kernel) ⟨Nat.le_of_ble_eq_true rfl, Nat.le_of_ble_eq_true rfl⟩) hX hH (rfl : gKinds[136]? = _) rfl rfl hl.1 rfl (Nat.le_of_ble_eq_true rfl) dX9_sheet_40 ⟨Nat.zero_le _, Nat.zero_le _⟩ (fun H locs hH => ?_)
      refine lv_goto (tgt := 51) hx hb0 dX9_sheet_43 (by decide) ?_
      exact g_iretS hx hb0 hr hH hlocks dX9_sheet_51 h
  · refine lv_aload_n hx hb0 dX9_sheet_18 rfl (lv_at hl 0 rfl) ?_
    refine lv_iconst (v := gI (1 : Int)) hx hb0 dX9_sheet_19 (by decide) ?_
    obtain ⟨q20, e20, h⟩ := gBind_some h
    refine g_callVi (k := 136) (T := TX9) (N := 19) (As := [.int (gI (1 : Int))]) (rest := []) ⟨hx, hb0, hml, hown, hts⟩ (metX9_fails l D G q1 μ (1 : Int) q20.1 q20.2 e20) (g_cwV (C := RX9) 1 hts q_ml_X9_63 q_im_X9_fails q_se_X9_fails q_in_X9 q_co_X9_fails ⟨rfl, rfl⟩ (by decide +kernel) ⟨Nat.le_of_ble_eq_true rfl, Nat.le_of_ble_eq_true rfl⟩) hX hH (rfl : gKinds[136]? = _) rfl rfl hl.1 rfl (Nat.le_of_ble_eq_true rfl) dX9_sheet_20 ⟨Nat.zero_le _, Nat.zero_le _⟩ (fun H locs hH => ?_)
    exact g_iretS hx hb0 hr hH hlocks dX9_sheet_23 h
def DX9_sheetAt_J56 (q1 : gSt) (t0_56 : Int) : Option (Int × gSt) :=
  (DX9_tells q1 t0_56).bind fun q56 => some (q56.1, q56.2)
def DX9_sheetAt (σ : gSt) (a1 : Int) (a2 : Int) : Option (Int × gSt) :=
  (DX9_prints σ).bind fun q1 => (DX9_in q1 a1 (0 : Int) ((q1 136 7) - (1 : Int))).bind fun q12 => gIf (q12 = (0 : Int)) q12 (0 : Int) ((DX9_fails q1 (1 : Int)).bind fun q20 => some (q20.1, q20.2)) (gIf (a2 < (0 : Int)) a2 (0 : Int) ((DX9_fails q1 (2 : Int)).bind fun q30 => some (q30.1, q30.2)) (gIf (a2 < (52 : Int)) a2 (52 : Int) (gAt (((52 : Int) * a1) + a2) 1248 ((DX9_sheetAt_J56 q1 (q1 144 (Int.toNat (((52 : Int) * a1) + a2)))))) ((DX9_sheetAt_J56 q1 (-1 : Int)))))
set_option maxHeartbeats 4000000 in
set_option maxRecDepth 100000 in
theorem metX9_sheetAt (l : Launch) (D : va_G) (G : gAd) (σ : gSt) (μ : gLg) (a1 : Int) (a2 : Int) (r : Int) (σ' : gSt) (h : DX9_sheetAt σ a1 a2 = some (r, σ')) : Met l yX9_sheetAt (gWs yX9_sheetAt cX9_sheetAt 3 (some (Jvm.ClassFile.FieldType.int))) ({ frames := 6, cells := 0, slots := 0, locals := 139 } : Room) (gPc D G [.ref (G.1 136), .int (gI a1), .int (gI a2)] σ μ) (gQi D G r σ' μ) 0 0 (gA G) := by
  refine Met.ofW (cc := cX9_sheetAt) (maxL := 3) (ret := (some (Jvm.ClassFile.FieldType.int))) (by decide) rfl ?_
  intro p e s m args below meth c s₁ B hml hv
  obtain ⟨rfl, hP, hX⟩ := hv
  have hx := B.exec
  have hb0 := B.bytes
  have hr := B.returns
  have hts0 := atoms_spec (ws := (gWs yX9_sheetAt cX9_sheetAt 3 (some (Jvm.ClassFile.FieldType.int)))) B.pre
  have hts : ∀ w ∈ gLW, w.before _ s = true := fun w hw => hts0 w (List.mem_cons_of_mem _ hw)
  have hown : s.vm.findClass RX9 = some m.cls := findClass_of_methodNamed B.named
  have hlocks := B.notSynchronized
  have hH : gH D G s s.heap [] σ μ := ⟨hP, va_S.rf⟩
  have hl := lv_entry ([.ref (G.1 136), .int (gI a1), .int (gI a2)]) (n := 3) (Nat.le_of_ble_eq_true rfl)
  rw [lg_entry_eq]
  generalize (lg_sl ([.ref (G.1 136), .int (gI a1), .int (gI a2)]) ++ List.replicate (3 - (lg_sl ([.ref (G.1 136), .int (gI a1), .int (gI a2)])).length) Slot.unset).toArray = ls at hl ⊢
  have hl : lv_has ls 3 [(0, .ref (G.1 136)), (1, .int (gI a1)), (2, .int (gI a2))] := hl
  unfold DX9_sheetAt at h
  refine lv_aload_n hx hb0 dX9_sheetAt_0 rfl (lv_at hl 0 rfl) ?_
  obtain ⟨q1, e1, h⟩ := gBind_some h
  refine g_callVv (k := 136) (T := TX9) (N := 19) (As := []) (rest := []) ⟨hx, hb0, hml, hown, hts⟩ (metX9_prints l D G σ μ q1 e1) (g_cwV (C := RX9) 0 hts q_ml_X9_155 q_im_X9_prints q_se_X9_prints q_in_X9 q_co_X9_prints ⟨rfl, rfl⟩ (by decide +kernel) ⟨Nat.le_of_ble_eq_true rfl, Nat.le_of_ble_eq_true rfl⟩) hX hH (rfl : gKinds[136]? = _) rfl rfl hl.1 rfl (Nat.le_of_ble_eq_true rfl) dX9_sheetAt_1 ⟨Nat.zero_le _, Nat.zero_le _⟩ (fun H locs hH => ?_)
  refine lv_iload_n hx hb0 dX9_sheetAt_4 rfl (lv_at hl 1 rfl) ?_
  refine lv_iconst (v := gI (0 : Int)) hx hb0 dX9_sheetAt_5 (by decide) ?_
  refine lv_aload_n hx hb0 dX9_sheetAt_6 rfl (lv_at hl 0 rfl) ?_
  refine g_getI hx hb0 hts q_ws_X9 hown hX hH (C := RX9) (T := TX9) (N := 19) (k := 136) (i := 7) (rfl : gKinds[136]? = _) rfl (by decide) (hts _ q_fl_X9_103) rfl rfl dX9_sheetAt_7 ?_
  refine lv_iconst (v := gI (1 : Int)) hx hb0 dX9_sheetAt_10 (by decide) ?_
  refine g_isub hx hb0 dX9_sheetAt_11 ?_
  obtain ⟨q12, e12, h⟩ := gBind_some h
  refine g_callSi (As := [.int (gI a1), .int (gI (0 : Int)), .int (gI ((q1 136 7) - (1 : Int)))]) (rest := []) ⟨hx, hb0, hml, hown, hts⟩ (metX9_in l D G q1 μ a1 (0 : Int) ((q1 136 7) - (1 : Int)) q12 e12) (g_cwS 3 hts q_ml_X9_51 q_st_X9_in q_in_X9 q_co_X9_in ⟨rfl, rfl⟩ (by decide +kernel) ⟨Nat.le_of_ble_eq_true rfl, Nat.le_of_ble_eq_true rfl⟩) hX hH rfl hl.1 rfl (Nat.le_of_ble_eq_true rfl) dX9_sheetAt_12 ⟨Nat.zero_le _, Nat.zero_le _⟩ (fun H locs hH => ?_)
  refine g_if_ne (tgt := 24) hx hb0 dX9_sheetAt_15 (by decide) h (fun h => ?_) (fun h => ?_)
  · refine lv_iload_n hx hb0 dX9_sheetAt_24 rfl (lv_at hl 2 rfl) ?_
    refine g_if_ge (tgt := 34) hx hb0 dX9_sheetAt_25 (by decide) h (fun h => ?_) (fun h => ?_)
    · refine lv_aload_n hx hb0 dX9_sheetAt_34 rfl (lv_at hl 0 rfl) ?_
      refine lv_iload_n hx hb0 dX9_sheetAt_35 rfl (lv_at hl 2 rfl) ?_
      refine lv_bipush (v := gI (52 : Int)) hx hb0 dX9_sheetAt_36 (by decide) ?_
      have hJ56 : ∀ (t0_56 : Int) (H : Heap) (locs : List Loc) (ls : Array Slot), gH D G s H locs q1 μ → lv_has ls 3 [] → (DX9_sheetAt_J56 q1 t0_56) = some (r, σ') → W p l e (headSpec (gWs yX9_sheetAt cX9_sheetAt 3 (some (Jvm.ClassFile.FieldType.int))) ({ frames := 6, cells := 0, slots := 0, locals := 139 } : Room)).room s m ([.ref (G.1 136), .int (gI a1), .int (gI a2)] : List Value).toArray below meth c H locs 0 0 (MQ below (gQi D G r σ' μ) ([.ref (G.1 136), .int (gI a1), .int (gI a2)] : List Value).toArray s 0 0 (gA G)) (F0 m 56 ls [.int (gI t0_56), .ref (G.1 136)]) := by
        intro t0_56 H locs ls hH hl h
        unfold DX9_sheetAt_J56 at h
        obtain ⟨q56, e56, h⟩ := gBind_some h
        refine g_callVi (k := 136) (T := TX9) (N := 19) (As := [.int (gI t0_56)]) (rest := []) ⟨hx, hb0, hml, hown, hts⟩ (metX9_tells l D G q1 μ t0_56 q56.1 q56.2 e56) (g_cwV (C := RX9) 1 hts q_ml_X9_47 q_im_X9_tells q_se_X9_tells q_in_X9 q_co_X9_tells ⟨rfl, rfl⟩ (by decide +kernel) ⟨Nat.le_of_ble_eq_true rfl, Nat.le_of_ble_eq_true rfl⟩) hX hH (rfl : gKinds[136]? = _) rfl rfl hl.1 rfl (Nat.le_of_ble_eq_true rfl) dX9_sheetAt_56 ⟨Nat.zero_le _, Nat.zero_le _⟩ (fun H locs hH => ?_)
        exact g_iretS hx hb0 hr hH hlocks dX9_sheetAt_59 h
      refine g_icmp_ge (tgt := 55) hx hb0 dX9_sheetAt_38 (by decide) h (fun h => ?_) (fun h => ?_)
      · refine lv_iconst (v := gI (-1 : Int)) hx hb0 dX9_sheetAt_55 (by decide) ?_
        exact hJ56 _ _ _ _ hH (lv_sub hl [] rfl) h
      · refine lv_aload_n hx hb0 dX9_sheetAt_41 rfl (lv_at hl 0 rfl) ?_
        refine g_getR hx hb0 hts q_ws_X9 hown hX hH (C := RX9) (T := TX9) (N := 19) (k := 136) (i := 13) (j := 144) (rfl : gKinds[136]? = _) rfl (by decide) (hts _ q_fl_X9_31) rfl rfl dX9_sheetAt_42 ?_
        refine lv_bipush (v := gI (52 : Int)) hx hb0 dX9_sheetAt_45 (by decide) ?_
        refine lv_iload_n hx hb0 dX9_sheetAt_47 rfl (lv_at hl 1 rfl) ?_
        refine g_imul hx hb0 dX9_sheetAt_48 ?_
        refine lv_iload_n hx hb0 dX9_sheetAt_49 rfl (lv_at hl 2 rfl) ?_
        refine g_iadd hx hb0 dX9_sheetAt_50 ?_
        refine g_iald hx hb0 hX hH (k := 144) (rfl : gKinds[144]? = _) (by decide) dX9_sheetAt_51 h (fun h => ?_)
        refine lv_goto (tgt := 56) hx hb0 dX9_sheetAt_52 (by decide) ?_
        exact hJ56 _ _ _ _ hH (lv_sub hl [] rfl) h
    · refine lv_aload_n hx hb0 dX9_sheetAt_28 rfl (lv_at hl 0 rfl) ?_
      refine lv_iconst (v := gI (2 : Int)) hx hb0 dX9_sheetAt_29 (by decide) ?_
      obtain ⟨q30, e30, h⟩ := gBind_some h
      refine g_callVi (k := 136) (T := TX9) (N := 19) (As := [.int (gI (2 : Int))]) (rest := []) ⟨hx, hb0, hml, hown, hts⟩ (metX9_fails l D G q1 μ (2 : Int) q30.1 q30.2 e30) (g_cwV (C := RX9) 1 hts q_ml_X9_63 q_im_X9_fails q_se_X9_fails q_in_X9 q_co_X9_fails ⟨rfl, rfl⟩ (by decide +kernel) ⟨Nat.le_of_ble_eq_true rfl, Nat.le_of_ble_eq_true rfl⟩) hX hH (rfl : gKinds[136]? = _) rfl rfl hl.1 rfl (Nat.le_of_ble_eq_true rfl) dX9_sheetAt_30 ⟨Nat.zero_le _, Nat.zero_le _⟩ (fun H locs hH => ?_)
      exact g_iretS hx hb0 hr hH hlocks dX9_sheetAt_33 h
  · refine lv_aload_n hx hb0 dX9_sheetAt_18 rfl (lv_at hl 0 rfl) ?_
    refine lv_iconst (v := gI (1 : Int)) hx hb0 dX9_sheetAt_19 (by decide) ?_
    obtain ⟨q20, e20, h⟩ := gBind_some h
    refine g_callVi (k := 136) (T := TX9) (N := 19) (As := [.int (gI (1 : Int))]) (rest := []) ⟨hx, hb0, hml, hown, hts⟩ (metX9_fails l D G q1 μ (1 : Int) q20.1 q20.2 e20) (g_cwV (C := RX9) 1 hts q_ml_X9_63 q_im_X9_fails q_se_X9_fails q_in_X9 q_co_X9_fails ⟨rfl, rfl⟩ (by decide +kernel) ⟨Nat.le_of_ble_eq_true rfl, Nat.le_of_ble_eq_true rfl⟩) hX hH (rfl : gKinds[136]? = _) rfl rfl hl.1 rfl (Nat.le_of_ble_eq_true rfl) dX9_sheetAt_20 ⟨Nat.zero_le _, Nat.zero_le _⟩ (fun H locs hH => ?_)
    exact g_iretS hx hb0 hr hH hlocks dX9_sheetAt_23 h
def DX9_part_J23 (σ : gSt) : Option (Int × gSt) :=
  (DX9_fails σ (1 : Int)).bind fun q25 => some (q25.1, q25.2)
def DX9_part_J249 (q30 : gSt) (t0_249 : Int) : Option (Int × gSt) :=
  (DX9_tells q30 t0_249).bind fun q249 => some (q249.1, q249.2)
def DX9_part_J220 (q30 : gSt) (t0_220 : Int) : Option (Int × gSt) :=
  (DX9_tells q30 t0_220).bind fun q220 => some (q220.1, q220.2)
def DX9_part_J111 (a1 : Int) (a2 : Int) (a3 : Int) (q30 : gSt) (q36 : Int) (t0_72 : Int) (t0_111 : Int) : Option (Int × gSt) :=
  gAt a1 24 (gIf (a3 = (0 : Int)) a3 (0 : Int) (gAt (((52 : Int) * (q30 142 (Int.toNat a1))) + ((q36 / (q30 137 (Int.toNat (1 : Int)))) + a2)) 1248 ((DX9_tells q30 (q30 144 (Int.toNat (((52 : Int) * (q30 142 (Int.toNat a1))) + ((q36 / (q30 137 (Int.toNat (1 : Int)))) + a2))))).bind fun q172 => some (q172.1, q172.2))) (gIf (a3 = (1 : Int)) a3 (1 : Int) (gAt (1 : Int) 138 (gDv t0_72 (q30 137 (Int.toNat (1 : Int))) ((DX9_tells q30 (t0_72 % (q30 137 (Int.toNat (1 : Int))))).bind fun q186 => some (q186.1, q186.2)))) (gIf (a3 = (2 : Int)) a3 (2 : Int) ((DX9_tells q30 ((t0_111 - t0_72) + (1 : Int))).bind fun q198 => some (q198.1, q198.2)) (gIf (a3 = (3 : Int)) a3 (3 : Int) (gIf (a2 = (0 : Int)) a2 (0 : Int) ((DX9_part_J220 q30 (-1 : Int))) (gAt ((((52 : Int) * (q30 142 (Int.toNat a1))) + ((q36 / (q30 137 (Int.toNat (1 : Int)))) + a2)) - (1 : Int)) 1248 ((DX9_part_J220 q30 (q30 144 (Int.toNat ((((52 : Int) * (q30 142 (Int.toNat a1))) + ((q36 / (q30 137 (Int.toNat (1 : Int)))) + a2)) - (1 : Int)))))))) (gIf (a3 = (4 : Int)) a3 (4 : Int) ((DX9_partsOf q30 a1).bind fun q228 => gIf (a2 = (q228 - (1 : Int))) a2 (q228 - (1 : Int)) ((DX9_part_J249 q30 (-1 : Int))) (gAt ((((52 : Int) * (q30 142 (Int.toNat a1))) + ((q36 / (q30 137 (Int.toNat (1 : Int)))) + a2)) + (1 : Int)) 1248 ((DX9_part_J249 q30 (q30 144 (Int.toNat ((((52 : Int) * (q30 142 (Int.toNat a1))) + ((q36 / (q30 137 (Int.toNat (1 : Int)))) + a2)) + (1 : Int)))))))) ((DX9_fails q30 (2 : Int)).bind fun q255 => some (q255.1, q255.2)))))))
def DX9_part_J72 (a1 : Int) (a2 : Int) (a3 : Int) (q30 : gSt) (q36 : Int) (t0_72 : Int) : Option (Int × gSt) :=
  (DX9_partsOf q30 a1).bind fun q77 => gIf (a2 = (q77 - (1 : Int))) a2 (q77 - (1 : Int)) ((DX9_lastDay q30 a1).bind fun q87 => (DX9_part_J111 a1 a2 a3 q30 q36 t0_72 q87)) (gAt (1 : Int) 138 (gAt (1 : Int) 138 ((DX9_part_J111 a1 a2 a3 q30 q36 t0_72 (((((q36 / (q30 137 (Int.toNat (1 : Int)))) + a2) * (q30 137 (Int.toNat (1 : Int)))) + (q30 137 (Int.toNat (1 : Int)))) - (1 : Int))))))
def DX9_part (σ : gSt) (a1 : Int) (a2 : Int) (a3 : Int) : Option (Int × gSt) :=
  (DX9_isTask σ a1).bind fun q2 => gIf (q2 = (0 : Int)) q2 (0 : Int) ((DX9_part_J23 σ)) ((DX9_partsOf σ a1).bind fun q12 => (DX9_in σ a2 (0 : Int) (q12 - (1 : Int))).bind fun q17 => gIf (q17 = (0 : Int)) q17 (0 : Int) ((DX9_part_J23 σ)) ((DX9_prints σ).bind fun q30 => (DX9_of q30 a1 (1 : Int)).bind fun q36 => gAt (1 : Int) 138 (gDv q36 (q30 137 (Int.toNat (1 : Int))) (gIf (a2 = (0 : Int)) a2 (0 : Int) ((DX9_of q30 a1 (1 : Int)).bind fun q57 => (DX9_part_J72 a1 a2 a3 q30 q36 q57)) (gAt (1 : Int) 138 ((DX9_part_J72 a1 a2 a3 q30 q36 (((q36 / (q30 137 (Int.toNat (1 : Int)))) + a2) * (q30 137 (Int.toNat (1 : Int)))))))))))
set_option maxHeartbeats 4000000 in
set_option maxRecDepth 100000 in
theorem metX9_part (l : Launch) (D : va_G) (G : gAd) (σ : gSt) (μ : gLg) (a1 : Int) (a2 : Int) (a3 : Int) (r : Int) (σ' : gSt) (h : DX9_part σ a1 a2 a3 = some (r, σ')) : Met l yX9_part (gWs yX9_part cX9_part 8 (some (Jvm.ClassFile.FieldType.int))) ({ frames := 6, cells := 0, slots := 0, locals := 139 } : Room) (gPc D G [.ref (G.1 136), .int (gI a1), .int (gI a2), .int (gI a3)] σ μ) (gQi D G r σ' μ) 0 0 (gA G) := by
  refine Met.ofW (cc := cX9_part) (maxL := 8) (ret := (some (Jvm.ClassFile.FieldType.int))) (by decide) rfl ?_
  intro p e s m args below meth c s₁ B hml hv
  obtain ⟨rfl, hP, hX⟩ := hv
  have hx := B.exec
  have hb0 := B.bytes
  have hr := B.returns
  have hts0 := atoms_spec (ws := (gWs yX9_part cX9_part 8 (some (Jvm.ClassFile.FieldType.int)))) B.pre
  have hts : ∀ w ∈ gLW, w.before _ s = true := fun w hw => hts0 w (List.mem_cons_of_mem _ hw)
  have hown : s.vm.findClass RX9 = some m.cls := findClass_of_methodNamed B.named
  have hlocks := B.notSynchronized
  have hH : gH D G s s.heap [] σ μ := ⟨hP, va_S.rf⟩
  have hl := lv_entry ([.ref (G.1 136), .int (gI a1), .int (gI a2), .int (gI a3)]) (n := 8) (Nat.le_of_ble_eq_true rfl)
  rw [lg_entry_eq]
  generalize (lg_sl ([.ref (G.1 136), .int (gI a1), .int (gI a2), .int (gI a3)]) ++ List.replicate (8 - (lg_sl ([.ref (G.1 136), .int (gI a1), .int (gI a2), .int (gI a3)])).length) Slot.unset).toArray = ls at hl ⊢
  have hl : lv_has ls 8 [(0, .ref (G.1 136)), (1, .int (gI a1)), (2, .int (gI a2)), (3, .int (gI a3))] := hl
  unfold DX9_part at h
  refine lv_aload_n hx hb0 dX9_part_0 rfl (lv_at hl 0 rfl) ?_
  refine lv_iload_n hx hb0 dX9_part_1 rfl (lv_at hl 1 rfl) ?_
  obtain ⟨q2, e2, h⟩ := gBind_some h
  refine g_callVi (k := 136) (T := TX9) (N := 19) (As := [.int (gI a1)]) (rest := []) ⟨hx, hb0, hml, hown, hts⟩ (metX9_isTask l D G σ μ a1 q2 e2) (g_cwV (C := RX9) 1 hts q_ml_X9_82 q_im_X9_isTask q_se_X9_isTask q_in_X9 q_co_X9_isTask ⟨rfl, rfl⟩ (by decide +kernel) ⟨Nat.le_of_ble_eq_true rfl, Nat.le_of_ble_eq_true rfl⟩) hX hH (rfl : gKinds[136]? = _) rfl rfl hl.1 rfl (Nat.le_of_ble_eq_true rfl) dX9_part_2 ⟨Nat.zero_le _, Nat.zero_le _⟩ (fun H locs hH => ?_)
  have hJ23 : ∀  (H : Heap) (locs : List Loc) (ls : Array Slot), gH D G s H locs σ μ → lv_has ls 8 [(0, .ref (G.1 136))] → (DX9_part_J23 σ) = some (r, σ') → W p l e (headSpec (gWs yX9_part cX9_part 8 (some (Jvm.ClassFile.FieldType.int))) ({ frames := 6, cells := 0, slots := 0, locals := 139 } : Room)).room s m ([.ref (G.1 136), .int (gI a1), .int (gI a2), .int (gI a3)] : List Value).toArray below meth c H locs 0 0 (MQ below (gQi D G r σ' μ) ([.ref (G.1 136), .int (gI a1), .int (gI a2), .int (gI a3)] : List Value).toArray s 0 0 (gA G)) (F0 m 23 ls []) := by
    intro H locs ls hH hl h
    unfold DX9_part_J23 at h
    refine lv_aload_n hx hb0 dX9_part_23 rfl (lv_at hl 0 rfl) ?_
    refine lv_iconst (v := gI (1 : Int)) hx hb0 dX9_part_24 (by decide) ?_
    obtain ⟨q25, e25, h⟩ := gBind_some h
    refine g_callVi (k := 136) (T := TX9) (N := 19) (As := [.int (gI (1 : Int))]) (rest := []) ⟨hx, hb0, hml, hown, hts⟩ (metX9_fails l D G σ μ (1 : Int) q25.1 q25.2 e25) (g_cwV (C := RX9) 1 hts q_ml_X9_63 q_im_X9_fails q_se_X9_fails q_in_X9 q_co_X9_fails ⟨rfl, rfl⟩ (by decide +kernel) ⟨Nat.le_of_ble_eq_true rfl, Nat.le_of_ble_eq_true rfl⟩) hX hH (rfl : gKinds[136]? = _) rfl rfl hl.1 rfl (Nat.le_of_ble_eq_true rfl) dX9_part_25 ⟨Nat.zero_le _, Nat.zero_le _⟩ (fun H locs hH => ?_)
    exact g_iretS hx hb0 hr hH hlocks dX9_part_28 h
  refine g_if_eq (tgt := 23) hx hb0 dX9_part_5 (by decide) h (fun h => ?_) (fun h => ?_)
  · exact hJ23  _ _ _ hH (lv_sub hl [0] rfl) h
  · refine lv_iload_n hx hb0 dX9_part_8 rfl (lv_at hl 2 rfl) ?_
    refine lv_iconst (v := gI (0 : Int)) hx hb0 dX9_part_9 (by decide) ?_
    refine lv_aload_n hx hb0 dX9_part_10 rfl (lv_at hl 0 rfl) ?_
    refine lv_iload_n hx hb0 dX9_part_11 rfl (lv_at hl 1 rfl) ?_
    obtain ⟨q12, e12, h⟩ := gBind_some h
    refine g_callVi (k := 136) (T := TX9) (N := 19) (As := [.int (gI a1)]) (rest := [.int (gI (0 : Int)), .int (gI a2)]) ⟨hx, hb0, hml, hown, hts⟩ (metX9_partsOf l D G σ μ a1 q12 e12) (g_cwV (C := RX9) 1 hts q_ml_X9_149 q_im_X9_partsOf q_se_X9_partsOf q_in_X9 q_co_X9_partsOf ⟨rfl, rfl⟩ (by decide +kernel) ⟨Nat.le_of_ble_eq_true rfl, Nat.le_of_ble_eq_true rfl⟩) hX hH (rfl : gKinds[136]? = _) rfl rfl hl.1 rfl (Nat.le_of_ble_eq_true rfl) dX9_part_12 ⟨Nat.zero_le _, Nat.zero_le _⟩ (fun H locs hH => ?_)
    refine lv_iconst (v := gI (1 : Int)) hx hb0 dX9_part_15 (by decide) ?_
    refine g_isub hx hb0 dX9_part_16 ?_
    obtain ⟨q17, e17, h⟩ := gBind_some h
    refine g_callSi (As := [.int (gI a2), .int (gI (0 : Int)), .int (gI (q12 - (1 : Int)))]) (rest := []) ⟨hx, hb0, hml, hown, hts⟩ (metX9_in l D G σ μ a2 (0 : Int) (q12 - (1 : Int)) q17 e17) (g_cwS 3 hts q_ml_X9_51 q_st_X9_in q_in_X9 q_co_X9_in ⟨rfl, rfl⟩ (by decide +kernel) ⟨Nat.le_of_ble_eq_true rfl, Nat.le_of_ble_eq_true rfl⟩) hX hH rfl hl.1 rfl (Nat.le_of_ble_eq_true rfl) dX9_part_17 ⟨Nat.zero_le _, Nat.zero_le _⟩ (fun H locs hH => ?_)
    refine g_if_ne (tgt := 29) hx hb0 dX9_part_20 (by decide) h (fun h => ?_) (fun h => ?_)
    · refine lv_aload_n hx hb0 dX9_part_29 rfl (lv_at hl 0 rfl) ?_
      obtain ⟨q30, e30, h⟩ := gBind_some h
      refine g_callVv (k := 136) (T := TX9) (N := 19) (As := []) (rest := []) ⟨hx, hb0, hml, hown, hts⟩ (metX9_prints l D G σ μ q30 e30) (g_cwV (C := RX9) 0 hts q_ml_X9_155 q_im_X9_prints q_se_X9_prints q_in_X9 q_co_X9_prints ⟨rfl, rfl⟩ (by decide +kernel) ⟨Nat.le_of_ble_eq_true rfl, Nat.le_of_ble_eq_true rfl⟩) hX hH (rfl : gKinds[136]? = _) rfl rfl hl.1 rfl (Nat.le_of_ble_eq_true rfl) dX9_part_30 ⟨Nat.zero_le _, Nat.zero_le _⟩ (fun H locs hH => ?_)
      refine lv_aload_n hx hb0 dX9_part_33 rfl (lv_at hl 0 rfl) ?_
      refine lv_iload_n hx hb0 dX9_part_34 rfl (lv_at hl 1 rfl) ?_
      refine lv_iconst (v := gI (1 : Int)) hx hb0 dX9_part_35 (by decide) ?_
      obtain ⟨q36, e36, h⟩ := gBind_some h
      refine g_callVi (k := 136) (T := TX9) (N := 19) (As := [.int (gI a1), .int (gI (1 : Int))]) (rest := []) ⟨hx, hb0, hml, hown, hts⟩ (metX9_of l D G q30 μ a1 (1 : Int) q36 e36) (g_cwV (C := RX9) 2 hts q_ml_X9_55 q_im_X9_of q_se_X9_of q_in_X9 q_co_X9_of ⟨rfl, rfl⟩ (by decide +kernel) ⟨Nat.le_of_ble_eq_true rfl, Nat.le_of_ble_eq_true rfl⟩) hX hH (rfl : gKinds[136]? = _) rfl rfl hl.1 rfl (Nat.le_of_ble_eq_true rfl) dX9_part_36 ⟨Nat.zero_le _, Nat.zero_le _⟩ (fun H locs hH => ?_)
      refine lv_aload_n hx hb0 dX9_part_39 rfl (lv_at hl 0 rfl) ?_
      refine g_getR hx hb0 hts q_ws_X9 hown hX hH (C := RX9) (T := TX9) (N := 19) (k := 136) (i := 0) (j := 137) (rfl : gKinds[136]? = _) rfl (by decide) (hts _ q_fl_X9_7) rfl rfl dX9_part_40 ?_
      refine lv_iconst (v := gI (1 : Int)) hx hb0 dX9_part_43 (by decide) ?_
      refine g_iald hx hb0 hX hH (k := 137) (rfl : gKinds[137]? = _) (by decide) dX9_part_44 h (fun h => ?_)
      refine g_idiv hx hb0 dX9_part_45 h (fun h => ?_)
      refine lv_iload_n hx hb0 dX9_part_46 rfl (lv_at hl 2 rfl) ?_
      refine g_iadd hx hb0 dX9_part_47 ?_
      refine lv_istore (lv' := [(4, .int (gI ((q36 / (q30 137 (Int.toNat (1 : Int)))) + a2))), (0, .ref (G.1 136)), (1, .int (gI a1)), (2, .int (gI a2)), (3, .int (gI a3))]) hx hb0 dX9_part_48 hl (by decide) rfl (fun ls hl => ?_)
      refine lv_iload_n hx hb0 dX9_part_50 rfl (lv_at hl 3 rfl) ?_
      have hJ72 : ∀ (t0_72 : Int) (H : Heap) (locs : List Loc) (ls : Array Slot), gH D G s H locs q30 μ → lv_has ls 8 [(4, .int (gI ((q36 / (q30 137 (Int.toNat (1 : Int)))) + a2))), (0, .ref (G.1 136)), (1, .int (gI a1)), (2, .int (gI a2)), (3, .int (gI a3))] → (DX9_part_J72 a1 a2 a3 q30 q36 t0_72) = some (r, σ') → W p l e (headSpec (gWs yX9_part cX9_part 8 (some (Jvm.ClassFile.FieldType.int))) ({ frames := 6, cells := 0, slots := 0, locals := 139 } : Room)).room s m ([.ref (G.1 136), .int (gI a1), .int (gI a2), .int (gI a3)] : List Value).toArray below meth c H locs 0 0 (MQ below (gQi D G r σ' μ) ([.ref (G.1 136), .int (gI a1), .int (gI a2), .int (gI a3)] : List Value).toArray s 0 0 (gA G)) (F0 m 72 ls [.int (gI t0_72)]) := by
        intro t0_72 H locs ls hH hl h
        unfold DX9_part_J72 at h
        refine lv_istore (lv' := [(5, .int (gI t0_72)), (4, .int (gI ((q36 / (q30 137 (Int.toNat (1 : Int)))) + a2))), (0, .ref (G.1 136)), (1, .int (gI a1)), (2, .int (gI a2)), (3, .int (gI a3))]) hx hb0 dX9_part_72 hl (by decide) rfl (fun ls hl => ?_)
        refine lv_iload_n hx hb0 dX9_part_74 rfl (lv_at hl 4 rfl) ?_
        refine lv_aload_n hx hb0 dX9_part_75 rfl (lv_at hl 2 rfl) ?_
        refine lv_iload_n hx hb0 dX9_part_76 rfl (lv_at hl 3 rfl) ?_
        obtain ⟨q77, e77, h⟩ := gBind_some h
        refine g_callVi (k := 136) (T := TX9) (N := 19) (As := [.int (gI a1)]) (rest := [.int (gI a2)]) ⟨hx, hb0, hml, hown, hts⟩ (metX9_partsOf l D G q30 μ a1 q77 e77) (g_cwV (C := RX9) 1 hts q_ml_X9_149 q_im_X9_partsOf q_se_X9_partsOf q_in_X9 q_co_X9_partsOf ⟨rfl, rfl⟩ (by decide +kernel) ⟨Nat.le_of_ble_eq_true rfl, Nat.le_of_ble_eq_true rfl⟩) hX hH (rfl : gKinds[136]? = _) rfl rfl hl.1 rfl (Nat.le_of_ble_eq_true rfl) dX9_part_77 ⟨Nat.zero_le _, Nat.zero_le _⟩ (fun H locs hH => ?_)
        refine lv_iconst (v := gI (1 : Int)) hx hb0 dX9_part_80 (by decide) ?_
        refine g_isub hx hb0 dX9_part_81 ?_
        have hJ111 : ∀ (t0_111 : Int) (H : Heap) (locs : List Loc) (ls : Array Slot), gH D G s H locs q30 μ → lv_has ls 8 [(5, .int (gI t0_72)), (4, .int (gI ((q36 / (q30 137 (Int.toNat (1 : Int)))) + a2))), (0, .ref (G.1 136)), (1, .int (gI a1)), (2, .int (gI a2)), (3, .int (gI a3))] → (DX9_part_J111 a1 a2 a3 q30 q36 t0_72 t0_111) = some (r, σ') → W p l e (headSpec (gWs yX9_part cX9_part 8 (some (Jvm.ClassFile.FieldType.int))) ({ frames := 6, cells := 0, slots := 0, locals := 139 } : Room)).room s m ([.ref (G.1 136), .int (gI a1), .int (gI a2), .int (gI a3)] : List Value).toArray below meth c H locs 0 0 (MQ below (gQi D G r σ' μ) ([.ref (G.1 136), .int (gI a1), .int (gI a2), .int (gI a3)] : List Value).toArray s 0 0 (gA G)) (F0 m 111 ls [.int (gI t0_111)]) := by
          intro t0_111 H locs ls hH hl h
          unfold DX9_part_J111 at h
          refine lv_istore (lv' := [(6, .int (gI t0_111)), (5, .int (gI t0_72)), (4, .int (gI ((q36 / (q30 137 (Int.toNat (1 : Int)))) + a2))), (0, .ref (G.1 136)), (1, .int (gI a1)), (2, .int (gI a2)), (3, .int (gI a3))]) hx hb0 dX9_part_111 hl (by decide) rfl (fun ls hl => ?_)
          refine lv_bipush (v := gI (52 : Int)) hx hb0 dX9_part_113 (by decide) ?_
          refine lv_aload_n hx hb0 dX9_part_115 rfl (lv_at hl 3 rfl) ?_
          refine g_getR hx hb0 hts q_ws_X9 hown hX hH (C := RX9) (T := TX9) (N := 19) (k := 136) (i := 10) (j := 142) (rfl : gKinds[136]? = _) rfl (by decide) (hts _ q_fl_X9_25) rfl rfl dX9_part_116 ?_
          refine lv_iload_n hx hb0 dX9_part_119 rfl (lv_at hl 4 rfl) ?_
          refine g_iald hx hb0 hX hH (k := 142) (rfl : gKinds[142]? = _) (by decide) dX9_part_120 h (fun h => ?_)
          refine g_imul hx hb0 dX9_part_121 ?_
          refine lv_iload hx hb0 dX9_part_122 (lv_at hl 2 rfl) ?_
          refine g_iadd hx hb0 dX9_part_124 ?_
          refine lv_istore (lv' := [(7, .int (gI (((52 : Int) * (q30 142 (Int.toNat a1))) + ((q36 / (q30 137 (Int.toNat (1 : Int)))) + a2)))), (6, .int (gI t0_111)), (5, .int (gI t0_72)), (4, .int (gI ((q36 / (q30 137 (Int.toNat (1 : Int)))) + a2))), (0, .ref (G.1 136)), (1, .int (gI a1)), (2, .int (gI a2)), (3, .int (gI a3))]) hx hb0 dX9_part_125 hl (by decide) rfl (fun ls hl => ?_)
          refine lv_iload_n hx hb0 dX9_part_127 rfl (lv_at hl 7 rfl) ?_
          obtain ⟨hgr, -, h⟩ := gIf_some h
          rcases h with ⟨hc0, h⟩ | ⟨hc0, h⟩
          · refine g_tabIn (i := (0 : Int)) (tgt := 164) hx hb0 dX9_part_128 hc0 (by decide) (by decide) (by decide) rfl (by decide) ?_
            refine lv_aload_n hx hb0 dX9_part_164 rfl (lv_at hl 4 rfl) ?_
            refine lv_aload_n hx hb0 dX9_part_165 rfl (lv_at hl 4 rfl) ?_
            refine g_getR hx hb0 hts q_ws_X9 hown hX hH (C := RX9) (T := TX9) (N := 19) (k := 136) (i := 13) (j := 144) (rfl : gKinds[136]? = _) rfl (by decide) (hts _ q_fl_X9_31) rfl rfl dX9_part_166 ?_
            refine lv_iload hx hb0 dX9_part_169 (lv_at hl 0 rfl) ?_
            refine g_iald hx hb0 hX hH (k := 144) (rfl : gKinds[144]? = _) (by decide) dX9_part_171 h (fun h => ?_)
            obtain ⟨q172, e172, h⟩ := gBind_some h
            refine g_callVi (k := 136) (T := TX9) (N := 19) (As := [.int (gI (q30 144 (Int.toNat (((52 : Int) * (q30 142 (Int.toNat a1))) + ((q36 / (q30 137 (Int.toNat (1 : Int)))) + a2)))))]) (rest := []) ⟨hx, hb0, hml, hown, hts⟩ (metX9_tells l D G q30 μ (q30 144 (Int.toNat (((52 : Int) * (q30 142 (Int.toNat a1))) + ((q36 / (q30 137 (Int.toNat (1 : Int)))) + a2)))) q172.1 q172.2 e172) (g_cwV (C := RX9) 1 hts q_ml_X9_47 q_im_X9_tells q_se_X9_tells q_in_X9 q_co_X9_tells ⟨rfl, rfl⟩ (by decide +kernel) ⟨Nat.le_of_ble_eq_true rfl, Nat.le_of_ble_eq_true rfl⟩) hX hH (rfl : gKinds[136]? = _) rfl rfl hl.1 rfl (Nat.le_of_ble_eq_true rfl) dX9_part_172 ⟨Nat.zero_le _, Nat.zero_le _⟩ (fun H locs hH => ?_)
            exact g_iretS hx hb0 hr hH hlocks dX9_part_175 h
          · obtain ⟨hgr, -, h⟩ := gIf_some h
            rcases h with ⟨hc1, h⟩ | ⟨hc1, h⟩
            · refine g_tabIn (i := (1 : Int)) (tgt := 176) hx hb0 dX9_part_128 hc1 (by decide) (by decide) (by decide) rfl (by decide) ?_
              refine lv_aload_n hx hb0 dX9_part_176 rfl (lv_at hl 4 rfl) ?_
              refine lv_iload hx hb0 dX9_part_177 (lv_at hl 2 rfl) ?_
              refine lv_aload_n hx hb0 dX9_part_179 rfl (lv_at hl 4 rfl) ?_
              refine g_getR hx hb0 hts q_ws_X9 hown hX hH (C := RX9) (T := TX9) (N := 19) (k := 136) (i := 0) (j := 137) (rfl : gKinds[136]? = _) rfl (by decide) (hts _ q_fl_X9_7) rfl rfl dX9_part_180 ?_
              refine lv_iconst (v := gI (1 : Int)) hx hb0 dX9_part_183 (by decide) ?_
              refine g_iald hx hb0 hX hH (k := 137) (rfl : gKinds[137]? = _) (by decide) dX9_part_184 h (fun h => ?_)
              refine g_irem hx hb0 dX9_part_185 h (fun h => ?_)
              obtain ⟨q186, e186, h⟩ := gBind_some h
              refine g_callVi (k := 136) (T := TX9) (N := 19) (As := [.int (gI (t0_72 % (q30 137 (Int.toNat (1 : Int)))))]) (rest := []) ⟨hx, hb0, hml, hown, hts⟩ (metX9_tells l D G q30 μ (t0_72 % (q30 137 (Int.toNat (1 : Int)))) q186.1 q186.2 e186) (g_cwV (C := RX9) 1 hts q_ml_X9_47 q_im_X9_tells q_se_X9_tells q_in_X9 q_co_X9_tells ⟨rfl, rfl⟩ (by decide +kernel) ⟨Nat.le_of_ble_eq_true rfl, Nat.le_of_ble_eq_true rfl⟩) hX hH (rfl : gKinds[136]? = _) rfl rfl hl.1 rfl (Nat.le_of_ble_eq_true rfl) dX9_part_186 ⟨Nat.zero_le _, Nat.zero_le _⟩ (fun H locs hH => ?_)
              exact g_iretS hx hb0 hr hH hlocks dX9_part_189 h
            · obtain ⟨hgr, -, h⟩ := gIf_some h
              rcases h with ⟨hc2, h⟩ | ⟨hc2, h⟩
              · refine g_tabIn (i := (2 : Int)) (tgt := 190) hx hb0 dX9_part_128 hc2 (by decide) (by decide) (by decide) rfl (by decide) ?_
                refine lv_aload_n hx hb0 dX9_part_190 rfl (lv_at hl 4 rfl) ?_
                refine lv_iload hx hb0 dX9_part_191 (lv_at hl 1 rfl) ?_
                refine lv_iload hx hb0 dX9_part_193 (lv_at hl 2 rfl) ?_
                refine g_isub hx hb0 dX9_part_195 ?_
                refine lv_iconst (v := gI (1 : Int)) hx hb0 dX9_part_196 (by decide) ?_
                refine g_iadd hx hb0 dX9_part_197 ?_
                obtain ⟨q198, e198, h⟩ := gBind_some h
                refine g_callVi (k := 136) (T := TX9) (N := 19) (As := [.int (gI ((t0_111 - t0_72) + (1 : Int)))]) (rest := []) ⟨hx, hb0, hml, hown, hts⟩ (metX9_tells l D G q30 μ ((t0_111 - t0_72) + (1 : Int)) q198.1 q198.2 e198) (g_cwV (C := RX9) 1 hts q_ml_X9_47 q_im_X9_tells q_se_X9_tells q_in_X9 q_co_X9_tells ⟨rfl, rfl⟩ (by decide +kernel) ⟨Nat.le_of_ble_eq_true rfl, Nat.le_of_ble_eq_true rfl⟩) hX hH (rfl : gKinds[136]? = _) rfl rfl hl.1 rfl (Nat.le_of_ble_eq_true rfl) dX9_part_198 ⟨Nat.zero_le _, Nat.zero_le _⟩ (fun H locs hH => ?_)
                exact g_iretS hx hb0 hr hH hlocks dX9_part_201 h
              · obtain ⟨hgr, -, h⟩ := gIf_some h
                rcases h with ⟨hc3, h⟩ | ⟨hc3, h⟩
                · refine g_tabIn (i := (3 : Int)) (tgt := 202) hx hb0 dX9_part_128 hc3 (by decide) (by decide) (by decide) rfl (by decide) ?_
                  refine lv_aload_n hx hb0 dX9_part_202 rfl (lv_at hl 4 rfl) ?_
                  refine lv_iload_n hx hb0 dX9_part_203 rfl (lv_at hl 6 rfl) ?_
                  have hJ220 : ∀ (t0_220 : Int) (H : Heap) (locs : List Loc) (ls : Array Slot), gH D G s H locs q30 μ → lv_has ls 8 [] → (DX9_part_J220 q30 t0_220) = some (r, σ') → W p l e (headSpec (gWs yX9_part cX9_part 8 (some (Jvm.ClassFile.FieldType.int))) ({ frames := 6, cells := 0, slots := 0, locals := 139 } : Room)).room s m ([.ref (G.1 136), .int (gI a1), .int (gI a2), .int (gI a3)] : List Value).toArray below meth c H locs 0 0 (MQ below (gQi D G r σ' μ) ([.ref (G.1 136), .int (gI a1), .int (gI a2), .int (gI a3)] : List Value).toArray s 0 0 (gA G)) (F0 m 220 ls [.int (gI t0_220), .ref (G.1 136)]) := by
                    intro t0_220 H locs ls hH hl h
                    unfold DX9_part_J220 at h
                    obtain ⟨q220, e220, h⟩ := gBind_some h
                    refine g_callVi (k := 136) (T := TX9) (N := 19) (As := [.int (gI t0_220)]) (rest := []) ⟨hx, hb0, hml, hown, hts⟩ (metX9_tells l D G q30 μ t0_220 q220.1 q220.2 e220) (g_cwV (C := RX9) 1 hts q_ml_X9_47 q_im_X9_tells q_se_X9_tells q_in_X9 q_co_X9_tells ⟨rfl, rfl⟩ (by decide +kernel) ⟨Nat.le_of_ble_eq_true rfl, Nat.le_of_ble_eq_true rfl⟩) hX hH (rfl : gKinds[136]? = _) rfl rfl hl.1 rfl (Nat.le_of_ble_eq_true rfl) dX9_part_220 ⟨Nat.zero_le _, Nat.zero_le _⟩ (fun H locs hH => ?_)
                    exact g_iretS hx hb0 hr hH hlocks dX9_part_223 h
                  refine g_if_ne (tgt := 211) hx hb0 dX9_part_204 (by decide) h (fun h => ?_) (fun h => ?_)
                  · refine lv_aload_n hx hb0 dX9_part_211 rfl (lv_at hl 4 rfl) ?_
                    refine g_getR hx hb0 hts q_ws_X9 hown hX hH (C := RX9) (T := TX9) (N := 19) (k := 136) (i := 13) (j := 144) (rfl : gKinds[136]? = _) rfl (by decide) (hts _ q_fl_X9_31) rfl rfl dX9_part_212 ?_
                    refine lv_iload hx hb0 dX9_part_215 (lv_at hl 0 rfl) ?_
                    refine lv_iconst (v := gI (1 : Int)) hx hb0 dX9_part_217 (by decide) ?_
                    refine g_isub hx hb0 dX9_part_218 ?_
                    refine g_iald hx hb0 hX hH (k := 144) (rfl : gKinds[144]? = _) (by decide) dX9_part_219 h (fun h => ?_)
                    exact hJ220 _ _ _ _ hH (lv_sub hl [] rfl) h
                  · refine lv_iconst (v := gI (-1 : Int)) hx hb0 dX9_part_207 (by decide) ?_
                    refine lv_goto (tgt := 220) hx hb0 dX9_part_208 (by decide) ?_
                    exact hJ220 _ _ _ _ hH (lv_sub hl [] rfl) h
                · obtain ⟨hgr, -, h⟩ := gIf_some h
                  rcases h with ⟨hc4, h⟩ | ⟨hc4, h⟩
                  · refine g_tabIn (i := (4 : Int)) (tgt := 224) hx hb0 dX9_part_128 hc4 (by decide) (by decide) (by decide) rfl (by decide) ?_
                    refine lv_aload_n hx hb0 dX9_part_224 rfl (lv_at hl 4 rfl) ?_
                    refine lv_iload_n hx hb0 dX9_part_225 rfl (lv_at hl 6 rfl) ?_
                    refine lv_aload_n hx hb0 dX9_part_226 rfl (lv_at hl 4 rfl) ?_
                    refine lv_iload_n hx hb0 dX9_part_227 rfl (lv_at hl 5 rfl) ?_
                    obtain ⟨q228, e228, h⟩ := gBind_some h
                    refine g_callVi (k := 136) (T := TX9) (N := 19) (As := [.int (gI a1)]) (rest := [.int (gI a2), .ref (G.1 136)]) ⟨hx, hb0, hml, hown, hts⟩ (metX9_partsOf l D G q30 μ a1 q228 e228) (g_cwV (C := RX9) 1 hts q_ml_X9_149 q_im_X9_partsOf q_se_X9_partsOf q_in_X9 q_co_X9_partsOf ⟨rfl, rfl⟩ (by decide +kernel) ⟨Nat.le_of_ble_eq_true rfl, Nat.le_of_ble_eq_true rfl⟩) hX hH (rfl : gKinds[136]? = _) rfl rfl hl.1 rfl (Nat.le_of_ble_eq_true rfl) dX9_part_228 ⟨Nat.zero_le _, Nat.zero_le _⟩ (fun H locs hH => ?_)
                    refine lv_iconst (v := gI (1 : Int)) hx hb0 dX9_part_231 (by decide) ?_
                    refine g_isub hx hb0 dX9_part_232 ?_
                    have hJ249 : ∀ (t0_249 : Int) (H : Heap) (locs : List Loc) (ls : Array Slot), gH D G s H locs q30 μ → lv_has ls 8 [] → (DX9_part_J249 q30 t0_249) = some (r, σ') → W p l e (headSpec (gWs yX9_part cX9_part 8 (some (Jvm.ClassFile.FieldType.int))) ({ frames := 6, cells := 0, slots := 0, locals := 139 } : Room)).room s m ([.ref (G.1 136), .int (gI a1), .int (gI a2), .int (gI a3)] : List Value).toArray below meth c H locs 0 0 (MQ below (gQi D G r σ' μ) ([.ref (G.1 136), .int (gI a1), .int (gI a2), .int (gI a3)] : List Value).toArray s 0 0 (gA G)) (F0 m 249 ls [.int (gI t0_249), .ref (G.1 136)]) := by
                      intro t0_249 H locs ls hH hl h
                      unfold DX9_part_J249 at h
                      obtain ⟨q249, e249, h⟩ := gBind_some h
                      refine g_callVi (k := 136) (T := TX9) (N := 19) (As := [.int (gI t0_249)]) (rest := []) ⟨hx, hb0, hml, hown, hts⟩ (metX9_tells l D G q30 μ t0_249 q249.1 q249.2 e249) (g_cwV (C := RX9) 1 hts q_ml_X9_47 q_im_X9_tells q_se_X9_tells q_in_X9 q_co_X9_tells ⟨rfl, rfl⟩ (by decide +kernel) ⟨Nat.le_of_ble_eq_true rfl, Nat.le_of_ble_eq_true rfl⟩) hX hH (rfl : gKinds[136]? = _) rfl rfl hl.1 rfl (Nat.le_of_ble_eq_true rfl) dX9_part_249 ⟨Nat.zero_le _, Nat.zero_le _⟩ (fun H locs hH => ?_)
                      exact g_iretS hx hb0 hr hH hlocks dX9_part_252 h
                    refine g_icmp_ne (tgt := 240) hx hb0 dX9_part_233 (by decide) h (fun h => ?_) (fun h => ?_)
                    · refine lv_aload_n hx hb0 dX9_part_240 rfl (lv_at hl 4 rfl) ?_
                      refine g_getR hx hb0 hts q_ws_X9 hown hX hH (C := RX9) (T := TX9) (N := 19) (k := 136) (i := 13) (j := 144) (rfl : gKinds[136]? = _) rfl (by decide) (hts _ q_fl_X9_31) rfl rfl dX9_part_241 ?_
                      refine lv_iload hx hb0 dX9_part_244 (lv_at hl 0 rfl) ?_
                      refine lv_iconst (v := gI (1 : Int)) hx hb0 dX9_part_246 (by decide) ?_
                      refine g_iadd hx hb0 dX9_part_247 ?_
                      refine g_iald hx hb0 hX hH (k := 144) (rfl : gKinds[144]? = _) (by decide) dX9_part_248 h (fun h => ?_)
                      exact hJ249 _ _ _ _ hH (lv_sub hl [] rfl) h
                    · refine lv_iconst (v := gI (-1 : Int)) hx hb0 dX9_part_236 (by decide) ?_
                      refine lv_goto (tgt := 249) hx hb0 dX9_part_237 (by decide) ?_
                      exact hJ249 _ _ _ _ hH (lv_sub hl [] rfl) h
                  · refine g_tabOut (tgt := 253) hx hb0 dX9_part_128 hgr (by omega) (by decide) ?_
                    refine lv_aload_n hx hb0 dX9_part_253 rfl (lv_at hl 4 rfl) ?_
                    refine lv_iconst (v := gI (2 : Int)) hx hb0 dX9_part_254 (by decide) ?_
                    obtain ⟨q255, e255, h⟩ := gBind_some h
                    refine g_callVi (k := 136) (T := TX9) (N := 19) (As := [.int (gI (2 : Int))]) (rest := []) ⟨hx, hb0, hml, hown, hts⟩ (metX9_fails l D G q30 μ (2 : Int) q255.1 q255.2 e255) (g_cwV (C := RX9) 1 hts q_ml_X9_63 q_im_X9_fails q_se_X9_fails q_in_X9 q_co_X9_fails ⟨rfl, rfl⟩ (by decide +kernel) ⟨Nat.le_of_ble_eq_true rfl, Nat.le_of_ble_eq_true rfl⟩) hX hH (rfl : gKinds[136]? = _) rfl rfl hl.1 rfl (Nat.le_of_ble_eq_true rfl) dX9_part_255 ⟨Nat.zero_le _, Nat.zero_le _⟩ (fun H locs hH => ?_)
                    exact g_iretS hx hb0 hr hH hlocks dX9_part_258 h
        refine g_icmp_ne (tgt := 93) hx hb0 dX9_part_82 (by decide) h (fun h => ?_) (fun h => ?_)
        · refine lv_iload hx hb0 dX9_part_93 (lv_at hl 1 rfl) ?_
          refine lv_aload_n hx hb0 dX9_part_95 rfl (lv_at hl 2 rfl) ?_
          refine g_getR hx hb0 hts q_ws_X9 hown hX hH (C := RX9) (T := TX9) (N := 19) (k := 136) (i := 0) (j := 137) (rfl : gKinds[136]? = _) rfl (by decide) (hts _ q_fl_X9_7) rfl rfl dX9_part_96 ?_
          refine lv_iconst (v := gI (1 : Int)) hx hb0 dX9_part_99 (by decide) ?_
          refine g_iald hx hb0 hX hH (k := 137) (rfl : gKinds[137]? = _) (by decide) dX9_part_100 h (fun h => ?_)
          refine g_imul hx hb0 dX9_part_101 ?_
          refine lv_aload_n hx hb0 dX9_part_102 rfl (lv_at hl 2 rfl) ?_
          refine g_getR hx hb0 hts q_ws_X9 hown hX hH (C := RX9) (T := TX9) (N := 19) (k := 136) (i := 0) (j := 137) (rfl : gKinds[136]? = _) rfl (by decide) (hts _ q_fl_X9_7) rfl rfl dX9_part_103 ?_
          refine lv_iconst (v := gI (1 : Int)) hx hb0 dX9_part_106 (by decide) ?_
          refine g_iald hx hb0 hX hH (k := 137) (rfl : gKinds[137]? = _) (by decide) dX9_part_107 h (fun h => ?_)
          refine g_iadd hx hb0 dX9_part_108 ?_
          refine lv_iconst (v := gI (1 : Int)) hx hb0 dX9_part_109 (by decide) ?_
          refine g_isub hx hb0 dX9_part_110 ?_
          exact hJ111 _ _ _ _ hH (lv_sub hl [0, 1, 2, 3, 4, 5] rfl) h
        · refine lv_aload_n hx hb0 dX9_part_85 rfl (lv_at hl 2 rfl) ?_
          refine lv_iload_n hx hb0 dX9_part_86 rfl (lv_at hl 3 rfl) ?_
          obtain ⟨q87, e87, h⟩ := gBind_some h
          refine g_callVi (k := 136) (T := TX9) (N := 19) (As := [.int (gI a1)]) (rest := []) ⟨hx, hb0, hml, hown, hts⟩ (metX9_lastDay l D G q30 μ a1 q87 e87) (g_cwV (C := RX9) 1 hts q_ml_X9_127 q_im_X9_lastDay q_se_X9_lastDay q_in_X9 q_co_X9_lastDay ⟨rfl, rfl⟩ (by decide +kernel) ⟨Nat.le_of_ble_eq_true rfl, Nat.le_of_ble_eq_true rfl⟩) hX hH (rfl : gKinds[136]? = _) rfl rfl hl.1 rfl (Nat.le_of_ble_eq_true rfl) dX9_part_87 ⟨Nat.zero_le _, Nat.zero_le _⟩ (fun H locs hH => ?_)
          refine lv_goto (tgt := 111) hx hb0 dX9_part_90 (by decide) ?_
          exact hJ111 _ _ _ _ hH (lv_sub hl [0, 1, 2, 3, 4, 5] rfl) h
      refine g_if_ne (tgt := 63) hx hb0 dX9_part_51 (by decide) h (fun h => ?_) (fun h => ?_)
      · refine lv_iload hx hb0 dX9_part_63 (lv_at hl 0 rfl) ?_
        refine lv_aload_n hx hb0 dX9_part_65 rfl (lv_at hl 1 rfl) ?_
        refine g_getR hx hb0 hts q_ws_X9 hown hX hH (C := RX9) (T := TX9) (N := 19) (k := 136) (i := 0) (j := 137) (rfl : gKinds[136]? = _) rfl (by decide) (hts _ q_fl_X9_7) rfl rfl dX9_part_66 ?_
        refine lv_iconst (v := gI (1 : Int)) hx hb0 dX9_part_69 (by decide) ?_
        refine g_iald hx hb0 hX hH (k := 137) (rfl : gKinds[137]? = _) (by decide) dX9_part_70 h (fun h => ?_)
        refine g_imul hx hb0 dX9_part_71 ?_
        exact hJ72 _ _ _ _ hH (lv_sub hl [0, 1, 2, 3, 4] rfl) h
      · refine lv_aload_n hx hb0 dX9_part_54 rfl (lv_at hl 1 rfl) ?_
        refine lv_iload_n hx hb0 dX9_part_55 rfl (lv_at hl 2 rfl) ?_
        refine lv_iconst (v := gI (1 : Int)) hx hb0 dX9_part_56 (by decide) ?_
        obtain ⟨q57, e57, h⟩ := gBind_some h
        refine g_callVi (k := 136) (T := TX9) (N := 19) (As := [.int (gI a1), .int (gI (1 : Int))]) (rest := []) ⟨hx, hb0, hml, hown, hts⟩ (metX9_of l D G q30 μ a1 (1 : Int) q57 e57) (g_cwV (C := RX9) 2 hts q_ml_X9_55 q_im_X9_of q_se_X9_of q_in_X9 q_co_X9_of ⟨rfl, rfl⟩ (by decide +kernel) ⟨Nat.le_of_ble_eq_true rfl, Nat.le_of_ble_eq_true rfl⟩) hX hH (rfl : gKinds[136]? = _) rfl rfl hl.1 rfl (Nat.le_of_ble_eq_true rfl) dX9_part_57 ⟨Nat.zero_le _, Nat.zero_le _⟩ (fun H locs hH => ?_)
        refine lv_goto (tgt := 72) hx hb0 dX9_part_60 (by decide) ?_
        exact hJ72 _ _ _ _ hH (lv_sub hl [0, 1, 2, 3, 4] rfl) h
    · exact hJ23  _ _ _ hH (lv_sub hl [0] rfl) h
def DX9_arrowTold (σ : gSt) (a1 : Int) (a2 : Int) : Option (Int) :=
  gIf (a2 = (0 : Int)) a2 (0 : Int) ((DX9_end σ a1 a2).bind fun q39 => some q39) (gIf (a2 = (1 : Int)) a2 (1 : Int) ((DX9_end σ a1 a2).bind fun q39 => some q39) (gIf (a2 = (2 : Int)) a2 (2 : Int) (gAt (1 : Int) 138 ((DX9_leaves σ a1 (σ 137 (Int.toNat (1 : Int)))).bind fun q51 => some q51)) (gIf (a2 = (3 : Int)) a2 (3 : Int) (gAt (1 : Int) 138 ((DX9_arrives σ a1 (σ 137 (Int.toNat (1 : Int)))).bind fun q63 => some q63)) (gIf (a2 = (4 : Int)) a2 (4 : Int) ((DX9_exitOf σ a1).bind fun q69 => some q69) ((DX9_isLate σ a1).bind fun q75 => gIf (q75 = (0 : Int)) q75 (0 : Int) (some (0 : Int)) (some (1 : Int)))))))
set_option maxHeartbeats 4000000 in
set_option maxRecDepth 100000 in
theorem metX9_arrowTold (l : Launch) (D : va_G) (G : gAd) (σ : gSt) (μ : gLg) (a1 : Int) (a2 : Int) (r : Int) (h : DX9_arrowTold σ a1 a2 = some r) : Met l yX9_arrowTold (gWs yX9_arrowTold cX9_arrowTold 3 (some (Jvm.ClassFile.FieldType.int))) ({ frames := 5, cells := 0, slots := 0, locals := 110 } : Room) (gPc D G [.ref (G.1 136), .int (gI a1), .int (gI a2)] σ μ) (gQi D G r σ μ) 0 0 (gA G) := by
  refine Met.ofW (cc := cX9_arrowTold) (maxL := 3) (ret := (some (Jvm.ClassFile.FieldType.int))) (by decide) rfl ?_
  intro p e s m args below meth c s₁ B hml hv
  obtain ⟨rfl, hP, hX⟩ := hv
  have hx := B.exec
  have hb0 := B.bytes
  have hr := B.returns
  have hts0 := atoms_spec (ws := (gWs yX9_arrowTold cX9_arrowTold 3 (some (Jvm.ClassFile.FieldType.int)))) B.pre
  have hts : ∀ w ∈ gLW, w.before _ s = true := fun w hw => hts0 w (List.mem_cons_of_mem _ hw)
  have hown : s.vm.findClass RX9 = some m.cls := findClass_of_methodNamed B.named
  have hlocks := B.notSynchronized
  have hH : gH D G s s.heap [] σ μ := ⟨hP, va_S.rf⟩
  have hl := lv_entry ([.ref (G.1 136), .int (gI a1), .int (gI a2)]) (n := 3) (Nat.le_of_ble_eq_true rfl)
  rw [lg_entry_eq]
  generalize (lg_sl ([.ref (G.1 136), .int (gI a1), .int (gI a2)]) ++ List.replicate (3 - (lg_sl ([.ref (G.1 136), .int (gI a1), .int (gI a2)])).length) Slot.unset).toArray = ls at hl ⊢
  have hl : lv_has ls 3 [(0, .ref (G.1 136)), (1, .int (gI a1)), (2, .int (gI a2))] := hl
  unfold DX9_arrowTold at h
  refine lv_iload_n hx hb0 dX9_arrowTold_0 rfl (lv_at hl 2 rfl) ?_
  obtain ⟨hgr, -, h⟩ := gIf_some h
  rcases h with ⟨hc0, h⟩ | ⟨hc0, h⟩
  · refine g_tabIn (i := (0 : Int)) (tgt := 36) hx hb0 dX9_arrowTold_1 hc0 (by decide) (by decide) (by decide) rfl (by decide) ?_
    refine lv_aload_n hx hb0 dX9_arrowTold_36 rfl (lv_at hl 0 rfl) ?_
    refine lv_iload_n hx hb0 dX9_arrowTold_37 rfl (lv_at hl 1 rfl) ?_
    refine lv_iload_n hx hb0 dX9_arrowTold_38 rfl (lv_at hl 2 rfl) ?_
    obtain ⟨q39, e39, h⟩ := gBind_some h
    refine g_callVi (k := 136) (T := TX9) (N := 19) (As := [.int (gI a1), .int (gI a2)]) (rest := []) ⟨hx, hb0, hml, hown, hts⟩ (metX9_end l D G σ μ a1 a2 q39 e39) (g_cwV (C := RX9) 2 hts q_ml_X9_86 q_im_X9_end q_se_X9_end q_in_X9 q_co_X9_end ⟨rfl, rfl⟩ (by decide +kernel) ⟨Nat.le_of_ble_eq_true rfl, Nat.le_of_ble_eq_true rfl⟩) hX hH (rfl : gKinds[136]? = _) rfl rfl hl.1 rfl (Nat.le_of_ble_eq_true rfl) dX9_arrowTold_39 ⟨Nat.zero_le _, Nat.zero_le _⟩ (fun H locs hH => ?_)
    exact g_iretP hx hb0 hr hH hlocks dX9_arrowTold_42 h
  · obtain ⟨hgr, -, h⟩ := gIf_some h
    rcases h with ⟨hc1, h⟩ | ⟨hc1, h⟩
    · refine g_tabIn (i := (1 : Int)) (tgt := 36) hx hb0 dX9_arrowTold_1 hc1 (by decide) (by decide) (by decide) rfl (by decide) ?_
      refine lv_aload_n hx hb0 dX9_arrowTold_36 rfl (lv_at hl 0 rfl) ?_
      refine lv_iload_n hx hb0 dX9_arrowTold_37 rfl (lv_at hl 1 rfl) ?_
      refine lv_iload_n hx hb0 dX9_arrowTold_38 rfl (lv_at hl 2 rfl) ?_
      obtain ⟨q39, e39, h⟩ := gBind_some h
      refine g_callVi (k := 136) (T := TX9) (N := 19) (As := [.int (gI a1), .int (gI a2)]) (rest := []) ⟨hx, hb0, hml, hown, hts⟩ (metX9_end l D G σ μ a1 a2 q39 e39) (g_cwV (C := RX9) 2 hts q_ml_X9_86 q_im_X9_end q_se_X9_end q_in_X9 q_co_X9_end ⟨rfl, rfl⟩ (by decide +kernel) ⟨Nat.le_of_ble_eq_true rfl, Nat.le_of_ble_eq_true rfl⟩) hX hH (rfl : gKinds[136]? = _) rfl rfl hl.1 rfl (Nat.le_of_ble_eq_true rfl) dX9_arrowTold_39 ⟨Nat.zero_le _, Nat.zero_le _⟩ (fun H locs hH => ?_)
      exact g_iretP hx hb0 hr hH hlocks dX9_arrowTold_42 h
    · obtain ⟨hgr, -, h⟩ := gIf_some h
      rcases h with ⟨hc2, h⟩ | ⟨hc2, h⟩
      · refine g_tabIn (i := (2 : Int)) (tgt := 43) hx hb0 dX9_arrowTold_1 hc2 (by decide) (by decide) (by decide) rfl (by decide) ?_
        refine lv_aload_n hx hb0 dX9_arrowTold_43 rfl (lv_at hl 0 rfl) ?_
        refine lv_iload_n hx hb0 dX9_arrowTold_44 rfl (lv_at hl 1 rfl) ?_
        refine lv_aload_n hx hb0 dX9_arrowTold_45 rfl (lv_at hl 0 rfl) ?_
        refine g_getR hx hb0 hts q_ws_X9 hown hX hH (C := RX9) (T := TX9) (N := 19) (k := 136) (i := 0) (j := 137) (rfl : gKinds[136]? = _) rfl (by decide) (hts _ q_fl_X9_7) rfl rfl dX9_arrowTold_46 ?_
        refine lv_iconst (v := gI (1 : Int)) hx hb0 dX9_arrowTold_49 (by decide) ?_
        refine g_iald hx hb0 hX hH (k := 137) (rfl : gKinds[137]? = _) (by decide) dX9_arrowTold_50 h (fun h => ?_)
        obtain ⟨q51, e51, h⟩ := gBind_some h
        refine g_callVi (k := 136) (T := TX9) (N := 19) (As := [.int (gI a1), .int (gI (σ 137 (Int.toNat (1 : Int))))]) (rest := []) ⟨hx, hb0, hml, hown, hts⟩ (metX9_leaves l D G σ μ a1 (σ 137 (Int.toNat (1 : Int))) q51 e51) (g_cwV (C := RX9) 2 hts q_ml_X9_140 q_im_X9_leaves q_se_X9_leaves q_in_X9 q_co_X9_leaves ⟨rfl, rfl⟩ (by decide +kernel) ⟨Nat.le_of_ble_eq_true rfl, Nat.le_of_ble_eq_true rfl⟩) hX hH (rfl : gKinds[136]? = _) rfl rfl hl.1 rfl (Nat.le_of_ble_eq_true rfl) dX9_arrowTold_51 ⟨Nat.zero_le _, Nat.zero_le _⟩ (fun H locs hH => ?_)
        exact g_iretP hx hb0 hr hH hlocks dX9_arrowTold_54 h
      · obtain ⟨hgr, -, h⟩ := gIf_some h
        rcases h with ⟨hc3, h⟩ | ⟨hc3, h⟩
        · refine g_tabIn (i := (3 : Int)) (tgt := 55) hx hb0 dX9_arrowTold_1 hc3 (by decide) (by decide) (by decide) rfl (by decide) ?_
          refine lv_aload_n hx hb0 dX9_arrowTold_55 rfl (lv_at hl 0 rfl) ?_
          refine lv_iload_n hx hb0 dX9_arrowTold_56 rfl (lv_at hl 1 rfl) ?_
          refine lv_aload_n hx hb0 dX9_arrowTold_57 rfl (lv_at hl 0 rfl) ?_
          refine g_getR hx hb0 hts q_ws_X9 hown hX hH (C := RX9) (T := TX9) (N := 19) (k := 136) (i := 0) (j := 137) (rfl : gKinds[136]? = _) rfl (by decide) (hts _ q_fl_X9_7) rfl rfl dX9_arrowTold_58 ?_
          refine lv_iconst (v := gI (1 : Int)) hx hb0 dX9_arrowTold_61 (by decide) ?_
          refine g_iald hx hb0 hX hH (k := 137) (rfl : gKinds[137]? = _) (by decide) dX9_arrowTold_62 h (fun h => ?_)
          obtain ⟨q63, e63, h⟩ := gBind_some h
          refine g_callVi (k := 136) (T := TX9) (N := 19) (As := [.int (gI a1), .int (gI (σ 137 (Int.toNat (1 : Int))))]) (rest := []) ⟨hx, hb0, hml, hown, hts⟩ (metX9_arrives l D G σ μ a1 (σ 137 (Int.toNat (1 : Int))) q63 e63) (g_cwV (C := RX9) 2 hts q_ml_X9_143 q_im_X9_arrives q_se_X9_arrives q_in_X9 q_co_X9_arrives ⟨rfl, rfl⟩ (by decide +kernel) ⟨Nat.le_of_ble_eq_true rfl, Nat.le_of_ble_eq_true rfl⟩) hX hH (rfl : gKinds[136]? = _) rfl rfl hl.1 rfl (Nat.le_of_ble_eq_true rfl) dX9_arrowTold_63 ⟨Nat.zero_le _, Nat.zero_le _⟩ (fun H locs hH => ?_)
          exact g_iretP hx hb0 hr hH hlocks dX9_arrowTold_66 h
        · obtain ⟨hgr, -, h⟩ := gIf_some h
          rcases h with ⟨hc4, h⟩ | ⟨hc4, h⟩
          · refine g_tabIn (i := (4 : Int)) (tgt := 67) hx hb0 dX9_arrowTold_1 hc4 (by decide) (by decide) (by decide) rfl (by decide) ?_
            refine lv_aload_n hx hb0 dX9_arrowTold_67 rfl (lv_at hl 0 rfl) ?_
            refine lv_iload_n hx hb0 dX9_arrowTold_68 rfl (lv_at hl 1 rfl) ?_
            obtain ⟨q69, e69, h⟩ := gBind_some h
            refine g_callVi (k := 136) (T := TX9) (N := 19) (As := [.int (gI a1)]) (rest := []) ⟨hx, hb0, hml, hown, hts⟩ (metX9_exitOf l D G σ μ a1 q69 e69) (g_cwV (C := RX9) 1 hts q_ml_X9_168 q_im_X9_exitOf q_se_X9_exitOf q_in_X9 q_co_X9_exitOf ⟨rfl, rfl⟩ (by decide +kernel) ⟨Nat.le_of_ble_eq_true rfl, Nat.le_of_ble_eq_true rfl⟩) hX hH (rfl : gKinds[136]? = _) rfl rfl hl.1 rfl (Nat.le_of_ble_eq_true rfl) dX9_arrowTold_69 ⟨Nat.zero_le _, Nat.zero_le _⟩ (fun H locs hH => ?_)
            exact g_iretP hx hb0 hr hH hlocks dX9_arrowTold_72 h
          · refine g_tabOut (tgt := 73) hx hb0 dX9_arrowTold_1 hgr (by omega) (by decide) ?_
            refine lv_aload_n hx hb0 dX9_arrowTold_73 rfl (lv_at hl 0 rfl) ?_
            refine lv_iload_n hx hb0 dX9_arrowTold_74 rfl (lv_at hl 1 rfl) ?_
            obtain ⟨q75, e75, h⟩ := gBind_some h
            refine g_callVi (k := 136) (T := TX9) (N := 19) (As := [.int (gI a1)]) (rest := []) ⟨hx, hb0, hml, hown, hts⟩ (metX9_isLate l D G σ μ a1 q75 e75) (g_cwV (C := RX9) 1 hts q_ml_X9_171 q_im_X9_isLate q_se_X9_isLate q_in_X9 q_co_X9_isLate ⟨rfl, rfl⟩ (by decide +kernel) ⟨Nat.le_of_ble_eq_true rfl, Nat.le_of_ble_eq_true rfl⟩) hX hH (rfl : gKinds[136]? = _) rfl rfl hl.1 rfl (Nat.le_of_ble_eq_true rfl) dX9_arrowTold_75 ⟨Nat.zero_le _, Nat.zero_le _⟩ (fun H locs hH => ?_)
            refine g_if_eq (tgt := 85) hx hb0 dX9_arrowTold_78 (by decide) h (fun h => ?_) (fun h => ?_)
            · refine lv_iconst (v := gI (0 : Int)) hx hb0 dX9_arrowTold_85 (by decide) ?_
              exact g_iretP hx hb0 hr hH hlocks dX9_arrowTold_86 h
            · refine lv_iconst (v := gI (1 : Int)) hx hb0 dX9_arrowTold_81 (by decide) ?_
              refine lv_goto (tgt := 86) hx hb0 dX9_arrowTold_82 (by decide) ?_
              exact g_iretP hx hb0 hr hH hlocks dX9_arrowTold_86 h
def DX9_arrow (σ : gSt) (a1 : Int) (a2 : Int) : Option (Int × gSt) :=
  (DX9_isArrow σ a1).bind fun q2 => gIf (q2 = (0 : Int)) q2 (0 : Int) ((DX9_fails σ (1 : Int)).bind fun q10 => some (q10.1, q10.2)) ((DX9_in σ a2 (0 : Int) (5 : Int)).bind fun q17 => gIf (q17 = (0 : Int)) q17 (0 : Int) ((DX9_fails σ (2 : Int)).bind fun q25 => some (q25.1, q25.2)) ((DX9_prints σ).bind fun q30 => (DX9_arrowTold q30 a1 a2).bind fun q37 => (DX9_tells q30 q37).bind fun q40 => some (q40.1, q40.2)))
set_option maxHeartbeats 4000000 in
set_option maxRecDepth 100000 in
theorem metX9_arrow (l : Launch) (D : va_G) (G : gAd) (σ : gSt) (μ : gLg) (a1 : Int) (a2 : Int) (r : Int) (σ' : gSt) (h : DX9_arrow σ a1 a2 = some (r, σ')) : Met l yX9_arrow (gWs yX9_arrow cX9_arrow 3 (some (Jvm.ClassFile.FieldType.int))) ({ frames := 6, cells := 0, slots := 0, locals := 139 } : Room) (gPc D G [.ref (G.1 136), .int (gI a1), .int (gI a2)] σ μ) (gQi D G r σ' μ) 0 0 (gA G) := by
  refine Met.ofW (cc := cX9_arrow) (maxL := 3) (ret := (some (Jvm.ClassFile.FieldType.int))) (by decide) rfl ?_
  intro p e s m args below meth c s₁ B hml hv
  obtain ⟨rfl, hP, hX⟩ := hv
  have hx := B.exec
  have hb0 := B.bytes
  have hr := B.returns
  have hts0 := atoms_spec (ws := (gWs yX9_arrow cX9_arrow 3 (some (Jvm.ClassFile.FieldType.int)))) B.pre
  have hts : ∀ w ∈ gLW, w.before _ s = true := fun w hw => hts0 w (List.mem_cons_of_mem _ hw)
  have hown : s.vm.findClass RX9 = some m.cls := findClass_of_methodNamed B.named
  have hlocks := B.notSynchronized
  have hH : gH D G s s.heap [] σ μ := ⟨hP, va_S.rf⟩
  have hl := lv_entry ([.ref (G.1 136), .int (gI a1), .int (gI a2)]) (n := 3) (Nat.le_of_ble_eq_true rfl)
  rw [lg_entry_eq]
  generalize (lg_sl ([.ref (G.1 136), .int (gI a1), .int (gI a2)]) ++ List.replicate (3 - (lg_sl ([.ref (G.1 136), .int (gI a1), .int (gI a2)])).length) Slot.unset).toArray = ls at hl ⊢
  have hl : lv_has ls 3 [(0, .ref (G.1 136)), (1, .int (gI a1)), (2, .int (gI a2))] := hl
  unfold DX9_arrow at h
  refine lv_aload_n hx hb0 dX9_arrow_0 rfl (lv_at hl 0 rfl) ?_
  refine lv_iload_n hx hb0 dX9_arrow_1 rfl (lv_at hl 1 rfl) ?_
  obtain ⟨q2, e2, h⟩ := gBind_some h
  refine g_callVi (k := 136) (T := TX9) (N := 19) (As := [.int (gI a1)]) (rest := []) ⟨hx, hb0, hml, hown, hts⟩ (metX9_isArrow l D G σ μ a1 q2 e2) (g_cwV (C := RX9) 1 hts q_ml_X9_100 q_im_X9_isArrow q_se_X9_isArrow q_in_X9 q_co_X9_isArrow ⟨rfl, rfl⟩ (by decide +kernel) ⟨Nat.le_of_ble_eq_true rfl, Nat.le_of_ble_eq_true rfl⟩) hX hH (rfl : gKinds[136]? = _) rfl rfl hl.1 rfl (Nat.le_of_ble_eq_true rfl) dX9_arrow_2 ⟨Nat.zero_le _, Nat.zero_le _⟩ (fun H locs hH => ?_)
  refine g_if_ne (tgt := 14) hx hb0 dX9_arrow_5 (by decide) h (fun h => ?_) (fun h => ?_)
  · refine lv_iload_n hx hb0 dX9_arrow_14 rfl (lv_at hl 2 rfl) ?_
    refine lv_iconst (v := gI (0 : Int)) hx hb0 dX9_arrow_15 (by decide) ?_
    refine lv_iconst (v := gI (5 : Int)) hx hb0 dX9_arrow_16 (by decide) ?_
    obtain ⟨q17, e17, h⟩ := gBind_some h
    refine g_callSi (As := [.int (gI a2), .int (gI (0 : Int)), .int (gI (5 : Int))]) (rest := []) ⟨hx, hb0, hml, hown, hts⟩ (metX9_in l D G σ μ a2 (0 : Int) (5 : Int) q17 e17) (g_cwS 3 hts q_ml_X9_51 q_st_X9_in q_in_X9 q_co_X9_in ⟨rfl, rfl⟩ (by decide +kernel) ⟨Nat.le_of_ble_eq_true rfl, Nat.le_of_ble_eq_true rfl⟩) hX hH rfl hl.1 rfl (Nat.le_of_ble_eq_true rfl) dX9_arrow_17 ⟨Nat.zero_le _, Nat.zero_le _⟩ (fun H locs hH => ?_)
    refine g_if_ne (tgt := 29) hx hb0 dX9_arrow_20 (by decide) h (fun h => ?_) (fun h => ?_)
    · refine lv_aload_n hx hb0 dX9_arrow_29 rfl (lv_at hl 0 rfl) ?_
      obtain ⟨q30, e30, h⟩ := gBind_some h
      refine g_callVv (k := 136) (T := TX9) (N := 19) (As := []) (rest := []) ⟨hx, hb0, hml, hown, hts⟩ (metX9_prints l D G σ μ q30 e30) (g_cwV (C := RX9) 0 hts q_ml_X9_155 q_im_X9_prints q_se_X9_prints q_in_X9 q_co_X9_prints ⟨rfl, rfl⟩ (by decide +kernel) ⟨Nat.le_of_ble_eq_true rfl, Nat.le_of_ble_eq_true rfl⟩) hX hH (rfl : gKinds[136]? = _) rfl rfl hl.1 rfl (Nat.le_of_ble_eq_true rfl) dX9_arrow_30 ⟨Nat.zero_le _, Nat.zero_le _⟩ (fun H locs hH => ?_)
      refine lv_aload_n hx hb0 dX9_arrow_33 rfl (lv_at hl 0 rfl) ?_
      refine lv_aload_n hx hb0 dX9_arrow_34 rfl (lv_at hl 0 rfl) ?_
      refine lv_iload_n hx hb0 dX9_arrow_35 rfl (lv_at hl 1 rfl) ?_
      refine lv_iload_n hx hb0 dX9_arrow_36 rfl (lv_at hl 2 rfl) ?_
      obtain ⟨q37, e37, h⟩ := gBind_some h
      refine g_callVi (k := 136) (T := TX9) (N := 19) (As := [.int (gI a1), .int (gI a2)]) (rest := [.ref (G.1 136)]) ⟨hx, hb0, hml, hown, hts⟩ (metX9_arrowTold l D G q30 μ a1 a2 q37 e37) (g_cwV (C := RX9) 2 hts q_ml_X9_174 q_im_X9_arrowTold q_se_X9_arrowTold q_in_X9 q_co_X9_arrowTold ⟨rfl, rfl⟩ (by decide +kernel) ⟨Nat.le_of_ble_eq_true rfl, Nat.le_of_ble_eq_true rfl⟩) hX hH (rfl : gKinds[136]? = _) rfl rfl hl.1 rfl (Nat.le_of_ble_eq_true rfl) dX9_arrow_37 ⟨Nat.zero_le _, Nat.zero_le _⟩ (fun H locs hH => ?_)
      obtain ⟨q40, e40, h⟩ := gBind_some h
      refine g_callVi (k := 136) (T := TX9) (N := 19) (As := [.int (gI q37)]) (rest := []) ⟨hx, hb0, hml, hown, hts⟩ (metX9_tells l D G q30 μ q37 q40.1 q40.2 e40) (g_cwV (C := RX9) 1 hts q_ml_X9_47 q_im_X9_tells q_se_X9_tells q_in_X9 q_co_X9_tells ⟨rfl, rfl⟩ (by decide +kernel) ⟨Nat.le_of_ble_eq_true rfl, Nat.le_of_ble_eq_true rfl⟩) hX hH (rfl : gKinds[136]? = _) rfl rfl hl.1 rfl (Nat.le_of_ble_eq_true rfl) dX9_arrow_40 ⟨Nat.zero_le _, Nat.zero_le _⟩ (fun H locs hH => ?_)
      exact g_iretS hx hb0 hr hH hlocks dX9_arrow_43 h
    · refine lv_aload_n hx hb0 dX9_arrow_23 rfl (lv_at hl 0 rfl) ?_
      refine lv_iconst (v := gI (2 : Int)) hx hb0 dX9_arrow_24 (by decide) ?_
      obtain ⟨q25, e25, h⟩ := gBind_some h
      refine g_callVi (k := 136) (T := TX9) (N := 19) (As := [.int (gI (2 : Int))]) (rest := []) ⟨hx, hb0, hml, hown, hts⟩ (metX9_fails l D G σ μ (2 : Int) q25.1 q25.2 e25) (g_cwV (C := RX9) 1 hts q_ml_X9_63 q_im_X9_fails q_se_X9_fails q_in_X9 q_co_X9_fails ⟨rfl, rfl⟩ (by decide +kernel) ⟨Nat.le_of_ble_eq_true rfl, Nat.le_of_ble_eq_true rfl⟩) hX hH (rfl : gKinds[136]? = _) rfl rfl hl.1 rfl (Nat.le_of_ble_eq_true rfl) dX9_arrow_25 ⟨Nat.zero_le _, Nat.zero_le _⟩ (fun H locs hH => ?_)
      exact g_iretS hx hb0 hr hH hlocks dX9_arrow_28 h
  · refine lv_aload_n hx hb0 dX9_arrow_8 rfl (lv_at hl 0 rfl) ?_
    refine lv_iconst (v := gI (1 : Int)) hx hb0 dX9_arrow_9 (by decide) ?_
    obtain ⟨q10, e10, h⟩ := gBind_some h
    refine g_callVi (k := 136) (T := TX9) (N := 19) (As := [.int (gI (1 : Int))]) (rest := []) ⟨hx, hb0, hml, hown, hts⟩ (metX9_fails l D G σ μ (1 : Int) q10.1 q10.2 e10) (g_cwV (C := RX9) 1 hts q_ml_X9_63 q_im_X9_fails q_se_X9_fails q_in_X9 q_co_X9_fails ⟨rfl, rfl⟩ (by decide +kernel) ⟨Nat.le_of_ble_eq_true rfl, Nat.le_of_ble_eq_true rfl⟩) hX hH (rfl : gKinds[136]? = _) rfl rfl hl.1 rfl (Nat.le_of_ble_eq_true rfl) dX9_arrow_10 ⟨Nat.zero_le _, Nat.zero_le _⟩ (fun H locs hH => ?_)
    exact g_iretS hx hb0 hr hH hlocks dX9_arrow_13 h
def DX9_arrowOf_K42  (σ42 : gSt) : Option (Int × gSt) :=
  (DX9_fails σ42 (1 : Int)).bind fun q44 => some (q44.1, q44.2)
def DX9_arrowOf_J36 (R6 : Int → gSt → Option (Int × gSt)) (x2_6 : Int) (σ36 : gSt) : Option (Int × gSt) :=
  (R6 (x2_6 + (1 : Int)) σ36)
def DX9_arrowOf_L6 (K42 : gSt → Option (Int × gSt)) (a1 : Int) : Nat → Int → gSt → Option (Int × gSt)
  | 0, _, _ => none
  | f6 + 1, x2_6, σ6 => gAt (77 : Int) 138 (gIf (x2_6 < (σ6 137 (Int.toNat (77 : Int)))) x2_6 (σ6 137 (Int.toNat (77 : Int))) ((DX9_exitOf σ6 x2_6).bind fun q19 => gIf (q19 = a1) q19 a1 (gIf ((0 : Int) < a1) a1 (0 : Int) ((DX9_tells σ6 x2_6).bind fun q32 => some (q32.1, q32.2)) ((DX9_arrowOf_J36 (DX9_arrowOf_L6 K42 a1 f6) x2_6 σ6))) ((DX9_arrowOf_J36 (DX9_arrowOf_L6 K42 a1 f6) x2_6 σ6))) ((K42 σ6)))
def DX9_arrowOf (σ : gSt) (a1 : Int) : Option (Int × gSt) :=
  (DX9_prints σ).bind fun q1 => (DX9_arrowOf_L6 (DX9_arrowOf_K42) a1 gFuel (0 : Int) q1)
set_option maxHeartbeats 4000000 in
set_option maxRecDepth 100000 in
theorem metX9_arrowOf (l : Launch) (D : va_G) (G : gAd) (σ : gSt) (μ : gLg) (a1 : Int) (r : Int) (σ' : gSt) (h : DX9_arrowOf σ a1 = some (r, σ')) : Met l yX9_arrowOf (gWs yX9_arrowOf cX9_arrowOf 3 (some (Jvm.ClassFile.FieldType.int))) ({ frames := 6, cells := 0, slots := 0, locals := 139 } : Room) (gPc D G [.ref (G.1 136), .int (gI a1)] σ μ) (gQi D G r σ' μ) 0 0 (gA G) := by
  refine Met.ofW (cc := cX9_arrowOf) (maxL := 3) (ret := (some (Jvm.ClassFile.FieldType.int))) (by decide) rfl ?_
  intro p e s m args below meth c s₁ B hml hv
  obtain ⟨rfl, hP, hX⟩ := hv
  have hx := B.exec
  have hb0 := B.bytes
  have hr := B.returns
  have hts0 := atoms_spec (ws := (gWs yX9_arrowOf cX9_arrowOf 3 (some (Jvm.ClassFile.FieldType.int)))) B.pre
  have hts : ∀ w ∈ gLW, w.before _ s = true := fun w hw => hts0 w (List.mem_cons_of_mem _ hw)
  have hown : s.vm.findClass RX9 = some m.cls := findClass_of_methodNamed B.named
  have hlocks := B.notSynchronized
  have hH : gH D G s s.heap [] σ μ := ⟨hP, va_S.rf⟩
  have hl := lv_entry ([.ref (G.1 136), .int (gI a1)]) (n := 3) (Nat.le_of_ble_eq_true rfl)
  rw [lg_entry_eq]
  generalize (lg_sl ([.ref (G.1 136), .int (gI a1)]) ++ List.replicate (3 - (lg_sl ([.ref (G.1 136), .int (gI a1)])).length) Slot.unset).toArray = ls at hl ⊢
  have hl : lv_has ls 3 [(0, .ref (G.1 136)), (1, .int (gI a1))] := hl
  unfold DX9_arrowOf at h
  refine lv_aload_n hx hb0 dX9_arrowOf_0 rfl (lv_at hl 0 rfl) ?_
  obtain ⟨q1, e1, h⟩ := gBind_some h
  refine g_callVv (k := 136) (T := TX9) (N := 19) (As := []) (rest := []) ⟨hx, hb0, hml, hown, hts⟩ (metX9_prints l D G σ μ q1 e1) (g_cwV (C := RX9) 0 hts q_ml_X9_155 q_im_X9_prints q_se_X9_prints q_in_X9 q_co_X9_prints ⟨rfl, rfl⟩ (by decide +kernel) ⟨Nat.le_of_ble_eq_true rfl, Nat.le_of_ble_eq_true rfl⟩) hX hH (rfl : gKinds[136]? = _) rfl rfl hl.1 rfl (Nat.le_of_ble_eq_true rfl) dX9_arrowOf_1 ⟨Nat.zero_le _, Nat.zero_le _⟩ (fun H locs hH => ?_)
  refine lv_iconst (v := gI (0 : Int)) hx hb0 dX9_arrowOf_4 (by decide) ?_
  refine lv_istore_n (lv' := [(2, .int (gI (0 : Int))), (0, .ref (G.1 136)), (1, .int (gI a1))]) hx hb0 dX9_arrowOf_5 rfl hl (by decide) rfl (fun ls hl => ?_)
  have hK42 : ∀ (σ42 : gSt) (H : Heap) (locs : List Loc) (ls : Array Slot), gH D G s H locs σ42 μ → lv_has ls 3 [(0, .ref (G.1 136))] → (DX9_arrowOf_K42 σ42) = some (r, σ') → W p l e (headSpec (gWs yX9_arrowOf cX9_arrowOf 3 (some (Jvm.ClassFile.FieldType.int))) ({ frames := 6, cells := 0, slots := 0, locals := 139 } : Room)).room s m ([.ref (G.1 136), .int (gI a1)] : List Value).toArray below meth c H locs 0 0 (MQ below (gQi D G r σ' μ) ([.ref (G.1 136), .int (gI a1)] : List Value).toArray s 0 0 (gA G)) (F0 m 42 ls []) := by
    intro σ42 H locs ls hH hl h
    unfold DX9_arrowOf_K42 at h
    refine lv_aload_n hx hb0 dX9_arrowOf_42 rfl (lv_at hl 0 rfl) ?_
    refine lv_iconst (v := gI (1 : Int)) hx hb0 dX9_arrowOf_43 (by decide) ?_
    obtain ⟨q44, e44, h⟩ := gBind_some h
    refine g_callVi (k := 136) (T := TX9) (N := 19) (As := [.int (gI (1 : Int))]) (rest := []) ⟨hx, hb0, hml, hown, hts⟩ (metX9_fails l D G σ42 μ (1 : Int) q44.1 q44.2 e44) (g_cwV (C := RX9) 1 hts q_ml_X9_63 q_im_X9_fails q_se_X9_fails q_in_X9 q_co_X9_fails ⟨rfl, rfl⟩ (by decide +kernel) ⟨Nat.le_of_ble_eq_true rfl, Nat.le_of_ble_eq_true rfl⟩) hX hH (rfl : gKinds[136]? = _) rfl rfl hl.1 rfl (Nat.le_of_ble_eq_true rfl) dX9_arrowOf_44 ⟨Nat.zero_le _, Nat.zero_le _⟩ (fun H locs hH => ?_)
    exact g_iretS hx hb0 hr hH hlocks dX9_arrowOf_47 h
  have hL6 : ∀ (f6 : Nat) (x2_6 : Int) (σ6 : gSt) (H : Heap) (locs : List Loc) (ls : Array Slot), gH D G s H locs σ6 μ → lv_has ls 3 [(2, .int (gI x2_6)), (0, .ref (G.1 136)), (1, .int (gI a1))] → (DX9_arrowOf_L6 (DX9_arrowOf_K42) a1 f6 x2_6 σ6) = some (r, σ') → W p l e (headSpec (gWs yX9_arrowOf cX9_arrowOf 3 (some (Jvm.ClassFile.FieldType.int))) ({ frames := 6, cells := 0, slots := 0, locals := 139 } : Room)).room s m ([.ref (G.1 136), .int (gI a1)] : List Value).toArray below meth c H locs 0 0 (MQ below (gQi D G r σ' μ) ([.ref (G.1 136), .int (gI a1)] : List Value).toArray s 0 0 (gA G)) (F0 m 6 ls []) := by
    intro f6
    induction f6 with
    | zero => intro x2_6 σ6 H locs ls hH hl h; cases h
    | succ f6 ih6 =>
      intro x2_6 σ6 H locs ls hH hl h
      unfold DX9_arrowOf_L6 at h
      refine lv_iload_n hx hb0 dX9_arrowOf_6 rfl (lv_at hl 0 rfl) ?_
      refine lv_aload_n hx hb0 dX9_arrowOf_7 rfl (lv_at hl 1 rfl) ?_
      refine g_getR hx hb0 hts q_ws_X9 hown hX hH (C := RX9) (T := TX9) (N := 19) (k := 136) (i := 0) (j := 137) (rfl : gKinds[136]? = _) rfl (by decide) (hts _ q_fl_X9_7) rfl rfl dX9_arrowOf_8 ?_
      refine lv_bipush (v := gI (77 : Int)) hx hb0 dX9_arrowOf_11 (by decide) ?_
      refine g_iald hx hb0 hX hH (k := 137) (rfl : gKinds[137]? = _) (by decide) dX9_arrowOf_13 h (fun h => ?_)
      refine g_icmp_ge (tgt := 42) hx hb0 dX9_arrowOf_14 (by decide) h (fun h => ?_) (fun h => ?_)
      · exact hK42 _ _ _ _ hH (lv_sub hl [1] rfl) h
      · refine lv_aload_n hx hb0 dX9_arrowOf_17 rfl (lv_at hl 1 rfl) ?_
        refine lv_iload_n hx hb0 dX9_arrowOf_18 rfl (lv_at hl 0 rfl) ?_
        obtain ⟨q19, e19, h⟩ := gBind_some h
        refine g_callVi (k := 136) (T := TX9) (N := 19) (As := [.int (gI x2_6)]) (rest := []) ⟨hx, hb0, hml, hown, hts⟩ (metX9_exitOf l D G σ6 μ x2_6 q19 e19) (g_cwV (C := RX9) 1 hts q_ml_X9_168 q_im_X9_exitOf q_se_X9_exitOf q_in_X9 q_co_X9_exitOf ⟨rfl, rfl⟩ (by decide +kernel) ⟨Nat.le_of_ble_eq_true rfl, Nat.le_of_ble_eq_true rfl⟩) hX hH (rfl : gKinds[136]? = _) rfl rfl hl.1 rfl (Nat.le_of_ble_eq_true rfl) dX9_arrowOf_19 ⟨Nat.zero_le _, Nat.zero_le _⟩ (fun H locs hH => ?_)
        refine lv_iload_n hx hb0 dX9_arrowOf_22 rfl (lv_at hl 2 rfl) ?_
        have hJ36 : ∀ (σ36 : gSt) (H : Heap) (locs : List Loc) (ls : Array Slot), gH D G s H locs σ36 μ → lv_has ls 3 [(2, .int (gI x2_6)), (0, .ref (G.1 136)), (1, .int (gI a1))] → (DX9_arrowOf_J36 (DX9_arrowOf_L6 (DX9_arrowOf_K42) a1 f6) x2_6 σ36) = some (r, σ') → W p l e (headSpec (gWs yX9_arrowOf cX9_arrowOf 3 (some (Jvm.ClassFile.FieldType.int))) ({ frames := 6, cells := 0, slots := 0, locals := 139 } : Room)).room s m ([.ref (G.1 136), .int (gI a1)] : List Value).toArray below meth c H locs 0 0 (MQ below (gQi D G r σ' μ) ([.ref (G.1 136), .int (gI a1)] : List Value).toArray s 0 0 (gA G)) (F0 m 36 ls []) := by
          intro σ36 H locs ls hH hl h
          unfold DX9_arrowOf_J36 at h
          refine g_iinc (k := 0) (n := (1 : Int)) (lv' := [(2, .int (gI (x2_6 + (1 : Int)))), (0, .ref (G.1 136)), (1, .int (gI a1))]) hx hb0 dX9_arrowOf_36 hl rfl (by decide) rfl (fun ls hl => ?_)
          refine lv_goto (tgt := 6) hx hb0 dX9_arrowOf_39 (by decide) ?_
          exact ih6 _ _ _ _ _ hH (lv_sub hl [0, 1, 2] rfl) h
        refine g_icmp_ne (tgt := 36) hx hb0 dX9_arrowOf_23 (by decide) h (fun h => ?_) (fun h => ?_)
        · exact hJ36 _ _ _ _ hH (lv_sub hl [0, 1, 2] rfl) h
        · refine lv_iload_n hx hb0 dX9_arrowOf_26 rfl (lv_at hl 2 rfl) ?_
          refine g_if_le (tgt := 36) hx hb0 dX9_arrowOf_27 (by decide) h (fun h => ?_) (fun h => ?_)
          · exact hJ36 _ _ _ _ hH (lv_sub hl [0, 1, 2] rfl) h
          · refine lv_aload_n hx hb0 dX9_arrowOf_30 rfl (lv_at hl 1 rfl) ?_
            refine lv_iload_n hx hb0 dX9_arrowOf_31 rfl (lv_at hl 0 rfl) ?_
            obtain ⟨q32, e32, h⟩ := gBind_some h
            refine g_callVi (k := 136) (T := TX9) (N := 19) (As := [.int (gI x2_6)]) (rest := []) ⟨hx, hb0, hml, hown, hts⟩ (metX9_tells l D G σ6 μ x2_6 q32.1 q32.2 e32) (g_cwV (C := RX9) 1 hts q_ml_X9_47 q_im_X9_tells q_se_X9_tells q_in_X9 q_co_X9_tells ⟨rfl, rfl⟩ (by decide +kernel) ⟨Nat.le_of_ble_eq_true rfl, Nat.le_of_ble_eq_true rfl⟩) hX hH (rfl : gKinds[136]? = _) rfl rfl hl.1 rfl (Nat.le_of_ble_eq_true rfl) dX9_arrowOf_32 ⟨Nat.zero_le _, Nat.zero_le _⟩ (fun H locs hH => ?_)
            exact g_iretS hx hb0 hr hH hlocks dX9_arrowOf_35 h
  exact hL6 gFuel _ _ _ _ _ hH (lv_sub hl [0, 1, 2] rfl) h
def DX9_taskAt_J50 (q1 : gSt) : Option (Int × gSt) :=
  (DX9_fails q1 (1 : Int)).bind fun q52 => some (q52.1, q52.2)
def DX9_taskAt_J146 (q1 : gSt) (t0_146 : Int) : Option (Int × gSt) :=
  (DX9_tells q1 t0_146).bind fun q146 => some (q146.1, q146.2)
def DX9_taskAt_J132 (a1 : Int) (a2 : Int) (q1 : gSt) (t0_132 : Int) : Option (Int × gSt) :=
  gIf (t0_132 = (0 : Int)) t0_132 (0 : Int) ((DX9_taskAt_J146 q1 (-1 : Int))) ((DX9_taskAt_J146 q1 (q1 141 (Int.toNat (((20 : Int) * ((q1 145 (Int.toNat a1)) / (52 : Int))) + a2)))))
def DX9_taskAt_J131 (a1 : Int) (a2 : Int) (q1 : gSt) : Option (Int × gSt) :=
  (DX9_taskAt_J132 a1 a2 q1 (0 : Int))
def DX9_taskAt (σ : gSt) (a1 : Int) (a2 : Int) (a3 : Int) : Option (Int × gSt) :=
  (DX9_prints σ).bind fun q1 => (DX9_in q1 a1 (0 : Int) ((q1 136 12) - (1 : Int))).bind fun q12 => gIf (q12 = (0 : Int)) q12 (0 : Int) ((DX9_taskAt_J50 q1)) (gAt (0 : Int) 138 ((DX9_in q1 a2 (0 : Int) ((q1 137 (Int.toNat (0 : Int))) - (1 : Int))).bind fun q28 => gIf (q28 = (0 : Int)) q28 (0 : Int) ((DX9_taskAt_J50 q1)) (gAt (1 : Int) 138 ((DX9_in q1 a3 (0 : Int) ((q1 137 (Int.toNat (1 : Int))) - (1 : Int))).bind fun q44 => gIf (q44 = (0 : Int)) q44 (0 : Int) ((DX9_taskAt_J50 q1)) (gAt a1 1248 (gDv (q1 145 (Int.toNat a1)) (52 : Int) (gAt (((20 : Int) * ((q1 145 (Int.toNat a1)) / (52 : Int))) + a2) 480 (gAt a1 1248 (gDv (q1 145 (Int.toNat a1)) (52 : Int) (gAt (1 : Int) 138 ((DX9_isTask q1 (q1 141 (Int.toNat (((20 : Int) * ((q1 145 (Int.toNat a1)) / (52 : Int))) + a2)))).bind fun q100 => gIf (q100 = (0 : Int)) q100 (0 : Int) ((DX9_taskAt_J131 a1 a2 q1)) ((DX9_of q1 (q1 141 (Int.toNat (((20 : Int) * ((q1 145 (Int.toNat a1)) / (52 : Int))) + a2))) (1 : Int)).bind fun q112 => (DX9_lastDay q1 (q1 141 (Int.toNat (((20 : Int) * ((q1 145 (Int.toNat a1)) / (52 : Int))) + a2)))).bind fun q118 => (DX9_in q1 ((((q1 145 (Int.toNat a1)) % (52 : Int)) * (q1 137 (Int.toNat (1 : Int)))) + a3) q112 q118).bind fun q121 => gIf (q121 = (0 : Int)) q121 (0 : Int) ((DX9_taskAt_J131 a1 a2 q1)) ((DX9_taskAt_J132 a1 a2 q1 (1 : Int)))))))))))))))
set_option maxHeartbeats 4000000 in
set_option maxRecDepth 100000 in
theorem metX9_taskAt (l : Launch) (D : va_G) (G : gAd) (σ : gSt) (μ : gLg) (a1 : Int) (a2 : Int) (a3 : Int) (r : Int) (σ' : gSt) (h : DX9_taskAt σ a1 a2 a3 = some (r, σ')) : Met l yX9_taskAt (gWs yX9_taskAt cX9_taskAt 7 (some (Jvm.ClassFile.FieldType.int))) ({ frames := 6, cells := 0, slots := 0, locals := 139 } : Room) (gPc D G [.ref (G.1 136), .int (gI a1), .int (gI a2), .int (gI a3)] σ μ) (gQi D G r σ' μ) 0 0 (gA G) := by
  refine Met.ofW (cc := cX9_taskAt) (maxL := 7) (ret := (some (Jvm.ClassFile.FieldType.int))) (by decide) rfl ?_
  intro p e s m args below meth c s₁ B hml hv
  obtain ⟨rfl, hP, hX⟩ := hv
  have hx := B.exec
  have hb0 := B.bytes
  have hr := B.returns
  have hts0 := atoms_spec (ws := (gWs yX9_taskAt cX9_taskAt 7 (some (Jvm.ClassFile.FieldType.int)))) B.pre
  have hts : ∀ w ∈ gLW, w.before _ s = true := fun w hw => hts0 w (List.mem_cons_of_mem _ hw)
  have hown : s.vm.findClass RX9 = some m.cls := findClass_of_methodNamed B.named
  have hlocks := B.notSynchronized
  have hH : gH D G s s.heap [] σ μ := ⟨hP, va_S.rf⟩
  have hl := lv_entry ([.ref (G.1 136), .int (gI a1), .int (gI a2), .int (gI a3)]) (n := 7) (Nat.le_of_ble_eq_true rfl)
  rw [lg_entry_eq]
  generalize (lg_sl ([.ref (G.1 136), .int (gI a1), .int (gI a2), .int (gI a3)]) ++ List.replicate (7 - (lg_sl ([.ref (G.1 136), .int (gI a1), .int (gI a2), .int (gI a3)])).length) Slot.unset).toArray = ls at hl ⊢
  have hl : lv_has ls 7 [(0, .ref (G.1 136)), (1, .int (gI a1)), (2, .int (gI a2)), (3, .int (gI a3))] := hl
  unfold DX9_taskAt at h
  refine lv_aload_n hx hb0 dX9_taskAt_0 rfl (lv_at hl 0 rfl) ?_
  obtain ⟨q1, e1, h⟩ := gBind_some h
  refine g_callVv (k := 136) (T := TX9) (N := 19) (As := []) (rest := []) ⟨hx, hb0, hml, hown, hts⟩ (metX9_prints l D G σ μ q1 e1) (g_cwV (C := RX9) 0 hts q_ml_X9_155 q_im_X9_prints q_se_X9_prints q_in_X9 q_co_X9_prints ⟨rfl, rfl⟩ (by decide +kernel) ⟨Nat.le_of_ble_eq_true rfl, Nat.le_of_ble_eq_true rfl⟩) hX hH (rfl : gKinds[136]? = _) rfl rfl hl.1 rfl (Nat.le_of_ble_eq_true rfl) dX9_taskAt_1 ⟨Nat.zero_le _, Nat.zero_le _⟩ (fun H locs hH => ?_)
  refine lv_iload_n hx hb0 dX9_taskAt_4 rfl (lv_at hl 1 rfl) ?_
  refine lv_iconst (v := gI (0 : Int)) hx hb0 dX9_taskAt_5 (by decide) ?_
  refine lv_aload_n hx hb0 dX9_taskAt_6 rfl (lv_at hl 0 rfl) ?_
  refine g_getI hx hb0 hts q_ws_X9 hown hX hH (C := RX9) (T := TX9) (N := 19) (k := 136) (i := 12) (rfl : gKinds[136]? = _) rfl (by decide) (hts _ q_fl_X9_130) rfl rfl dX9_taskAt_7 ?_
  refine lv_iconst (v := gI (1 : Int)) hx hb0 dX9_taskAt_10 (by decide) ?_
  refine g_isub hx hb0 dX9_taskAt_11 ?_
  obtain ⟨q12, e12, h⟩ := gBind_some h
  refine g_callSi (As := [.int (gI a1), .int (gI (0 : Int)), .int (gI ((q1 136 12) - (1 : Int)))]) (rest := []) ⟨hx, hb0, hml, hown, hts⟩ (metX9_in l D G q1 μ a1 (0 : Int) ((q1 136 12) - (1 : Int)) q12 e12) (g_cwS 3 hts q_ml_X9_51 q_st_X9_in q_in_X9 q_co_X9_in ⟨rfl, rfl⟩ (by decide +kernel) ⟨Nat.le_of_ble_eq_true rfl, Nat.le_of_ble_eq_true rfl⟩) hX hH rfl hl.1 rfl (Nat.le_of_ble_eq_true rfl) dX9_taskAt_12 ⟨Nat.zero_le _, Nat.zero_le _⟩ (fun H locs hH => ?_)
  have hJ50 : ∀  (H : Heap) (locs : List Loc) (ls : Array Slot), gH D G s H locs q1 μ → lv_has ls 7 [(0, .ref (G.1 136))] → (DX9_taskAt_J50 q1) = some (r, σ') → W p l e (headSpec (gWs yX9_taskAt cX9_taskAt 7 (some (Jvm.ClassFile.FieldType.int))) ({ frames := 6, cells := 0, slots := 0, locals := 139 } : Room)).room s m ([.ref (G.1 136), .int (gI a1), .int (gI a2), .int (gI a3)] : List Value).toArray below meth c H locs 0 0 (MQ below (gQi D G r σ' μ) ([.ref (G.1 136), .int (gI a1), .int (gI a2), .int (gI a3)] : List Value).toArray s 0 0 (gA G)) (F0 m 50 ls []) := by
    intro H locs ls hH hl h
    unfold DX9_taskAt_J50 at h
    refine lv_aload_n hx hb0 dX9_taskAt_50 rfl (lv_at hl 0 rfl) ?_
    refine lv_iconst (v := gI (1 : Int)) hx hb0 dX9_taskAt_51 (by decide) ?_
    obtain ⟨q52, e52, h⟩ := gBind_some h
    refine g_callVi (k := 136) (T := TX9) (N := 19) (As := [.int (gI (1 : Int))]) (rest := []) ⟨hx, hb0, hml, hown, hts⟩ (metX9_fails l D G q1 μ (1 : Int) q52.1 q52.2 e52) (g_cwV (C := RX9) 1 hts q_ml_X9_63 q_im_X9_fails q_se_X9_fails q_in_X9 q_co_X9_fails ⟨rfl, rfl⟩ (by decide +kernel) ⟨Nat.le_of_ble_eq_true rfl, Nat.le_of_ble_eq_true rfl⟩) hX hH (rfl : gKinds[136]? = _) rfl rfl hl.1 rfl (Nat.le_of_ble_eq_true rfl) dX9_taskAt_52 ⟨Nat.zero_le _, Nat.zero_le _⟩ (fun H locs hH => ?_)
    exact g_iretS hx hb0 hr hH hlocks dX9_taskAt_55 h
  refine g_if_eq (tgt := 50) hx hb0 dX9_taskAt_15 (by decide) h (fun h => ?_) (fun h => ?_)
  · exact hJ50  _ _ _ hH (lv_sub hl [0] rfl) h
  · refine lv_iload_n hx hb0 dX9_taskAt_18 rfl (lv_at hl 2 rfl) ?_
    refine lv_iconst (v := gI (0 : Int)) hx hb0 dX9_taskAt_19 (by decide) ?_
    refine lv_aload_n hx hb0 dX9_taskAt_20 rfl (lv_at hl 0 rfl) ?_
    refine g_getR hx hb0 hts q_ws_X9 hown hX hH (C := RX9) (T := TX9) (N := 19) (k := 136) (i := 0) (j := 137) (rfl : gKinds[136]? = _) rfl (by decide) (hts _ q_fl_X9_7) rfl rfl dX9_taskAt_21 ?_
    refine lv_iconst (v := gI (0 : Int)) hx hb0 dX9_taskAt_24 (by decide) ?_
    refine g_iald hx hb0 hX hH (k := 137) (rfl : gKinds[137]? = _) (by decide) dX9_taskAt_25 h (fun h => ?_)
    refine lv_iconst (v := gI (1 : Int)) hx hb0 dX9_taskAt_26 (by decide) ?_
    refine g_isub hx hb0 dX9_taskAt_27 ?_
    obtain ⟨q28, e28, h⟩ := gBind_some h
    refine g_callSi (As := [.int (gI a2), .int (gI (0 : Int)), .int (gI ((q1 137 (Int.toNat (0 : Int))) - (1 : Int)))]) (rest := []) ⟨hx, hb0, hml, hown, hts⟩ (metX9_in l D G q1 μ a2 (0 : Int) ((q1 137 (Int.toNat (0 : Int))) - (1 : Int)) q28 e28) (g_cwS 3 hts q_ml_X9_51 q_st_X9_in q_in_X9 q_co_X9_in ⟨rfl, rfl⟩ (by decide +kernel) ⟨Nat.le_of_ble_eq_true rfl, Nat.le_of_ble_eq_true rfl⟩) hX hH rfl hl.1 rfl (Nat.le_of_ble_eq_true rfl) dX9_taskAt_28 ⟨Nat.zero_le _, Nat.zero_le _⟩ (fun H locs hH => ?_)
    refine g_if_eq (tgt := 50) hx hb0 dX9_taskAt_31 (by decide) h (fun h => ?_) (fun h => ?_)
    · exact hJ50  _ _ _ hH (lv_sub hl [0] rfl) h
    · refine lv_iload_n hx hb0 dX9_taskAt_34 rfl (lv_at hl 3 rfl) ?_
      refine lv_iconst (v := gI (0 : Int)) hx hb0 dX9_taskAt_35 (by decide) ?_
      refine lv_aload_n hx hb0 dX9_taskAt_36 rfl (lv_at hl 0 rfl) ?_
      refine g_getR hx hb0 hts q_ws_X9 hown hX hH (C := RX9) (T := TX9) (N := 19) (k := 136) (i := 0) (j := 137) (rfl : gKinds[136]? = _) rfl (by decide) (hts _ q_fl_X9_7) rfl rfl dX9_taskAt_37 ?_
      refine lv_iconst (v := gI (1 : Int)) hx hb0 dX9_taskAt_40 (by decide) ?_
      refine g_iald hx hb0 hX hH (k := 137) (rfl : gKinds[137]? = _) (by decide) dX9_taskAt_41 h (fun h => ?_)
      refine lv_iconst (v := gI (1 : Int)) hx hb0 dX9_taskAt_42 (by decide) ?_
      refine g_isub hx hb0 dX9_taskAt_43 ?_
      obtain ⟨q44, e44, h⟩ := gBind_some h
      refine g_callSi (As := [.int (gI a3), .int (gI (0 : Int)), .int (gI ((q1 137 (Int.toNat (1 : Int))) - (1 : Int)))]) (rest := []) ⟨hx, hb0, hml, hown, hts⟩ (metX9_in l D G q1 μ a3 (0 : Int) ((q1 137 (Int.toNat (1 : Int))) - (1 : Int)) q44 e44) (g_cwS 3 hts q_ml_X9_51 q_st_X9_in q_in_X9 q_co_X9_in ⟨rfl, rfl⟩ (by decide +kernel) ⟨Nat.le_of_ble_eq_true rfl, Nat.le_of_ble_eq_true rfl⟩) hX hH rfl hl.1 rfl (Nat.le_of_ble_eq_true rfl) dX9_taskAt_44 ⟨Nat.zero_le _, Nat.zero_le _⟩ (fun H locs hH => ?_)
      refine g_if_ne (tgt := 56) hx hb0 dX9_taskAt_47 (by decide) h (fun h => ?_) (fun h => ?_)
      · refine lv_aload_n hx hb0 dX9_taskAt_56 rfl (lv_at hl 0 rfl) ?_
        refine g_getR hx hb0 hts q_ws_X9 hown hX hH (C := RX9) (T := TX9) (N := 19) (k := 136) (i := 9) (j := 141) (rfl : gKinds[136]? = _) rfl (by decide) (hts _ q_fl_X9_22) rfl rfl dX9_taskAt_57 ?_
        refine lv_bipush (v := gI (20 : Int)) hx hb0 dX9_taskAt_60 (by decide) ?_
        refine lv_aload_n hx hb0 dX9_taskAt_62 rfl (lv_at hl 0 rfl) ?_
        refine g_getR hx hb0 hts q_ws_X9 hown hX hH (C := RX9) (T := TX9) (N := 19) (k := 136) (i := 14) (j := 145) (rfl : gKinds[136]? = _) rfl (by decide) (hts _ q_fl_X9_34) rfl rfl dX9_taskAt_63 ?_
        refine lv_iload_n hx hb0 dX9_taskAt_66 rfl (lv_at hl 1 rfl) ?_
        refine g_iald hx hb0 hX hH (k := 145) (rfl : gKinds[145]? = _) (by decide) dX9_taskAt_67 h (fun h => ?_)
        refine lv_bipush (v := gI (52 : Int)) hx hb0 dX9_taskAt_68 (by decide) ?_
        refine g_idiv hx hb0 dX9_taskAt_70 h (fun h => ?_)
        refine g_imul hx hb0 dX9_taskAt_71 ?_
        refine lv_iload_n hx hb0 dX9_taskAt_72 rfl (lv_at hl 2 rfl) ?_
        refine g_iadd hx hb0 dX9_taskAt_73 ?_
        refine g_iald hx hb0 hX hH (k := 141) (rfl : gKinds[141]? = _) (by decide) dX9_taskAt_74 h (fun h => ?_)
        refine lv_istore (lv' := [(4, .int (gI (q1 141 (Int.toNat (((20 : Int) * ((q1 145 (Int.toNat a1)) / (52 : Int))) + a2))))), (0, .ref (G.1 136)), (1, .int (gI a1)), (2, .int (gI a2)), (3, .int (gI a3))]) hx hb0 dX9_taskAt_75 hl (by decide) rfl (fun ls hl => ?_)
        refine lv_aload_n hx hb0 dX9_taskAt_77 rfl (lv_at hl 1 rfl) ?_
        refine g_getR hx hb0 hts q_ws_X9 hown hX hH (C := RX9) (T := TX9) (N := 19) (k := 136) (i := 14) (j := 145) (rfl : gKinds[136]? = _) rfl (by decide) (hts _ q_fl_X9_34) rfl rfl dX9_taskAt_78 ?_
        refine lv_iload_n hx hb0 dX9_taskAt_81 rfl (lv_at hl 2 rfl) ?_
        refine g_iald hx hb0 hX hH (k := 145) (rfl : gKinds[145]? = _) (by decide) dX9_taskAt_82 h (fun h => ?_)
        refine lv_bipush (v := gI (52 : Int)) hx hb0 dX9_taskAt_83 (by decide) ?_
        refine g_irem hx hb0 dX9_taskAt_85 h (fun h => ?_)
        refine lv_aload_n hx hb0 dX9_taskAt_86 rfl (lv_at hl 1 rfl) ?_
        refine g_getR hx hb0 hts q_ws_X9 hown hX hH (C := RX9) (T := TX9) (N := 19) (k := 136) (i := 0) (j := 137) (rfl : gKinds[136]? = _) rfl (by decide) (hts _ q_fl_X9_7) rfl rfl dX9_taskAt_87 ?_
        refine lv_iconst (v := gI (1 : Int)) hx hb0 dX9_taskAt_90 (by decide) ?_
        refine g_iald hx hb0 hX hH (k := 137) (rfl : gKinds[137]? = _) (by decide) dX9_taskAt_91 h (fun h => ?_)
        refine g_imul hx hb0 dX9_taskAt_92 ?_
        refine lv_iload_n hx hb0 dX9_taskAt_93 rfl (lv_at hl 4 rfl) ?_
        refine g_iadd hx hb0 dX9_taskAt_94 ?_
        refine lv_istore (lv' := [(5, .int (gI ((((q1 145 (Int.toNat a1)) % (52 : Int)) * (q1 137 (Int.toNat (1 : Int)))) + a3))), (4, .int (gI (q1 141 (Int.toNat (((20 : Int) * ((q1 145 (Int.toNat a1)) / (52 : Int))) + a2))))), (0, .ref (G.1 136)), (1, .int (gI a1)), (2, .int (gI a2)), (3, .int (gI a3))]) hx hb0 dX9_taskAt_95 hl (by decide) rfl (fun ls hl => ?_)
        refine lv_aload_n hx hb0 dX9_taskAt_97 rfl (lv_at hl 2 rfl) ?_
        refine lv_iload hx hb0 dX9_taskAt_98 (lv_at hl 1 rfl) ?_
        obtain ⟨q100, e100, h⟩ := gBind_some h
        refine g_callVi (k := 136) (T := TX9) (N := 19) (As := [.int (gI (q1 141 (Int.toNat (((20 : Int) * ((q1 145 (Int.toNat a1)) / (52 : Int))) + a2))))]) (rest := []) ⟨hx, hb0, hml, hown, hts⟩ (metX9_isTask l D G q1 μ (q1 141 (Int.toNat (((20 : Int) * ((q1 145 (Int.toNat a1)) / (52 : Int))) + a2))) q100 e100) (g_cwV (C := RX9) 1 hts q_ml_X9_82 q_im_X9_isTask q_se_X9_isTask q_in_X9 q_co_X9_isTask ⟨rfl, rfl⟩ (by decide +kernel) ⟨Nat.le_of_ble_eq_true rfl, Nat.le_of_ble_eq_true rfl⟩) hX hH (rfl : gKinds[136]? = _) rfl rfl hl.1 rfl (Nat.le_of_ble_eq_true rfl) dX9_taskAt_100 ⟨Nat.zero_le _, Nat.zero_le _⟩ (fun H locs hH => ?_)
        have hJ132 : ∀ (t0_132 : Int) (H : Heap) (locs : List Loc) (ls : Array Slot), gH D G s H locs q1 μ → lv_has ls 7 [(4, .int (gI (q1 141 (Int.toNat (((20 : Int) * ((q1 145 (Int.toNat a1)) / (52 : Int))) + a2))))), (0, .ref (G.1 136))] → (DX9_taskAt_J132 a1 a2 q1 t0_132) = some (r, σ') → W p l e (headSpec (gWs yX9_taskAt cX9_taskAt 7 (some (Jvm.ClassFile.FieldType.int))) ({ frames := 6, cells := 0, slots := 0, locals := 139 } : Room)).room s m ([.ref (G.1 136), .int (gI a1), .int (gI a2), .int (gI a3)] : List Value).toArray below meth c H locs 0 0 (MQ below (gQi D G r σ' μ) ([.ref (G.1 136), .int (gI a1), .int (gI a2), .int (gI a3)] : List Value).toArray s 0 0 (gA G)) (F0 m 132 ls [.int (gI t0_132)]) := by
          intro t0_132 H locs ls hH hl h
          unfold DX9_taskAt_J132 at h
          refine lv_istore (lv' := [(6, .int (gI t0_132)), (4, .int (gI (q1 141 (Int.toNat (((20 : Int) * ((q1 145 (Int.toNat a1)) / (52 : Int))) + a2))))), (0, .ref (G.1 136))]) hx hb0 dX9_taskAt_132 hl (by decide) rfl (fun ls hl => ?_)
          refine lv_aload_n hx hb0 dX9_taskAt_134 rfl (lv_at hl 2 rfl) ?_
          refine lv_iload hx hb0 dX9_taskAt_135 (lv_at hl 0 rfl) ?_
          have hJ146 : ∀ (t0_146 : Int) (H : Heap) (locs : List Loc) (ls : Array Slot), gH D G s H locs q1 μ → lv_has ls 7 [] → (DX9_taskAt_J146 q1 t0_146) = some (r, σ') → W p l e (headSpec (gWs yX9_taskAt cX9_taskAt 7 (some (Jvm.ClassFile.FieldType.int))) ({ frames := 6, cells := 0, slots := 0, locals := 139 } : Room)).room s m ([.ref (G.1 136), .int (gI a1), .int (gI a2), .int (gI a3)] : List Value).toArray below meth c H locs 0 0 (MQ below (gQi D G r σ' μ) ([.ref (G.1 136), .int (gI a1), .int (gI a2), .int (gI a3)] : List Value).toArray s 0 0 (gA G)) (F0 m 146 ls [.int (gI t0_146), .ref (G.1 136)]) := by
            intro t0_146 H locs ls hH hl h
            unfold DX9_taskAt_J146 at h
            obtain ⟨q146, e146, h⟩ := gBind_some h
            refine g_callVi (k := 136) (T := TX9) (N := 19) (As := [.int (gI t0_146)]) (rest := []) ⟨hx, hb0, hml, hown, hts⟩ (metX9_tells l D G q1 μ t0_146 q146.1 q146.2 e146) (g_cwV (C := RX9) 1 hts q_ml_X9_47 q_im_X9_tells q_se_X9_tells q_in_X9 q_co_X9_tells ⟨rfl, rfl⟩ (by decide +kernel) ⟨Nat.le_of_ble_eq_true rfl, Nat.le_of_ble_eq_true rfl⟩) hX hH (rfl : gKinds[136]? = _) rfl rfl hl.1 rfl (Nat.le_of_ble_eq_true rfl) dX9_taskAt_146 ⟨Nat.zero_le _, Nat.zero_le _⟩ (fun H locs hH => ?_)
            exact g_iretS hx hb0 hr hH hlocks dX9_taskAt_149 h
          refine g_if_eq (tgt := 145) hx hb0 dX9_taskAt_137 (by decide) h (fun h => ?_) (fun h => ?_)
          · refine lv_iconst (v := gI (-1 : Int)) hx hb0 dX9_taskAt_145 (by decide) ?_
            exact hJ146 _ _ _ _ hH (lv_sub hl [] rfl) h
          · refine lv_iload hx hb0 dX9_taskAt_140 (lv_at hl 1 rfl) ?_
            refine lv_goto (tgt := 146) hx hb0 dX9_taskAt_142 (by decide) ?_
            exact hJ146 _ _ _ _ hH (lv_sub hl [] rfl) h
        have hJ131 : ∀  (H : Heap) (locs : List Loc) (ls : Array Slot), gH D G s H locs q1 μ → lv_has ls 7 [(4, .int (gI (q1 141 (Int.toNat (((20 : Int) * ((q1 145 (Int.toNat a1)) / (52 : Int))) + a2))))), (0, .ref (G.1 136))] → (DX9_taskAt_J131 a1 a2 q1) = some (r, σ') → W p l e (headSpec (gWs yX9_taskAt cX9_taskAt 7 (some (Jvm.ClassFile.FieldType.int))) ({ frames := 6, cells := 0, slots := 0, locals := 139 } : Room)).room s m ([.ref (G.1 136), .int (gI a1), .int (gI a2), .int (gI a3)] : List Value).toArray below meth c H locs 0 0 (MQ below (gQi D G r σ' μ) ([.ref (G.1 136), .int (gI a1), .int (gI a2), .int (gI a3)] : List Value).toArray s 0 0 (gA G)) (F0 m 131 ls []) := by
          intro H locs ls hH hl h
          unfold DX9_taskAt_J131 at h
          refine lv_iconst (v := gI (0 : Int)) hx hb0 dX9_taskAt_131 (by decide) ?_
          exact hJ132 _ _ _ _ hH (lv_sub hl [0, 1] rfl) h
        refine g_if_eq (tgt := 131) hx hb0 dX9_taskAt_103 (by decide) h (fun h => ?_) (fun h => ?_)
        · exact hJ131  _ _ _ hH (lv_sub hl [1, 2] rfl) h
        · refine lv_iload hx hb0 dX9_taskAt_106 (lv_at hl 0 rfl) ?_
          refine lv_aload_n hx hb0 dX9_taskAt_108 rfl (lv_at hl 2 rfl) ?_
          refine lv_iload hx hb0 dX9_taskAt_109 (lv_at hl 1 rfl) ?_
          refine lv_iconst (v := gI (1 : Int)) hx hb0 dX9_taskAt_111 (by decide) ?_
          obtain ⟨q112, e112, h⟩ := gBind_some h
          refine g_callVi (k := 136) (T := TX9) (N := 19) (As := [.int (gI (q1 141 (Int.toNat (((20 : Int) * ((q1 145 (Int.toNat a1)) / (52 : Int))) + a2)))), .int (gI (1 : Int))]) (rest := [.int (gI ((((q1 145 (Int.toNat a1)) % (52 : Int)) * (q1 137 (Int.toNat (1 : Int)))) + a3))]) ⟨hx, hb0, hml, hown, hts⟩ (metX9_of l D G q1 μ (q1 141 (Int.toNat (((20 : Int) * ((q1 145 (Int.toNat a1)) / (52 : Int))) + a2))) (1 : Int) q112 e112) (g_cwV (C := RX9) 2 hts q_ml_X9_55 q_im_X9_of q_se_X9_of q_in_X9 q_co_X9_of ⟨rfl, rfl⟩ (by decide +kernel) ⟨Nat.le_of_ble_eq_true rfl, Nat.le_of_ble_eq_true rfl⟩) hX hH (rfl : gKinds[136]? = _) rfl rfl hl.1 rfl (Nat.le_of_ble_eq_true rfl) dX9_taskAt_112 ⟨Nat.zero_le _, Nat.zero_le _⟩ (fun H locs hH => ?_)
          refine lv_aload_n hx hb0 dX9_taskAt_115 rfl (lv_at hl 2 rfl) ?_
          refine lv_iload hx hb0 dX9_taskAt_116 (lv_at hl 1 rfl) ?_
          obtain ⟨q118, e118, h⟩ := gBind_some h
          refine g_callVi (k := 136) (T := TX9) (N := 19) (As := [.int (gI (q1 141 (Int.toNat (((20 : Int) * ((q1 145 (Int.toNat a1)) / (52 : Int))) + a2))))]) (rest := [.int (gI q112), .int (gI ((((q1 145 (Int.toNat a1)) % (52 : Int)) * (q1 137 (Int.toNat (1 : Int)))) + a3))]) ⟨hx, hb0, hml, hown, hts⟩ (metX9_lastDay l D G q1 μ (q1 141 (Int.toNat (((20 : Int) * ((q1 145 (Int.toNat a1)) / (52 : Int))) + a2))) q118 e118) (g_cwV (C := RX9) 1 hts q_ml_X9_127 q_im_X9_lastDay q_se_X9_lastDay q_in_X9 q_co_X9_lastDay ⟨rfl, rfl⟩ (by decide +kernel) ⟨Nat.le_of_ble_eq_true rfl, Nat.le_of_ble_eq_true rfl⟩) hX hH (rfl : gKinds[136]? = _) rfl rfl hl.1 rfl (Nat.le_of_ble_eq_true rfl) dX9_taskAt_118 ⟨Nat.zero_le _, Nat.zero_le _⟩ (fun H locs hH => ?_)
          obtain ⟨q121, e121, h⟩ := gBind_some h
          refine g_callSi (As := [.int (gI ((((q1 145 (Int.toNat a1)) % (52 : Int)) * (q1 137 (Int.toNat (1 : Int)))) + a3)), .int (gI q112), .int (gI q118)]) (rest := []) ⟨hx, hb0, hml, hown, hts⟩ (metX9_in l D G q1 μ ((((q1 145 (Int.toNat a1)) % (52 : Int)) * (q1 137 (Int.toNat (1 : Int)))) + a3) q112 q118 q121 e121) (g_cwS 3 hts q_ml_X9_51 q_st_X9_in q_in_X9 q_co_X9_in ⟨rfl, rfl⟩ (by decide +kernel) ⟨Nat.le_of_ble_eq_true rfl, Nat.le_of_ble_eq_true rfl⟩) hX hH rfl hl.1 rfl (Nat.le_of_ble_eq_true rfl) dX9_taskAt_121 ⟨Nat.zero_le _, Nat.zero_le _⟩ (fun H locs hH => ?_)
          refine g_if_eq (tgt := 131) hx hb0 dX9_taskAt_124 (by decide) h (fun h => ?_) (fun h => ?_)
          · exact hJ131  _ _ _ hH (lv_sub hl [1, 2] rfl) h
          · refine lv_iconst (v := gI (1 : Int)) hx hb0 dX9_taskAt_127 (by decide) ?_
            refine lv_goto (tgt := 132) hx hb0 dX9_taskAt_128 (by decide) ?_
            exact hJ132 _ _ _ _ hH (lv_sub hl [1, 2] rfl) h
      · exact hJ50  _ _ _ hH (lv_sub hl [0] rfl) h
def DX9_sheetsWith_J16 (σ : gSt) : Option (Int × gSt) :=
  (DX9_fails σ (1 : Int)).bind fun q18 => some (q18.1, q18.2)
def DX9_sheetsWith (σ : gSt) (a1 : Int) (a2 : Int) : Option (Int × gSt) :=
  (DX9_isSetting σ (0 : Int) a1).bind fun q2 => gIf (q2 = (0 : Int)) q2 (0 : Int) ((DX9_sheetsWith_J16 σ)) ((DX9_isSetting σ (1 : Int) a2).bind fun q10 => gIf (q10 = (0 : Int)) q10 (0 : Int) ((DX9_sheetsWith_J16 σ)) ((DX9_printsBy σ a1 a2).bind fun q25 => (DX9_tells q25 (q25 136 12)).bind fun q33 => some (q33.1, q33.2)))
set_option maxHeartbeats 4000000 in
set_option maxRecDepth 100000 in
theorem metX9_sheetsWith (l : Launch) (D : va_G) (G : gAd) (σ : gSt) (μ : gLg) (a1 : Int) (a2 : Int) (r : Int) (σ' : gSt) (h : DX9_sheetsWith σ a1 a2 = some (r, σ')) : Met l yX9_sheetsWith (gWs yX9_sheetsWith cX9_sheetsWith 3 (some (Jvm.ClassFile.FieldType.int))) ({ frames := 5, cells := 0, slots := 0, locals := 119 } : Room) (gPc D G [.ref (G.1 136), .int (gI a1), .int (gI a2)] σ μ) (gQi D G r σ' μ) 0 0 (gA G) := by
  refine Met.ofW (cc := cX9_sheetsWith) (maxL := 3) (ret := (some (Jvm.ClassFile.FieldType.int))) (by decide) rfl ?_
  intro p e s m args below meth c s₁ B hml hv
  obtain ⟨rfl, hP, hX⟩ := hv
  have hx := B.exec
  have hb0 := B.bytes
  have hr := B.returns
  have hts0 := atoms_spec (ws := (gWs yX9_sheetsWith cX9_sheetsWith 3 (some (Jvm.ClassFile.FieldType.int)))) B.pre
  have hts : ∀ w ∈ gLW, w.before _ s = true := fun w hw => hts0 w (List.mem_cons_of_mem _ hw)
  have hown : s.vm.findClass RX9 = some m.cls := findClass_of_methodNamed B.named
  have hlocks := B.notSynchronized
  have hH : gH D G s s.heap [] σ μ := ⟨hP, va_S.rf⟩
  have hl := lv_entry ([.ref (G.1 136), .int (gI a1), .int (gI a2)]) (n := 3) (Nat.le_of_ble_eq_true rfl)
  rw [lg_entry_eq]
  generalize (lg_sl ([.ref (G.1 136), .int (gI a1), .int (gI a2)]) ++ List.replicate (3 - (lg_sl ([.ref (G.1 136), .int (gI a1), .int (gI a2)])).length) Slot.unset).toArray = ls at hl ⊢
  have hl : lv_has ls 3 [(0, .ref (G.1 136)), (1, .int (gI a1)), (2, .int (gI a2))] := hl
  unfold DX9_sheetsWith at h
  refine lv_iconst (v := gI (0 : Int)) hx hb0 dX9_sheetsWith_0 (by decide) ?_
  refine lv_iload_n hx hb0 dX9_sheetsWith_1 rfl (lv_at hl 1 rfl) ?_
  obtain ⟨q2, e2, h⟩ := gBind_some h
  refine g_callSi (As := [.int (gI (0 : Int)), .int (gI a1)]) (rest := []) ⟨hx, hb0, hml, hown, hts⟩ (metX9_isSetting l D G σ μ (0 : Int) a1 q2 e2) (g_cwS 2 hts q_ml_X9_59 q_st_X9_isSetting q_in_X9 q_co_X9_isSetting ⟨rfl, rfl⟩ (by decide +kernel) ⟨Nat.le_of_ble_eq_true rfl, Nat.le_of_ble_eq_true rfl⟩) hX hH rfl hl.1 rfl (Nat.le_of_ble_eq_true rfl) dX9_sheetsWith_2 ⟨Nat.zero_le _, Nat.zero_le _⟩ (fun H locs hH => ?_)
  have hJ16 : ∀  (H : Heap) (locs : List Loc) (ls : Array Slot), gH D G s H locs σ μ → lv_has ls 3 [(0, .ref (G.1 136))] → (DX9_sheetsWith_J16 σ) = some (r, σ') → W p l e (headSpec (gWs yX9_sheetsWith cX9_sheetsWith 3 (some (Jvm.ClassFile.FieldType.int))) ({ frames := 5, cells := 0, slots := 0, locals := 119 } : Room)).room s m ([.ref (G.1 136), .int (gI a1), .int (gI a2)] : List Value).toArray below meth c H locs 0 0 (MQ below (gQi D G r σ' μ) ([.ref (G.1 136), .int (gI a1), .int (gI a2)] : List Value).toArray s 0 0 (gA G)) (F0 m 16 ls []) := by
    intro H locs ls hH hl h
    unfold DX9_sheetsWith_J16 at h
    refine lv_aload_n hx hb0 dX9_sheetsWith_16 rfl (lv_at hl 0 rfl) ?_
    refine lv_iconst (v := gI (1 : Int)) hx hb0 dX9_sheetsWith_17 (by decide) ?_
    obtain ⟨q18, e18, h⟩ := gBind_some h
    refine g_callVi (k := 136) (T := TX9) (N := 19) (As := [.int (gI (1 : Int))]) (rest := []) ⟨hx, hb0, hml, hown, hts⟩ (metX9_fails l D G σ μ (1 : Int) q18.1 q18.2 e18) (g_cwV (C := RX9) 1 hts q_ml_X9_63 q_im_X9_fails q_se_X9_fails q_in_X9 q_co_X9_fails ⟨rfl, rfl⟩ (by decide +kernel) ⟨Nat.le_of_ble_eq_true rfl, Nat.le_of_ble_eq_true rfl⟩) hX hH (rfl : gKinds[136]? = _) rfl rfl hl.1 rfl (Nat.le_of_ble_eq_true rfl) dX9_sheetsWith_18 ⟨Nat.zero_le _, Nat.zero_le _⟩ (fun H locs hH => ?_)
    exact g_iretS hx hb0 hr hH hlocks dX9_sheetsWith_21 h
  refine g_if_eq (tgt := 16) hx hb0 dX9_sheetsWith_5 (by decide) h (fun h => ?_) (fun h => ?_)
  · exact hJ16  _ _ _ hH (lv_sub hl [0] rfl) h
  · refine lv_iconst (v := gI (1 : Int)) hx hb0 dX9_sheetsWith_8 (by decide) ?_
    refine lv_iload_n hx hb0 dX9_sheetsWith_9 rfl (lv_at hl 2 rfl) ?_
    obtain ⟨q10, e10, h⟩ := gBind_some h
    refine g_callSi (As := [.int (gI (1 : Int)), .int (gI a2)]) (rest := []) ⟨hx, hb0, hml, hown, hts⟩ (metX9_isSetting l D G σ μ (1 : Int) a2 q10 e10) (g_cwS 2 hts q_ml_X9_59 q_st_X9_isSetting q_in_X9 q_co_X9_isSetting ⟨rfl, rfl⟩ (by decide +kernel) ⟨Nat.le_of_ble_eq_true rfl, Nat.le_of_ble_eq_true rfl⟩) hX hH rfl hl.1 rfl (Nat.le_of_ble_eq_true rfl) dX9_sheetsWith_10 ⟨Nat.zero_le _, Nat.zero_le _⟩ (fun H locs hH => ?_)
    refine g_if_ne (tgt := 22) hx hb0 dX9_sheetsWith_13 (by decide) h (fun h => ?_) (fun h => ?_)
    · refine lv_aload_n hx hb0 dX9_sheetsWith_22 rfl (lv_at hl 0 rfl) ?_
      refine lv_iload_n hx hb0 dX9_sheetsWith_23 rfl (lv_at hl 1 rfl) ?_
      refine lv_iload_n hx hb0 dX9_sheetsWith_24 rfl (lv_at hl 2 rfl) ?_
      obtain ⟨q25, e25, h⟩ := gBind_some h
      refine g_callVv (k := 136) (T := TX9) (N := 19) (As := [.int (gI a1), .int (gI a2)]) (rest := []) ⟨hx, hb0, hml, hown, hts⟩ (metX9_printsBy l D G σ μ a1 a2 q25 e25) (g_cwV (C := RX9) 2 hts q_ml_X9_133 q_im_X9_printsBy q_se_X9_printsBy q_in_X9 q_co_X9_printsBy ⟨rfl, rfl⟩ (by decide +kernel) ⟨Nat.le_of_ble_eq_true rfl, Nat.le_of_ble_eq_true rfl⟩) hX hH (rfl : gKinds[136]? = _) rfl rfl hl.1 rfl (Nat.le_of_ble_eq_true rfl) dX9_sheetsWith_25 ⟨Nat.zero_le _, Nat.zero_le _⟩ (fun H locs hH => ?_)
      refine lv_aload_n hx hb0 dX9_sheetsWith_28 rfl (lv_at hl 0 rfl) ?_
      refine lv_aload_n hx hb0 dX9_sheetsWith_29 rfl (lv_at hl 0 rfl) ?_
      refine g_getI hx hb0 hts q_ws_X9 hown hX hH (C := RX9) (T := TX9) (N := 19) (k := 136) (i := 12) (rfl : gKinds[136]? = _) rfl (by decide) (hts _ q_fl_X9_130) rfl rfl dX9_sheetsWith_30 ?_
      obtain ⟨q33, e33, h⟩ := gBind_some h
      refine g_callVi (k := 136) (T := TX9) (N := 19) (As := [.int (gI (q25 136 12))]) (rest := []) ⟨hx, hb0, hml, hown, hts⟩ (metX9_tells l D G q25 μ (q25 136 12) q33.1 q33.2 e33) (g_cwV (C := RX9) 1 hts q_ml_X9_47 q_im_X9_tells q_se_X9_tells q_in_X9 q_co_X9_tells ⟨rfl, rfl⟩ (by decide +kernel) ⟨Nat.le_of_ble_eq_true rfl, Nat.le_of_ble_eq_true rfl⟩) hX hH (rfl : gKinds[136]? = _) rfl rfl hl.1 rfl (Nat.le_of_ble_eq_true rfl) dX9_sheetsWith_33 ⟨Nat.zero_le _, Nat.zero_le _⟩ (fun H locs hH => ?_)
      exact g_iretS hx hb0 hr hH hlocks dX9_sheetsWith_36 h
    · exact hJ16  _ _ _ hH (lv_sub hl [0] rfl) h
def DX9_fewestExits_K114  (x1_114 : Int) (σ114 : gSt) : Option (Int × gSt) :=
  (DX9_tells σ114 x1_114).bind fun q116 => some (q116.1, q116.2)
def DX9_fewestExits_J107 (R6 : Int → Int → Int → gSt → Option (Int × gSt)) (x3_6 : Int) (q20 : gSt) (t0_95 : Int) (t0_107 : Int) : Option (Int × gSt) :=
  (R6 (x3_6 + (1 : Int)) t0_107 t0_95 q20)
def DX9_fewestExits_J95 (R6 : Int → Int → Int → gSt → Option (Int × gSt)) (x3_6 : Int) (x2_6 : Int) (q20 : gSt) (x4_67 : Int) (t0_83 : Int) (t0_95 : Int) : Option (Int × gSt) :=
  gIf (t0_83 = (0 : Int)) t0_83 (0 : Int) ((DX9_fewestExits_J107 R6 x3_6 q20 t0_95 x2_6)) ((DX9_fewestExits_J107 R6 x3_6 q20 t0_95 x4_67))
def DX9_fewestExits_J83 (R6 : Int → Int → Int → gSt → Option (Int × gSt)) (x3_6 : Int) (x2_6 : Int) (x1_6 : Int) (q20 : gSt) (x4_67 : Int) (t0_83 : Int) : Option (Int × gSt) :=
  gIf (t0_83 = (0 : Int)) t0_83 (0 : Int) ((DX9_fewestExits_J95 R6 x3_6 x2_6 q20 x4_67 t0_83 x1_6)) ((DX9_fewestExits_J95 R6 x3_6 x2_6 q20 x4_67 t0_83 x3_6))
def DX9_fewestExits_J78 (R6 : Int → Int → Int → gSt → Option (Int × gSt)) (x3_6 : Int) (x2_6 : Int) (x1_6 : Int) (q20 : gSt) (x4_67 : Int) : Option (Int × gSt) :=
  (DX9_fewestExits_J83 R6 x3_6 x2_6 x1_6 q20 x4_67 (1 : Int))
def DX9_fewestExits_K67 (R6 : Int → Int → Int → gSt → Option (Int × gSt)) (x3_6 : Int) (x2_6 : Int) (x1_6 : Int) (q20 : gSt) (x4_67 : Int) : Option (Int × gSt) :=
  gIf (x1_6 = (-1 : Int)) x1_6 (-1 : Int) ((DX9_fewestExits_J78 R6 x3_6 x2_6 x1_6 q20 x4_67)) (gIf (x4_67 < x2_6) x4_67 x2_6 ((DX9_fewestExits_J78 R6 x3_6 x2_6 x1_6 q20 x4_67)) ((DX9_fewestExits_J83 R6 x3_6 x2_6 x1_6 q20 x4_67 (0 : Int))))
def DX9_fewestExits_J58 (R29 : Int → Int → Option (Int × gSt)) (x5_29 : Int) (x4_29 : Int) (t0_58 : Int) : Option (Int × gSt) :=
  (R29 (x5_29 + (1 : Int)) (x4_29 + t0_58))
def DX9_fewestExits_L29 (K67 : Int → Option (Int × gSt)) (x3_6 : Int) (q20 : gSt) : Nat → Int → Int → Option (Int × gSt)
  | 0, _, _ => none
  | f29 + 1, x5_29, x4_29 => gAt (77 : Int) 138 (gIf (x5_29 < (q20 137 (Int.toNat (77 : Int)))) x5_29 (q20 137 (Int.toNat (77 : Int))) ((DX9_isExit q20 x5_29 x3_6).bind fun q47 => gIf (q47 = (0 : Int)) q47 (0 : Int) ((DX9_fewestExits_J58 (DX9_fewestExits_L29 K67 x3_6 q20 f29) x5_29 x4_29 (0 : Int))) ((DX9_fewestExits_J58 (DX9_fewestExits_L29 K67 x3_6 q20 f29) x5_29 x4_29 (1 : Int)))) ((K67 x4_29)))
def DX9_fewestExits_L6 (K114 : Int → gSt → Option (Int × gSt)) : Nat → Int → Int → Int → gSt → Option (Int × gSt)
  | 0, _, _, _, _ => none
  | f6 + 1, x3_6, x2_6, x1_6, σ6 => gIf ((60 : Int) < x3_6) x3_6 (60 : Int) ((K114 x1_6 σ6)) (gAt (0 : Int) 138 ((DX9_printsBy σ6 (σ6 137 (Int.toNat (0 : Int))) x3_6).bind fun q20 => (DX9_fewestExits_L29 (DX9_fewestExits_K67 (DX9_fewestExits_L6 K114 f6) x3_6 x2_6 x1_6 q20) x3_6 q20 gFuel (0 : Int) (0 : Int))))
def DX9_fewestExits (σ : gSt) : Option (Int × gSt) :=
  (DX9_fewestExits_L6 (DX9_fewestExits_K114) gFuel (5 : Int) (0 : Int) (-1 : Int) σ)
set_option maxHeartbeats 4000000 in
set_option maxRecDepth 100000 in
theorem metX9_fewestExits (l : Launch) (D : va_G) (G : gAd) (σ : gSt) (μ : gLg) (r : Int) (σ' : gSt) (h : DX9_fewestExits σ = some (r, σ')) : Met l yX9_fewestExits (gWs yX9_fewestExits cX9_fewestExits 6 (some (Jvm.ClassFile.FieldType.int))) ({ frames := 5, cells := 0, slots := 0, locals := 119 } : Room) (gPc D G [.ref (G.1 136)] σ μ) (gQi D G r σ' μ) 0 0 (gA G) := by
  refine Met.ofW (cc := cX9_fewestExits) (maxL := 6) (ret := (some (Jvm.ClassFile.FieldType.int))) (by decide) rfl ?_
  intro p e s m args below meth c s₁ B hml hv
  obtain ⟨rfl, hP, hX⟩ := hv
  have hx := B.exec
  have hb0 := B.bytes
  have hr := B.returns
  have hts0 := atoms_spec (ws := (gWs yX9_fewestExits cX9_fewestExits 6 (some (Jvm.ClassFile.FieldType.int)))) B.pre
  have hts : ∀ w ∈ gLW, w.before _ s = true := fun w hw => hts0 w (List.mem_cons_of_mem _ hw)
  have hown : s.vm.findClass RX9 = some m.cls := findClass_of_methodNamed B.named
  have hlocks := B.notSynchronized
  have hH : gH D G s s.heap [] σ μ := ⟨hP, va_S.rf⟩
  have hl := lv_entry ([.ref (G.1 136)]) (n := 6) (Nat.le_of_ble_eq_true rfl)
  rw [lg_entry_eq]
  generalize (lg_sl ([.ref (G.1 136)]) ++ List.replicate (6 - (lg_sl ([.ref (G.1 136)])).length) Slot.unset).toArray = ls at hl ⊢
  have hl : lv_has ls 6 [(0, .ref (G.1 136))] := hl
  unfold DX9_fewestExits at h
  refine lv_iconst (v := gI (-1 : Int)) hx hb0 dX9_fewestExits_0 (by decide) ?_
  refine lv_istore_n (lv' := [(1, .int (gI (-1 : Int))), (0, .ref (G.1 136))]) hx hb0 dX9_fewestExits_1 rfl hl (by decide) rfl (fun ls hl => ?_)
  refine lv_iconst (v := gI (0 : Int)) hx hb0 dX9_fewestExits_2 (by decide) ?_
  refine lv_istore_n (lv' := [(2, .int (gI (0 : Int))), (1, .int (gI (-1 : Int))), (0, .ref (G.1 136))]) hx hb0 dX9_fewestExits_3 rfl hl (by decide) rfl (fun ls hl => ?_)
  refine lv_iconst (v := gI (5 : Int)) hx hb0 dX9_fewestExits_4 (by decide) ?_
  refine lv_istore_n (lv' := [(3, .int (gI (5 : Int))), (2, .int (gI (0 : Int))), (1, .int (gI (-1 : Int))), (0, .ref (G.1 136))]) hx hb0 dX9_fewestExits_5 rfl hl (by decide) rfl (fun ls hl => ?_)
  have hK114 : ∀ (x1_114 : Int) (σ114 : gSt) (H : Heap) (locs : List Loc) (ls : Array Slot), gH D G s H locs σ114 μ → lv_has ls 6 [(1, .int (gI x1_114)), (0, .ref (G.1 136))] → (DX9_fewestExits_K114 x1_114 σ114) = some (r, σ') → W p l e (headSpec (gWs yX9_fewestExits cX9_fewestExits 6 (some (Jvm.ClassFile.FieldType.int))) ({ frames := 5, cells := 0, slots := 0, locals := 119 } : Room)).room s m ([.ref (G.1 136)] : List Value).toArray below meth c H locs 0 0 (MQ below (gQi D G r σ' μ) ([.ref (G.1 136)] : List Value).toArray s 0 0 (gA G)) (F0 m 114 ls []) := by
    intro x1_114 σ114 H locs ls hH hl h
    unfold DX9_fewestExits_K114 at h
    refine lv_aload_n hx hb0 dX9_fewestExits_114 rfl (lv_at hl 1 rfl) ?_
    refine lv_iload_n hx hb0 dX9_fewestExits_115 rfl (lv_at hl 0 rfl) ?_
    obtain ⟨q116, e116, h⟩ := gBind_some h
    refine g_callVi (k := 136) (T := TX9) (N := 19) (As := [.int (gI x1_114)]) (rest := []) ⟨hx, hb0, hml, hown, hts⟩ (metX9_tells l D G σ114 μ x1_114 q116.1 q116.2 e116) (g_cwV (C := RX9) 1 hts q_ml_X9_47 q_im_X9_tells q_se_X9_tells q_in_X9 q_co_X9_tells ⟨rfl, rfl⟩ (by decide +kernel) ⟨Nat.le_of_ble_eq_true rfl, Nat.le_of_ble_eq_true rfl⟩) hX hH (rfl : gKinds[136]? = _) rfl rfl hl.1 rfl (Nat.le_of_ble_eq_true rfl) dX9_fewestExits_116 ⟨Nat.zero_le _, Nat.zero_le _⟩ (fun H locs hH => ?_)
    exact g_iretS hx hb0 hr hH hlocks dX9_fewestExits_119 h
  have hL6 : ∀ (f6 : Nat) (x3_6 : Int) (x2_6 : Int) (x1_6 : Int) (σ6 : gSt) (H : Heap) (locs : List Loc) (ls : Array Slot), gH D G s H locs σ6 μ → lv_has ls 6 [(3, .int (gI x3_6)), (2, .int (gI x2_6)), (1, .int (gI x1_6)), (0, .ref (G.1 136))] → (DX9_fewestExits_L6 (DX9_fewestExits_K114) f6 x3_6 x2_6 x1_6 σ6) = some (r, σ') → W p l e (headSpec (gWs yX9_fewestExits cX9_fewestExits 6 (some (Jvm.ClassFile.FieldType.int))) ({ frames := 5, cells := 0, slots := 0, locals := 119 } : Room)).room s m ([.ref (G.1 136)] : List Value).toArray below meth c H locs 0 0 (MQ below (gQi D G r σ' μ) ([.ref (G.1 136)] : List Value).toArray s 0 0 (gA G)) (F0 m 6 ls []) := by
    intro f6
    induction f6 with
    | zero => intro x3_6 x2_6 x1_6 σ6 H locs ls hH hl h; cases h
    | succ f6 ih6 =>
      intro x3_6 x2_6 x1_6 σ6 H locs ls hH hl h
      unfold DX9_fewestExits_L6 at h
      refine lv_iload_n hx hb0 dX9_fewestExits_6 rfl (lv_at hl 0 rfl) ?_
      refine lv_bipush (v := gI (60 : Int)) hx hb0 dX9_fewestExits_7 (by decide) ?_
      refine g_icmp_gt (tgt := 114) hx hb0 dX9_fewestExits_9 (by decide) h (fun h => ?_) (fun h => ?_)
      · exact hK114 _ _ _ _ _ hH (lv_sub hl [2, 3] rfl) h
      · refine lv_aload_n hx hb0 dX9_fewestExits_12 rfl (lv_at hl 3 rfl) ?_
        refine lv_aload_n hx hb0 dX9_fewestExits_13 rfl (lv_at hl 3 rfl) ?_
        refine g_getR hx hb0 hts q_ws_X9 hown hX hH (C := RX9) (T := TX9) (N := 19) (k := 136) (i := 0) (j := 137) (rfl : gKinds[136]? = _) rfl (by decide) (hts _ q_fl_X9_7) rfl rfl dX9_fewestExits_14 ?_
        refine lv_iconst (v := gI (0 : Int)) hx hb0 dX9_fewestExits_17 (by decide) ?_
        refine g_iald hx hb0 hX hH (k := 137) (rfl : gKinds[137]? = _) (by decide) dX9_fewestExits_18 h (fun h => ?_)
        refine lv_iload_n hx hb0 dX9_fewestExits_19 rfl (lv_at hl 0 rfl) ?_
        obtain ⟨q20, e20, h⟩ := gBind_some h
        refine g_callVv (k := 136) (T := TX9) (N := 19) (As := [.int (gI (σ6 137 (Int.toNat (0 : Int)))), .int (gI x3_6)]) (rest := []) ⟨hx, hb0, hml, hown, hts⟩ (metX9_printsBy l D G σ6 μ (σ6 137 (Int.toNat (0 : Int))) x3_6 q20 e20) (g_cwV (C := RX9) 2 hts q_ml_X9_133 q_im_X9_printsBy q_se_X9_printsBy q_in_X9 q_co_X9_printsBy ⟨rfl, rfl⟩ (by decide +kernel) ⟨Nat.le_of_ble_eq_true rfl, Nat.le_of_ble_eq_true rfl⟩) hX hH (rfl : gKinds[136]? = _) rfl rfl hl.1 rfl (Nat.le_of_ble_eq_true rfl) dX9_fewestExits_20 ⟨Nat.zero_le _, Nat.zero_le _⟩ (fun H locs hH => ?_)
        refine lv_iconst (v := gI (0 : Int)) hx hb0 dX9_fewestExits_23 (by decide) ?_
        refine lv_istore (lv' := [(4, .int (gI (0 : Int))), (3, .int (gI x3_6)), (2, .int (gI x2_6)), (1, .int (gI x1_6)), (0, .ref (G.1 136))]) hx hb0 dX9_fewestExits_24 hl (by decide) rfl (fun ls hl => ?_)
        refine lv_iconst (v := gI (0 : Int)) hx hb0 dX9_fewestExits_26 (by decide) ?_
        refine lv_istore (lv' := [(5, .int (gI (0 : Int))), (4, .int (gI (0 : Int))), (3, .int (gI x3_6)), (2, .int (gI x2_6)), (1, .int (gI x1_6)), (0, .ref (G.1 136))]) hx hb0 dX9_fewestExits_27 hl (by decide) rfl (fun ls hl => ?_)
        have hK67 : ∀ (x4_67 : Int) (H : Heap) (locs : List Loc) (ls : Array Slot), gH D G s H locs q20 μ → lv_has ls 6 [(4, .int (gI x4_67)), (3, .int (gI x3_6)), (2, .int (gI x2_6)), (1, .int (gI x1_6)), (0, .ref (G.1 136))] → (DX9_fewestExits_K67 (DX9_fewestExits_L6 (DX9_fewestExits_K114) f6) x3_6 x2_6 x1_6 q20 x4_67) = some (r, σ') → W p l e (headSpec (gWs yX9_fewestExits cX9_fewestExits 6 (some (Jvm.ClassFile.FieldType.int))) ({ frames := 5, cells := 0, slots := 0, locals := 119 } : Room)).room s m ([.ref (G.1 136)] : List Value).toArray below meth c H locs 0 0 (MQ below (gQi D G r σ' μ) ([.ref (G.1 136)] : List Value).toArray s 0 0 (gA G)) (F0 m 67 ls []) := by
          intro x4_67 H locs ls hH hl h
          unfold DX9_fewestExits_K67 at h
          refine lv_iload_n hx hb0 dX9_fewestExits_67 rfl (lv_at hl 3 rfl) ?_
          refine lv_iconst (v := gI (-1 : Int)) hx hb0 dX9_fewestExits_68 (by decide) ?_
          have hJ83 : ∀ (t0_83 : Int) (H : Heap) (locs : List Loc) (ls : Array Slot), gH D G s H locs q20 μ → lv_has ls 6 [(4, .int (gI x4_67)), (3, .int (gI x3_6)), (2, .int (gI x2_6)), (1, .int (gI x1_6)), (0, .ref (G.1 136))] → (DX9_fewestExits_J83 (DX9_fewestExits_L6 (DX9_fewestExits_K114) f6) x3_6 x2_6 x1_6 q20 x4_67 t0_83) = some (r, σ') → W p l e (headSpec (gWs yX9_fewestExits cX9_fewestExits 6 (some (Jvm.ClassFile.FieldType.int))) ({ frames := 5, cells := 0, slots := 0, locals := 119 } : Room)).room s m ([.ref (G.1 136)] : List Value).toArray below meth c H locs 0 0 (MQ below (gQi D G r σ' μ) ([.ref (G.1 136)] : List Value).toArray s 0 0 (gA G)) (F0 m 83 ls [.int (gI t0_83)]) := by
            intro t0_83 H locs ls hH hl h
            unfold DX9_fewestExits_J83 at h
            refine lv_istore (lv' := [(5, .int (gI t0_83)), (4, .int (gI x4_67)), (3, .int (gI x3_6)), (2, .int (gI x2_6)), (1, .int (gI x1_6)), (0, .ref (G.1 136))]) hx hb0 dX9_fewestExits_83 hl (by decide) rfl (fun ls hl => ?_)
            refine lv_iload hx hb0 dX9_fewestExits_85 (lv_at hl 0 rfl) ?_
            have hJ95 : ∀ (t0_95 : Int) (H : Heap) (locs : List Loc) (ls : Array Slot), gH D G s H locs q20 μ → lv_has ls 6 [(5, .int (gI t0_83)), (4, .int (gI x4_67)), (3, .int (gI x3_6)), (2, .int (gI x2_6)), (0, .ref (G.1 136))] → (DX9_fewestExits_J95 (DX9_fewestExits_L6 (DX9_fewestExits_K114) f6) x3_6 x2_6 q20 x4_67 t0_83 t0_95) = some (r, σ') → W p l e (headSpec (gWs yX9_fewestExits cX9_fewestExits 6 (some (Jvm.ClassFile.FieldType.int))) ({ frames := 5, cells := 0, slots := 0, locals := 119 } : Room)).room s m ([.ref (G.1 136)] : List Value).toArray below meth c H locs 0 0 (MQ below (gQi D G r σ' μ) ([.ref (G.1 136)] : List Value).toArray s 0 0 (gA G)) (F0 m 95 ls [.int (gI t0_95)]) := by
              intro t0_95 H locs ls hH hl h
              unfold DX9_fewestExits_J95 at h
              refine lv_istore_n (lv' := [(1, .int (gI t0_95)), (5, .int (gI t0_83)), (4, .int (gI x4_67)), (3, .int (gI x3_6)), (2, .int (gI x2_6)), (0, .ref (G.1 136))]) hx hb0 dX9_fewestExits_95 rfl hl (by decide) rfl (fun ls hl => ?_)
              refine lv_iload hx hb0 dX9_fewestExits_96 (lv_at hl 1 rfl) ?_
              have hJ107 : ∀ (t0_107 : Int) (H : Heap) (locs : List Loc) (ls : Array Slot), gH D G s H locs q20 μ → lv_has ls 6 [(1, .int (gI t0_95)), (3, .int (gI x3_6)), (0, .ref (G.1 136))] → (DX9_fewestExits_J107 (DX9_fewestExits_L6 (DX9_fewestExits_K114) f6) x3_6 q20 t0_95 t0_107) = some (r, σ') → W p l e (headSpec (gWs yX9_fewestExits cX9_fewestExits 6 (some (Jvm.ClassFile.FieldType.int))) ({ frames := 5, cells := 0, slots := 0, locals := 119 } : Room)).room s m ([.ref (G.1 136)] : List Value).toArray below meth c H locs 0 0 (MQ below (gQi D G r σ' μ) ([.ref (G.1 136)] : List Value).toArray s 0 0 (gA G)) (F0 m 107 ls [.int (gI t0_107)]) := by
                intro t0_107 H locs ls hH hl h
                unfold DX9_fewestExits_J107 at h
                refine lv_istore_n (lv' := [(2, .int (gI t0_107)), (1, .int (gI t0_95)), (3, .int (gI x3_6)), (0, .ref (G.1 136))]) hx hb0 dX9_fewestExits_107 rfl hl (by decide) rfl (fun ls hl => ?_)
                refine g_iinc (k := 2) (n := (1 : Int)) (lv' := [(3, .int (gI (x3_6 + (1 : Int)))), (2, .int (gI t0_107)), (1, .int (gI t0_95)), (0, .ref (G.1 136))]) hx hb0 dX9_fewestExits_108 hl rfl (by decide) rfl (fun ls hl => ?_)
                refine lv_goto (tgt := 6) hx hb0 dX9_fewestExits_111 (by decide) ?_
                exact ih6 _ _ _ _ _ _ _ hH (lv_sub hl [0, 1, 2, 3] rfl) h
              refine g_if_eq (tgt := 106) hx hb0 dX9_fewestExits_98 (by decide) h (fun h => ?_) (fun h => ?_)
              · refine lv_iload_n hx hb0 dX9_fewestExits_106 rfl (lv_at hl 4 rfl) ?_
                exact hJ107 _ _ _ _ hH (lv_sub hl [0, 3, 5] rfl) h
              · refine lv_iload hx hb0 dX9_fewestExits_101 (lv_at hl 2 rfl) ?_
                refine lv_goto (tgt := 107) hx hb0 dX9_fewestExits_103 (by decide) ?_
                exact hJ107 _ _ _ _ hH (lv_sub hl [0, 3, 5] rfl) h
            refine g_if_eq (tgt := 94) hx hb0 dX9_fewestExits_87 (by decide) h (fun h => ?_) (fun h => ?_)
            · refine lv_iload_n hx hb0 dX9_fewestExits_94 rfl (lv_at hl 4 rfl) ?_
              exact hJ95 _ _ _ _ hH (lv_sub hl [0, 1, 2, 3, 5] rfl) h
            · refine lv_iload_n hx hb0 dX9_fewestExits_90 rfl (lv_at hl 2 rfl) ?_
              refine lv_goto (tgt := 95) hx hb0 dX9_fewestExits_91 (by decide) ?_
              exact hJ95 _ _ _ _ hH (lv_sub hl [0, 1, 2, 3, 5] rfl) h
          have hJ78 : ∀  (H : Heap) (locs : List Loc) (ls : Array Slot), gH D G s H locs q20 μ → lv_has ls 6 [(4, .int (gI x4_67)), (3, .int (gI x3_6)), (2, .int (gI x2_6)), (1, .int (gI x1_6)), (0, .ref (G.1 136))] → (DX9_fewestExits_J78 (DX9_fewestExits_L6 (DX9_fewestExits_K114) f6) x3_6 x2_6 x1_6 q20 x4_67) = some (r, σ') → W p l e (headSpec (gWs yX9_fewestExits cX9_fewestExits 6 (some (Jvm.ClassFile.FieldType.int))) ({ frames := 5, cells := 0, slots := 0, locals := 119 } : Room)).room s m ([.ref (G.1 136)] : List Value).toArray below meth c H locs 0 0 (MQ below (gQi D G r σ' μ) ([.ref (G.1 136)] : List Value).toArray s 0 0 (gA G)) (F0 m 78 ls []) := by
            intro H locs ls hH hl h
            unfold DX9_fewestExits_J78 at h
            refine lv_iconst (v := gI (1 : Int)) hx hb0 dX9_fewestExits_78 (by decide) ?_
            refine lv_goto (tgt := 83) hx hb0 dX9_fewestExits_79 (by decide) ?_
            exact hJ83 _ _ _ _ hH (lv_sub hl [0, 1, 2, 3, 4] rfl) h
          refine g_icmp_eq (tgt := 78) hx hb0 dX9_fewestExits_69 (by decide) h (fun h => ?_) (fun h => ?_)
          · exact hJ78  _ _ _ hH (lv_sub hl [0, 1, 2, 3, 4] rfl) h
          · refine lv_iload hx hb0 dX9_fewestExits_72 (lv_at hl 0 rfl) ?_
            refine lv_iload_n hx hb0 dX9_fewestExits_74 rfl (lv_at hl 2 rfl) ?_
            refine g_icmp_ge (tgt := 82) hx hb0 dX9_fewestExits_75 (by decide) h (fun h => ?_) (fun h => ?_)
            · refine lv_iconst (v := gI (0 : Int)) hx hb0 dX9_fewestExits_82 (by decide) ?_
              exact hJ83 _ _ _ _ hH (lv_sub hl [0, 1, 2, 3, 4] rfl) h
            · exact hJ78  _ _ _ hH (lv_sub hl [0, 1, 2, 3, 4] rfl) h
        have hL29 : ∀ (f29 : Nat) (x5_29 : Int) (x4_29 : Int) (H : Heap) (locs : List Loc) (ls : Array Slot), gH D G s H locs q20 μ → lv_has ls 6 [(5, .int (gI x5_29)), (4, .int (gI x4_29)), (3, .int (gI x3_6)), (2, .int (gI x2_6)), (1, .int (gI x1_6)), (0, .ref (G.1 136))] → (DX9_fewestExits_L29 (DX9_fewestExits_K67 (DX9_fewestExits_L6 (DX9_fewestExits_K114) f6) x3_6 x2_6 x1_6 q20) x3_6 q20 f29 x5_29 x4_29) = some (r, σ') → W p l e (headSpec (gWs yX9_fewestExits cX9_fewestExits 6 (some (Jvm.ClassFile.FieldType.int))) ({ frames := 5, cells := 0, slots := 0, locals := 119 } : Room)).room s m ([.ref (G.1 136)] : List Value).toArray below meth c H locs 0 0 (MQ below (gQi D G r σ' μ) ([.ref (G.1 136)] : List Value).toArray s 0 0 (gA G)) (F0 m 29 ls []) := by
          intro f29
          induction f29 with
          | zero => intro x5_29 x4_29 H locs ls hH hl h; cases h
          | succ f29 ih29 =>
            intro x5_29 x4_29 H locs ls hH hl h
            unfold DX9_fewestExits_L29 at h
            refine lv_iload hx hb0 dX9_fewestExits_29 (lv_at hl 0 rfl) ?_
            refine lv_aload_n hx hb0 dX9_fewestExits_31 rfl (lv_at hl 5 rfl) ?_
            refine g_getR hx hb0 hts q_ws_X9 hown hX hH (C := RX9) (T := TX9) (N := 19) (k := 136) (i := 0) (j := 137) (rfl : gKinds[136]? = _) rfl (by decide) (hts _ q_fl_X9_7) rfl rfl dX9_fewestExits_32 ?_
            refine lv_bipush (v := gI (77 : Int)) hx hb0 dX9_fewestExits_35 (by decide) ?_
            refine g_iald hx hb0 hX hH (k := 137) (rfl : gKinds[137]? = _) (by decide) dX9_fewestExits_37 h (fun h => ?_)
            refine g_icmp_ge (tgt := 67) hx hb0 dX9_fewestExits_38 (by decide) h (fun h => ?_) (fun h => ?_)
            · exact hK67 _ _ _ _ hH (lv_sub hl [1, 2, 3, 4, 5] rfl) h
            · refine lv_iload hx hb0 dX9_fewestExits_41 (lv_at hl 1 rfl) ?_
              refine lv_aload_n hx hb0 dX9_fewestExits_43 rfl (lv_at hl 5 rfl) ?_
              refine lv_iload hx hb0 dX9_fewestExits_44 (lv_at hl 0 rfl) ?_
              refine lv_iload_n hx hb0 dX9_fewestExits_46 rfl (lv_at hl 2 rfl) ?_
              obtain ⟨q47, e47, h⟩ := gBind_some h
              refine g_callVi (k := 136) (T := TX9) (N := 19) (As := [.int (gI x5_29), .int (gI x3_6)]) (rest := [.int (gI x4_29)]) ⟨hx, hb0, hml, hown, hts⟩ (metX9_isExit l D G q20 μ x5_29 x3_6 q47 e47) (g_cwV (C := RX9) 2 hts q_ml_X9_146 q_im_X9_isExit q_se_X9_isExit q_in_X9 q_co_X9_isExit ⟨rfl, rfl⟩ (by decide +kernel) ⟨Nat.le_of_ble_eq_true rfl, Nat.le_of_ble_eq_true rfl⟩) hX hH (rfl : gKinds[136]? = _) rfl rfl hl.1 rfl (Nat.le_of_ble_eq_true rfl) dX9_fewestExits_47 ⟨Nat.zero_le _, Nat.zero_le _⟩ (fun H locs hH => ?_)
              have hJ58 : ∀ (t0_58 : Int) (H : Heap) (locs : List Loc) (ls : Array Slot), gH D G s H locs q20 μ → lv_has ls 6 [(5, .int (gI x5_29)), (3, .int (gI x3_6)), (2, .int (gI x2_6)), (1, .int (gI x1_6)), (0, .ref (G.1 136))] → (DX9_fewestExits_J58 (DX9_fewestExits_L29 (DX9_fewestExits_K67 (DX9_fewestExits_L6 (DX9_fewestExits_K114) f6) x3_6 x2_6 x1_6 q20) x3_6 q20 f29) x5_29 x4_29 t0_58) = some (r, σ') → W p l e (headSpec (gWs yX9_fewestExits cX9_fewestExits 6 (some (Jvm.ClassFile.FieldType.int))) ({ frames := 5, cells := 0, slots := 0, locals := 119 } : Room)).room s m ([.ref (G.1 136)] : List Value).toArray below meth c H locs 0 0 (MQ below (gQi D G r σ' μ) ([.ref (G.1 136)] : List Value).toArray s 0 0 (gA G)) (F0 m 58 ls [.int (gI t0_58), .int (gI x4_29)]) := by
                intro t0_58 H locs ls hH hl h
                unfold DX9_fewestExits_J58 at h
                refine g_iadd hx hb0 dX9_fewestExits_58 ?_
                refine lv_istore (lv' := [(4, .int (gI (x4_29 + t0_58))), (5, .int (gI x5_29)), (3, .int (gI x3_6)), (2, .int (gI x2_6)), (1, .int (gI x1_6)), (0, .ref (G.1 136))]) hx hb0 dX9_fewestExits_59 hl (by decide) rfl (fun ls hl => ?_)
                refine g_iinc (k := 1) (n := (1 : Int)) (lv' := [(5, .int (gI (x5_29 + (1 : Int)))), (4, .int (gI (x4_29 + t0_58))), (3, .int (gI x3_6)), (2, .int (gI x2_6)), (1, .int (gI x1_6)), (0, .ref (G.1 136))]) hx hb0 dX9_fewestExits_61 hl rfl (by decide) rfl (fun ls hl => ?_)
                refine lv_goto (tgt := 29) hx hb0 dX9_fewestExits_64 (by decide) ?_
                exact ih29 _ _ _ _ _ hH (lv_sub hl [0, 1, 2, 3, 4, 5] rfl) h
              refine g_if_eq (tgt := 57) hx hb0 dX9_fewestExits_50 (by decide) h (fun h => ?_) (fun h => ?_)
              · refine lv_iconst (v := gI (0 : Int)) hx hb0 dX9_fewestExits_57 (by decide) ?_
                exact hJ58 _ _ _ _ hH (lv_sub hl [0, 2, 3, 4, 5] rfl) h
              · refine lv_iconst (v := gI (1 : Int)) hx hb0 dX9_fewestExits_53 (by decide) ?_
                refine lv_goto (tgt := 58) hx hb0 dX9_fewestExits_54 (by decide) ?_
                exact hJ58 _ _ _ _ hH (lv_sub hl [0, 2, 3, 4, 5] rfl) h
        exact hL29 gFuel _ _ _ _ _ hH (lv_sub hl [0, 1, 2, 3, 4, 5] rfl) h
  exact hL6 gFuel _ _ _ _ _ _ _ hH (lv_sub hl [0, 1, 2, 3] rfl) h
def DX9_delay_K79 (σ : gSt) (x2_79 : Int) : Option (Int × gSt) :=
  (DX9_tells σ x2_79).bind fun q81 => some (q81.1, q81.2)
def DX9_delay_J72 (R18 : Int → Int → Option (Int × gSt)) (x3_18 : Int) (t0_72 : Int) : Option (Int × gSt) :=
  (R18 (x3_18 + (1 : Int)) t0_72)
def DX9_delay_J71 (R18 : Int → Int → Option (Int × gSt)) (x3_18 : Int) (x2_18 : Int) : Option (Int × gSt) :=
  (DX9_delay_J72 R18 x3_18 x2_18)
def DX9_delay_L18 (K79 : Int → Option (Int × gSt)) (σ : gSt) (a1 : Int) : Nat → Int → Int → Option (Int × gSt)
  | 0, _, _ => none
  | f18 + 1, x3_18, x2_18 => gAt (77 : Int) 138 (gIf (x3_18 < (σ 137 (Int.toNat (77 : Int)))) x3_18 (σ 137 (Int.toNat (77 : Int))) ((DX9_end σ x3_18 (0 : Int)).bind fun q33 => (DX9_lastDay σ q33).bind fun q36 => (DX9_of σ a1 (1 : Int)).bind fun q44 => (DX9_end σ x3_18 (1 : Int)).bind fun q53 => gIf (q53 = a1) q53 a1 (gIf (x2_18 < ((q36 + (1 : Int)) - q44)) ((q36 + (1 : Int)) - q44) x2_18 ((DX9_delay_J72 (DX9_delay_L18 K79 σ a1 f18) x3_18 ((q36 + (1 : Int)) - q44))) ((DX9_delay_J71 (DX9_delay_L18 K79 σ a1 f18) x3_18 x2_18))) ((DX9_delay_J71 (DX9_delay_L18 K79 σ a1 f18) x3_18 x2_18))) ((K79 x2_18)))
def DX9_delay (σ : gSt) (a1 : Int) : Option (Int × gSt) :=
  (DX9_isTask σ a1).bind fun q2 => gIf (q2 = (0 : Int)) q2 (0 : Int) ((DX9_fails σ (1 : Int)).bind fun q10 => some (q10.1, q10.2)) ((DX9_delay_L18 (DX9_delay_K79 σ) σ a1 gFuel (0 : Int) (0 : Int)))
set_option maxHeartbeats 4000000 in
set_option maxRecDepth 100000 in
theorem metX9_delay (l : Launch) (D : va_G) (G : gAd) (σ : gSt) (μ : gLg) (a1 : Int) (r : Int) (σ' : gSt) (h : DX9_delay σ a1 = some (r, σ')) : Met l yX9_delay (gWs yX9_delay cX9_delay 5 (some (Jvm.ClassFile.FieldType.int))) ({ frames := 2, cells := 0, slots := 0, locals := 43 } : Room) (gPc D G [.ref (G.1 136), .int (gI a1)] σ μ) (gQi D G r σ' μ) 0 0 (gA G) := by
  refine Met.ofW (cc := cX9_delay) (maxL := 5) (ret := (some (Jvm.ClassFile.FieldType.int))) (by decide) rfl ?_
  intro p e s m args below meth c s₁ B hml hv
  obtain ⟨rfl, hP, hX⟩ := hv
  have hx := B.exec
  have hb0 := B.bytes
  have hr := B.returns
  have hts0 := atoms_spec (ws := (gWs yX9_delay cX9_delay 5 (some (Jvm.ClassFile.FieldType.int)))) B.pre
  have hts : ∀ w ∈ gLW, w.before _ s = true := fun w hw => hts0 w (List.mem_cons_of_mem _ hw)
  have hown : s.vm.findClass RX9 = some m.cls := findClass_of_methodNamed B.named
  have hlocks := B.notSynchronized
  have hH : gH D G s s.heap [] σ μ := ⟨hP, va_S.rf⟩
  have hl := lv_entry ([.ref (G.1 136), .int (gI a1)]) (n := 5) (Nat.le_of_ble_eq_true rfl)
  rw [lg_entry_eq]
  generalize (lg_sl ([.ref (G.1 136), .int (gI a1)]) ++ List.replicate (5 - (lg_sl ([.ref (G.1 136), .int (gI a1)])).length) Slot.unset).toArray = ls at hl ⊢
  have hl : lv_has ls 5 [(0, .ref (G.1 136)), (1, .int (gI a1))] := hl
  unfold DX9_delay at h
  refine lv_aload_n hx hb0 dX9_delay_0 rfl (lv_at hl 0 rfl) ?_
  refine lv_iload_n hx hb0 dX9_delay_1 rfl (lv_at hl 1 rfl) ?_
  obtain ⟨q2, e2, h⟩ := gBind_some h
  refine g_callVi (k := 136) (T := TX9) (N := 19) (As := [.int (gI a1)]) (rest := []) ⟨hx, hb0, hml, hown, hts⟩ (metX9_isTask l D G σ μ a1 q2 e2) (g_cwV (C := RX9) 1 hts q_ml_X9_82 q_im_X9_isTask q_se_X9_isTask q_in_X9 q_co_X9_isTask ⟨rfl, rfl⟩ (by decide +kernel) ⟨Nat.le_of_ble_eq_true rfl, Nat.le_of_ble_eq_true rfl⟩) hX hH (rfl : gKinds[136]? = _) rfl rfl hl.1 rfl (Nat.le_of_ble_eq_true rfl) dX9_delay_2 ⟨Nat.zero_le _, Nat.zero_le _⟩ (fun H locs hH => ?_)
  refine g_if_ne (tgt := 14) hx hb0 dX9_delay_5 (by decide) h (fun h => ?_) (fun h => ?_)
  · refine lv_iconst (v := gI (0 : Int)) hx hb0 dX9_delay_14 (by decide) ?_
    refine lv_istore_n (lv' := [(2, .int (gI (0 : Int))), (0, .ref (G.1 136)), (1, .int (gI a1))]) hx hb0 dX9_delay_15 rfl hl (by decide) rfl (fun ls hl => ?_)
    refine lv_iconst (v := gI (0 : Int)) hx hb0 dX9_delay_16 (by decide) ?_
    refine lv_istore_n (lv' := [(3, .int (gI (0 : Int))), (2, .int (gI (0 : Int))), (0, .ref (G.1 136)), (1, .int (gI a1))]) hx hb0 dX9_delay_17 rfl hl (by decide) rfl (fun ls hl => ?_)
    have hK79 : ∀ (x2_79 : Int) (H : Heap) (locs : List Loc) (ls : Array Slot), gH D G s H locs σ μ → lv_has ls 5 [(2, .int (gI x2_79)), (0, .ref (G.1 136))] → (DX9_delay_K79 σ x2_79) = some (r, σ') → W p l e (headSpec (gWs yX9_delay cX9_delay 5 (some (Jvm.ClassFile.FieldType.int))) ({ frames := 2, cells := 0, slots := 0, locals := 43 } : Room)).room s m ([.ref (G.1 136), .int (gI a1)] : List Value).toArray below meth c H locs 0 0 (MQ below (gQi D G r σ' μ) ([.ref (G.1 136), .int (gI a1)] : List Value).toArray s 0 0 (gA G)) (F0 m 79 ls []) := by
      intro x2_79 H locs ls hH hl h
      unfold DX9_delay_K79 at h
      refine lv_aload_n hx hb0 dX9_delay_79 rfl (lv_at hl 1 rfl) ?_
      refine lv_iload_n hx hb0 dX9_delay_80 rfl (lv_at hl 0 rfl) ?_
      obtain ⟨q81, e81, h⟩ := gBind_some h
      refine g_callVi (k := 136) (T := TX9) (N := 19) (As := [.int (gI x2_79)]) (rest := []) ⟨hx, hb0, hml, hown, hts⟩ (metX9_tells l D G σ μ x2_79 q81.1 q81.2 e81) (g_cwV (C := RX9) 1 hts q_ml_X9_47 q_im_X9_tells q_se_X9_tells q_in_X9 q_co_X9_tells ⟨rfl, rfl⟩ (by decide +kernel) ⟨Nat.le_of_ble_eq_true rfl, Nat.le_of_ble_eq_true rfl⟩) hX hH (rfl : gKinds[136]? = _) rfl rfl hl.1 rfl (Nat.le_of_ble_eq_true rfl) dX9_delay_81 ⟨Nat.zero_le _, Nat.zero_le _⟩ (fun H locs hH => ?_)
      exact g_iretS hx hb0 hr hH hlocks dX9_delay_84 h
    have hL18 : ∀ (f18 : Nat) (x3_18 : Int) (x2_18 : Int) (H : Heap) (locs : List Loc) (ls : Array Slot), gH D G s H locs σ μ → lv_has ls 5 [(3, .int (gI x3_18)), (2, .int (gI x2_18)), (0, .ref (G.1 136)), (1, .int (gI a1))] → (DX9_delay_L18 (DX9_delay_K79 σ) σ a1 f18 x3_18 x2_18) = some (r, σ') → W p l e (headSpec (gWs yX9_delay cX9_delay 5 (some (Jvm.ClassFile.FieldType.int))) ({ frames := 2, cells := 0, slots := 0, locals := 43 } : Room)).room s m ([.ref (G.1 136), .int (gI a1)] : List Value).toArray below meth c H locs 0 0 (MQ below (gQi D G r σ' μ) ([.ref (G.1 136), .int (gI a1)] : List Value).toArray s 0 0 (gA G)) (F0 m 18 ls []) := by
      intro f18
      induction f18 with
      | zero => intro x3_18 x2_18 H locs ls hH hl h; cases h
      | succ f18 ih18 =>
        intro x3_18 x2_18 H locs ls hH hl h
        unfold DX9_delay_L18 at h
        refine lv_iload_n hx hb0 dX9_delay_18 rfl (lv_at hl 0 rfl) ?_
        refine lv_aload_n hx hb0 dX9_delay_19 rfl (lv_at hl 2 rfl) ?_
        refine g_getR hx hb0 hts q_ws_X9 hown hX hH (C := RX9) (T := TX9) (N := 19) (k := 136) (i := 0) (j := 137) (rfl : gKinds[136]? = _) rfl (by decide) (hts _ q_fl_X9_7) rfl rfl dX9_delay_20 ?_
        refine lv_bipush (v := gI (77 : Int)) hx hb0 dX9_delay_23 (by decide) ?_
        refine g_iald hx hb0 hX hH (k := 137) (rfl : gKinds[137]? = _) (by decide) dX9_delay_25 h (fun h => ?_)
        refine g_icmp_ge (tgt := 79) hx hb0 dX9_delay_26 (by decide) h (fun h => ?_) (fun h => ?_)
        · exact hK79 _ _ _ _ hH (lv_sub hl [1, 2] rfl) h
        · refine lv_aload_n hx hb0 dX9_delay_29 rfl (lv_at hl 2 rfl) ?_
          refine lv_aload_n hx hb0 dX9_delay_30 rfl (lv_at hl 2 rfl) ?_
          refine lv_iload_n hx hb0 dX9_delay_31 rfl (lv_at hl 0 rfl) ?_
          refine lv_iconst (v := gI (0 : Int)) hx hb0 dX9_delay_32 (by decide) ?_
          obtain ⟨q33, e33, h⟩ := gBind_some h
          refine g_callVi (k := 136) (T := TX9) (N := 19) (As := [.int (gI x3_18), .int (gI (0 : Int))]) (rest := [.ref (G.1 136)]) ⟨hx, hb0, hml, hown, hts⟩ (metX9_end l D G σ μ x3_18 (0 : Int) q33 e33) (g_cwV (C := RX9) 2 hts q_ml_X9_86 q_im_X9_end q_se_X9_end q_in_X9 q_co_X9_end ⟨rfl, rfl⟩ (by decide +kernel) ⟨Nat.le_of_ble_eq_true rfl, Nat.le_of_ble_eq_true rfl⟩) hX hH (rfl : gKinds[136]? = _) rfl rfl hl.1 rfl (Nat.le_of_ble_eq_true rfl) dX9_delay_33 ⟨Nat.zero_le _, Nat.zero_le _⟩ (fun H locs hH => ?_)
          obtain ⟨q36, e36, h⟩ := gBind_some h
          refine g_callVi (k := 136) (T := TX9) (N := 19) (As := [.int (gI q33)]) (rest := []) ⟨hx, hb0, hml, hown, hts⟩ (metX9_lastDay l D G σ μ q33 q36 e36) (g_cwV (C := RX9) 1 hts q_ml_X9_127 q_im_X9_lastDay q_se_X9_lastDay q_in_X9 q_co_X9_lastDay ⟨rfl, rfl⟩ (by decide +kernel) ⟨Nat.le_of_ble_eq_true rfl, Nat.le_of_ble_eq_true rfl⟩) hX hH (rfl : gKinds[136]? = _) rfl rfl hl.1 rfl (Nat.le_of_ble_eq_true rfl) dX9_delay_36 ⟨Nat.zero_le _, Nat.zero_le _⟩ (fun H locs hH => ?_)
          refine lv_iconst (v := gI (1 : Int)) hx hb0 dX9_delay_39 (by decide) ?_
          refine g_iadd hx hb0 dX9_delay_40 ?_
          refine lv_aload_n hx hb0 dX9_delay_41 rfl (lv_at hl 2 rfl) ?_
          refine lv_iload_n hx hb0 dX9_delay_42 rfl (lv_at hl 3 rfl) ?_
          refine lv_iconst (v := gI (1 : Int)) hx hb0 dX9_delay_43 (by decide) ?_
          obtain ⟨q44, e44, h⟩ := gBind_some h
          refine g_callVi (k := 136) (T := TX9) (N := 19) (As := [.int (gI a1), .int (gI (1 : Int))]) (rest := [.int (gI (q36 + (1 : Int)))]) ⟨hx, hb0, hml, hown, hts⟩ (metX9_of l D G σ μ a1 (1 : Int) q44 e44) (g_cwV (C := RX9) 2 hts q_ml_X9_55 q_im_X9_of q_se_X9_of q_in_X9 q_co_X9_of ⟨rfl, rfl⟩ (by decide +kernel) ⟨Nat.le_of_ble_eq_true rfl, Nat.le_of_ble_eq_true rfl⟩) hX hH (rfl : gKinds[136]? = _) rfl rfl hl.1 rfl (Nat.le_of_ble_eq_true rfl) dX9_delay_44 ⟨Nat.zero_le _, Nat.zero_le _⟩ (fun H locs hH => ?_)
          refine g_isub hx hb0 dX9_delay_47 ?_
          refine lv_istore (lv' := [(4, .int (gI ((q36 + (1 : Int)) - q44))), (3, .int (gI x3_18)), (2, .int (gI x2_18)), (0, .ref (G.1 136)), (1, .int (gI a1))]) hx hb0 dX9_delay_48 hl (by decide) rfl (fun ls hl => ?_)
          refine lv_aload_n hx hb0 dX9_delay_50 rfl (lv_at hl 3 rfl) ?_
          refine lv_iload_n hx hb0 dX9_delay_51 rfl (lv_at hl 1 rfl) ?_
          refine lv_iconst (v := gI (1 : Int)) hx hb0 dX9_delay_52 (by decide) ?_
          obtain ⟨q53, e53, h⟩ := gBind_some h
          refine g_callVi (k := 136) (T := TX9) (N := 19) (As := [.int (gI x3_18), .int (gI (1 : Int))]) (rest := []) ⟨hx, hb0, hml, hown, hts⟩ (metX9_end l D G σ μ x3_18 (1 : Int) q53 e53) (g_cwV (C := RX9) 2 hts q_ml_X9_86 q_im_X9_end q_se_X9_end q_in_X9 q_co_X9_end ⟨rfl, rfl⟩ (by decide +kernel) ⟨Nat.le_of_ble_eq_true rfl, Nat.le_of_ble_eq_true rfl⟩) hX hH (rfl : gKinds[136]? = _) rfl rfl hl.1 rfl (Nat.le_of_ble_eq_true rfl) dX9_delay_53 ⟨Nat.zero_le _, Nat.zero_le _⟩ (fun H locs hH => ?_)
          refine lv_iload_n hx hb0 dX9_delay_56 rfl (lv_at hl 4 rfl) ?_
          have hJ72 : ∀ (t0_72 : Int) (H : Heap) (locs : List Loc) (ls : Array Slot), gH D G s H locs σ μ → lv_has ls 5 [(3, .int (gI x3_18)), (0, .ref (G.1 136)), (1, .int (gI a1))] → (DX9_delay_J72 (DX9_delay_L18 (DX9_delay_K79 σ) σ a1 f18) x3_18 t0_72) = some (r, σ') → W p l e (headSpec (gWs yX9_delay cX9_delay 5 (some (Jvm.ClassFile.FieldType.int))) ({ frames := 2, cells := 0, slots := 0, locals := 43 } : Room)).room s m ([.ref (G.1 136), .int (gI a1)] : List Value).toArray below meth c H locs 0 0 (MQ below (gQi D G r σ' μ) ([.ref (G.1 136), .int (gI a1)] : List Value).toArray s 0 0 (gA G)) (F0 m 72 ls [.int (gI t0_72)]) := by
            intro t0_72 H locs ls hH hl h
            unfold DX9_delay_J72 at h
            refine lv_istore_n (lv' := [(2, .int (gI t0_72)), (3, .int (gI x3_18)), (0, .ref (G.1 136)), (1, .int (gI a1))]) hx hb0 dX9_delay_72 rfl hl (by decide) rfl (fun ls hl => ?_)
            refine g_iinc (k := 1) (n := (1 : Int)) (lv' := [(3, .int (gI (x3_18 + (1 : Int)))), (2, .int (gI t0_72)), (0, .ref (G.1 136)), (1, .int (gI a1))]) hx hb0 dX9_delay_73 hl rfl (by decide) rfl (fun ls hl => ?_)
            refine lv_goto (tgt := 18) hx hb0 dX9_delay_76 (by decide) ?_
            exact ih18 _ _ _ _ _ hH (lv_sub hl [0, 1, 2, 3] rfl) h
          have hJ71 : ∀  (H : Heap) (locs : List Loc) (ls : Array Slot), gH D G s H locs σ μ → lv_has ls 5 [(3, .int (gI x3_18)), (2, .int (gI x2_18)), (0, .ref (G.1 136)), (1, .int (gI a1))] → (DX9_delay_J71 (DX9_delay_L18 (DX9_delay_K79 σ) σ a1 f18) x3_18 x2_18) = some (r, σ') → W p l e (headSpec (gWs yX9_delay cX9_delay 5 (some (Jvm.ClassFile.FieldType.int))) ({ frames := 2, cells := 0, slots := 0, locals := 43 } : Room)).room s m ([.ref (G.1 136), .int (gI a1)] : List Value).toArray below meth c H locs 0 0 (MQ below (gQi D G r σ' μ) ([.ref (G.1 136), .int (gI a1)] : List Value).toArray s 0 0 (gA G)) (F0 m 71 ls []) := by
            intro H locs ls hH hl h
            unfold DX9_delay_J71 at h
            refine lv_iload_n hx hb0 dX9_delay_71 rfl (lv_at hl 1 rfl) ?_
            exact hJ72 _ _ _ _ hH (lv_sub hl [0, 2, 3] rfl) h
          refine g_icmp_ne (tgt := 71) hx hb0 dX9_delay_57 (by decide) h (fun h => ?_) (fun h => ?_)
          · exact hJ71  _ _ _ hH (lv_sub hl [1, 2, 3, 4] rfl) h
          · refine lv_iload hx hb0 dX9_delay_60 (lv_at hl 0 rfl) ?_
            refine lv_iload_n hx hb0 dX9_delay_62 rfl (lv_at hl 2 rfl) ?_
            refine g_icmp_le (tgt := 71) hx hb0 dX9_delay_63 (by decide) h (fun h => ?_) (fun h => ?_)
            · exact hJ71  _ _ _ hH (lv_sub hl [1, 2, 3, 4] rfl) h
            · refine lv_iload hx hb0 dX9_delay_66 (lv_at hl 0 rfl) ?_
              refine lv_goto (tgt := 72) hx hb0 dX9_delay_68 (by decide) ?_
              exact hJ72 _ _ _ _ hH (lv_sub hl [1, 3, 4] rfl) h
    exact hL18 gFuel _ _ _ _ _ hH (lv_sub hl [0, 1, 2, 3] rfl) h
  · refine lv_aload_n hx hb0 dX9_delay_8 rfl (lv_at hl 0 rfl) ?_
    refine lv_iconst (v := gI (1 : Int)) hx hb0 dX9_delay_9 (by decide) ?_
    obtain ⟨q10, e10, h⟩ := gBind_some h
    refine g_callVi (k := 136) (T := TX9) (N := 19) (As := [.int (gI (1 : Int))]) (rest := []) ⟨hx, hb0, hml, hown, hts⟩ (metX9_fails l D G σ μ (1 : Int) q10.1 q10.2 e10) (g_cwV (C := RX9) 1 hts q_ml_X9_63 q_im_X9_fails q_se_X9_fails q_in_X9 q_co_X9_fails ⟨rfl, rfl⟩ (by decide +kernel) ⟨Nat.le_of_ble_eq_true rfl, Nat.le_of_ble_eq_true rfl⟩) hX hH (rfl : gKinds[136]? = _) rfl rfl hl.1 rfl (Nat.le_of_ble_eq_true rfl) dX9_delay_10 ⟨Nat.zero_le _, Nat.zero_le _⟩ (fun H locs hH => ?_)
    exact g_iretS hx hb0 hr hH hlocks dX9_delay_13 h
def DX9_longest_K148 (R31 : Int → Int → gSt → Option (Int × gSt)) (x2_148 : Int) (x1_148 : Int) (σ148 : gSt) : Option (Int × gSt) :=
  (R31 x2_148 x1_148 σ148)
def DX9_longest_J142 (R39 : Int → Int → Int → gSt → Option (Int × gSt)) (x3_39 : Int) (x2_142 : Int) (x1_142 : Int) (σ142 : gSt) : Option (Int × gSt) :=
  (R39 (x3_39 + (1 : Int)) x2_142 x1_142 σ142)
def DX9_longest_J139 (R39 : Int → Int → Int → gSt → Option (Int × gSt)) (x3_39 : Int) (σ39 : gSt) (q92 : Int) (q102 : Int) (t0_139 : Int) : Option (Int × gSt) :=
  (DX9_longest_J142 R39 x3_39 (1 : Int) t0_139 (gUp σ39 146 (Int.toNat q92) ((σ39 146 (Int.toNat q102)) + (1 : Int))))
def DX9_longest_L39 (K148 : Int → Int → gSt → Option (Int × gSt)) : Nat → Int → Int → Int → gSt → Option (Int × gSt)
  | 0, _, _, _, _ => none
  | f39 + 1, x3_39, x2_39, x1_39, σ39 => gAt (77 : Int) 138 (gIf (x3_39 < (σ39 137 (Int.toNat (77 : Int)))) x3_39 (σ39 137 (Int.toNat (77 : Int))) ((DX9_isLate σ39 x3_39).bind fun q52 => gIf (q52 = (0 : Int)) q52 (0 : Int) ((DX9_end σ39 x3_39 (1 : Int)).bind fun q65 => gAt q65 24 ((DX9_end σ39 x3_39 (0 : Int)).bind fun q76 => gAt q76 24 (gIf ((σ39 146 (Int.toNat q65)) < ((σ39 146 (Int.toNat q76)) + (1 : Int))) (σ39 146 (Int.toNat q65)) ((σ39 146 (Int.toNat q76)) + (1 : Int)) ((DX9_end σ39 x3_39 (1 : Int)).bind fun q92 => (DX9_end σ39 x3_39 (0 : Int)).bind fun q102 => gAt q102 24 (gAt q92 24 ((DX9_end (gUp σ39 146 (Int.toNat q92) ((σ39 146 (Int.toNat q102)) + (1 : Int))) x3_39 (1 : Int)).bind fun q116 => gAt q116 24 (gIf (x1_39 < ((gUp σ39 146 (Int.toNat q92) ((σ39 146 (Int.toNat q102)) + (1 : Int))) 146 (Int.toNat q116))) ((gUp σ39 146 (Int.toNat q92) ((σ39 146 (Int.toNat q102)) + (1 : Int))) 146 (Int.toNat q116)) x1_39 ((DX9_end (gUp σ39 146 (Int.toNat q92) ((σ39 146 (Int.toNat q102)) + (1 : Int))) x3_39 (1 : Int)).bind fun q131 => gAt q131 24 ((DX9_longest_J139 (DX9_longest_L39 K148 f39) x3_39 σ39 q92 q102 ((gUp σ39 146 (Int.toNat q92) ((σ39 146 (Int.toNat q102)) + (1 : Int))) 146 (Int.toNat q131))))) ((DX9_longest_J139 (DX9_longest_L39 K148 f39) x3_39 σ39 q92 q102 x1_39)))))) ((DX9_longest_J142 (DX9_longest_L39 K148 f39) x3_39 x2_39 x1_39 σ39))))) ((DX9_longest_J142 (DX9_longest_L39 K148 f39) x3_39 x2_39 x1_39 σ39))) ((K148 x2_39 x1_39 σ39)))
def DX9_longest_L31 : Nat → Int → Int → gSt → Option (Int × gSt)
  | 0, _, _, _ => none
  | f31 + 1, x2_31, x1_31, σ31 => gIf (x2_31 = (0 : Int)) x2_31 (0 : Int) (some (x1_31, σ31)) ((DX9_longest_L39 (DX9_longest_K148 (DX9_longest_L31 f31)) gFuel (0 : Int) (0 : Int) x1_31 σ31))
def DX9_longest_K29  (x1_29 : Int) (σ29 : gSt) : Option (Int × gSt) :=
  (DX9_longest_L31 gFuel (1 : Int) x1_29 σ29)
def DX9_longest_L4 (K29 : Int → gSt → Option (Int × gSt)) : Nat → Int → Int → gSt → Option (Int × gSt)
  | 0, _, _, _ => none
  | f4 + 1, x2_4, x1_4, σ4 => gAt (4 : Int) 138 (gIf (x2_4 < (σ4 137 (Int.toNat (4 : Int)))) x2_4 (σ4 137 (Int.toNat (4 : Int))) (gAt x2_4 24 (((DX9_longest_L4 K29 f4) (x2_4 + (1 : Int)) (1 : Int) (gUp σ4 146 (Int.toNat x2_4) (1 : Int))))) ((K29 x1_4 σ4)))
def DX9_longest (σ : gSt) : Option (Int × gSt) :=
  (DX9_longest_L4 (DX9_longest_K29) gFuel (0 : Int) (0 : Int) σ)
set_option maxHeartbeats 4000000 in
set_option maxRecDepth 100000 in
theorem metX9_longest (l : Launch) (D : va_G) (G : gAd) (σ : gSt) (μ : gLg) (r : Int) (σ' : gSt) (h : DX9_longest σ = some (r, σ')) : Met l yX9_longest (gWs yX9_longest cX9_longest 4 (some (Jvm.ClassFile.FieldType.int))) ({ frames := 3, cells := 0, slots := 0, locals := 64 } : Room) (gPc D G [.ref (G.1 136)] σ μ) (gQi D G r σ' μ) 0 0 (gA G) := by
  refine Met.ofW (cc := cX9_longest) (maxL := 4) (ret := (some (Jvm.ClassFile.FieldType.int))) (by decide) rfl ?_
  intro p e s m args below meth c s₁ B hml hv
  obtain ⟨rfl, hP, hX⟩ := hv
  have hx := B.exec
  have hb0 := B.bytes
  have hr := B.returns
  have hts0 := atoms_spec (ws := (gWs yX9_longest cX9_longest 4 (some (Jvm.ClassFile.FieldType.int)))) B.pre
  have hts : ∀ w ∈ gLW, w.before _ s = true := fun w hw => hts0 w (List.mem_cons_of_mem _ hw)
  have hown : s.vm.findClass RX9 = some m.cls := findClass_of_methodNamed B.named
  have hlocks := B.notSynchronized
  have hH : gH D G s s.heap [] σ μ := ⟨hP, va_S.rf⟩
  have hl := lv_entry ([.ref (G.1 136)]) (n := 4) (Nat.le_of_ble_eq_true rfl)
  rw [lg_entry_eq]
  generalize (lg_sl ([.ref (G.1 136)]) ++ List.replicate (4 - (lg_sl ([.ref (G.1 136)])).length) Slot.unset).toArray = ls at hl ⊢
  have hl : lv_has ls 4 [(0, .ref (G.1 136))] := hl
  unfold DX9_longest at h
  refine lv_iconst (v := gI (0 : Int)) hx hb0 dX9_longest_0 (by decide) ?_
  refine lv_istore_n (lv' := [(1, .int (gI (0 : Int))), (0, .ref (G.1 136))]) hx hb0 dX9_longest_1 rfl hl (by decide) rfl (fun ls hl => ?_)
  refine lv_iconst (v := gI (0 : Int)) hx hb0 dX9_longest_2 (by decide) ?_
  refine lv_istore_n (lv' := [(2, .int (gI (0 : Int))), (1, .int (gI (0 : Int))), (0, .ref (G.1 136))]) hx hb0 dX9_longest_3 rfl hl (by decide) rfl (fun ls hl => ?_)
  have hK29 : ∀ (x1_29 : Int) (σ29 : gSt) (H : Heap) (locs : List Loc) (ls : Array Slot), gH D G s H locs σ29 μ → lv_has ls 4 [(1, .int (gI x1_29)), (0, .ref (G.1 136))] → (DX9_longest_K29 x1_29 σ29) = some (r, σ') → W p l e (headSpec (gWs yX9_longest cX9_longest 4 (some (Jvm.ClassFile.FieldType.int))) ({ frames := 3, cells := 0, slots := 0, locals := 64 } : Room)).room s m ([.ref (G.1 136)] : List Value).toArray below meth c H locs 0 0 (MQ below (gQi D G r σ' μ) ([.ref (G.1 136)] : List Value).toArray s 0 0 (gA G)) (F0 m 29 ls []) := by
    intro x1_29 σ29 H locs ls hH hl h
    unfold DX9_longest_K29 at h
    refine lv_iconst (v := gI (1 : Int)) hx hb0 dX9_longest_29 (by decide) ?_
    refine lv_istore_n (lv' := [(2, .int (gI (1 : Int))), (1, .int (gI x1_29)), (0, .ref (G.1 136))]) hx hb0 dX9_longest_30 rfl hl (by decide) rfl (fun ls hl => ?_)
    have hL31 : ∀ (f31 : Nat) (x2_31 : Int) (x1_31 : Int) (σ31 : gSt) (H : Heap) (locs : List Loc) (ls : Array Slot), gH D G s H locs σ31 μ → lv_has ls 4 [(2, .int (gI x2_31)), (1, .int (gI x1_31)), (0, .ref (G.1 136))] → (DX9_longest_L31 f31 x2_31 x1_31 σ31) = some (r, σ') → W p l e (headSpec (gWs yX9_longest cX9_longest 4 (some (Jvm.ClassFile.FieldType.int))) ({ frames := 3, cells := 0, slots := 0, locals := 64 } : Room)).room s m ([.ref (G.1 136)] : List Value).toArray below meth c H locs 0 0 (MQ below (gQi D G r σ' μ) ([.ref (G.1 136)] : List Value).toArray s 0 0 (gA G)) (F0 m 31 ls []) := by
      intro f31
      induction f31 with
      | zero => intro x2_31 x1_31 σ31 H locs ls hH hl h; cases h
      | succ f31 ih31 =>
        intro x2_31 x1_31 σ31 H locs ls hH hl h
        unfold DX9_longest_L31 at h
        refine lv_iload_n hx hb0 dX9_longest_31 rfl (lv_at hl 0 rfl) ?_
        refine g_if_eq (tgt := 151) hx hb0 dX9_longest_32 (by decide) h (fun h => ?_) (fun h => ?_)
        · refine lv_iload_n hx hb0 dX9_longest_151 rfl (lv_at hl 1 rfl) ?_
          exact g_iretS hx hb0 hr hH hlocks dX9_longest_152 h
        · refine lv_iconst (v := gI (0 : Int)) hx hb0 dX9_longest_35 (by decide) ?_
          refine lv_istore_n (lv' := [(2, .int (gI (0 : Int))), (1, .int (gI x1_31)), (0, .ref (G.1 136))]) hx hb0 dX9_longest_36 rfl hl (by decide) rfl (fun ls hl => ?_)
          refine lv_iconst (v := gI (0 : Int)) hx hb0 dX9_longest_37 (by decide) ?_
          refine lv_istore_n (lv' := [(3, .int (gI (0 : Int))), (2, .int (gI (0 : Int))), (1, .int (gI x1_31)), (0, .ref (G.1 136))]) hx hb0 dX9_longest_38 rfl hl (by decide) rfl (fun ls hl => ?_)
          have hK148 : ∀ (x2_148 : Int) (x1_148 : Int) (σ148 : gSt) (H : Heap) (locs : List Loc) (ls : Array Slot), gH D G s H locs σ148 μ → lv_has ls 4 [(2, .int (gI x2_148)), (1, .int (gI x1_148)), (0, .ref (G.1 136))] → (DX9_longest_K148 (DX9_longest_L31 f31) x2_148 x1_148 σ148) = some (r, σ') → W p l e (headSpec (gWs yX9_longest cX9_longest 4 (some (Jvm.ClassFile.FieldType.int))) ({ frames := 3, cells := 0, slots := 0, locals := 64 } : Room)).room s m ([.ref (G.1 136)] : List Value).toArray below meth c H locs 0 0 (MQ below (gQi D G r σ' μ) ([.ref (G.1 136)] : List Value).toArray s 0 0 (gA G)) (F0 m 148 ls []) := by
            intro x2_148 x1_148 σ148 H locs ls hH hl h
            unfold DX9_longest_K148 at h
            refine lv_goto (tgt := 31) hx hb0 dX9_longest_148 (by decide) ?_
            exact ih31 _ _ _ _ _ _ hH (lv_sub hl [0, 1, 2] rfl) h
          have hL39 : ∀ (f39 : Nat) (x3_39 : Int) (x2_39 : Int) (x1_39 : Int) (σ39 : gSt) (H : Heap) (locs : List Loc) (ls : Array Slot), gH D G s H locs σ39 μ → lv_has ls 4 [(3, .int (gI x3_39)), (2, .int (gI x2_39)), (1, .int (gI x1_39)), (0, .ref (G.1 136))] → (DX9_longest_L39 (DX9_longest_K148 (DX9_longest_L31 f31)) f39 x3_39 x2_39 x1_39 σ39) = some (r, σ') → W p l e (headSpec (gWs yX9_longest cX9_longest 4 (some (Jvm.ClassFile.FieldType.int))) ({ frames := 3, cells := 0, slots := 0, locals := 64 } : Room)).room s m ([.ref (G.1 136)] : List Value).toArray below meth c H locs 0 0 (MQ below (gQi D G r σ' μ) ([.ref (G.1 136)] : List Value).toArray s 0 0 (gA G)) (F0 m 39 ls []) := by
            intro f39
            induction f39 with
            | zero => intro x3_39 x2_39 x1_39 σ39 H locs ls hH hl h; cases h
            | succ f39 ih39 =>
              intro x3_39 x2_39 x1_39 σ39 H locs ls hH hl h
              unfold DX9_longest_L39 at h
              refine lv_iload_n hx hb0 dX9_longest_39 rfl (lv_at hl 0 rfl) ?_
              refine lv_aload_n hx hb0 dX9_longest_40 rfl (lv_at hl 3 rfl) ?_
              refine g_getR hx hb0 hts q_ws_X9 hown hX hH (C := RX9) (T := TX9) (N := 19) (k := 136) (i := 0) (j := 137) (rfl : gKinds[136]? = _) rfl (by decide) (hts _ q_fl_X9_7) rfl rfl dX9_longest_41 ?_
              refine lv_bipush (v := gI (77 : Int)) hx hb0 dX9_longest_44 (by decide) ?_
              refine g_iald hx hb0 hX hH (k := 137) (rfl : gKinds[137]? = _) (by decide) dX9_longest_46 h (fun h => ?_)
              refine g_icmp_ge (tgt := 148) hx hb0 dX9_longest_47 (by decide) h (fun h => ?_) (fun h => ?_)
              · exact hK148 _ _ _ _ _ _ hH (lv_sub hl [1, 2, 3] rfl) h
              · refine lv_aload_n hx hb0 dX9_longest_50 rfl (lv_at hl 3 rfl) ?_
                refine lv_iload_n hx hb0 dX9_longest_51 rfl (lv_at hl 0 rfl) ?_
                obtain ⟨q52, e52, h⟩ := gBind_some h
                refine g_callVi (k := 136) (T := TX9) (N := 19) (As := [.int (gI x3_39)]) (rest := []) ⟨hx, hb0, hml, hown, hts⟩ (metX9_isLate l D G σ39 μ x3_39 q52 e52) (g_cwV (C := RX9) 1 hts q_ml_X9_171 q_im_X9_isLate q_se_X9_isLate q_in_X9 q_co_X9_isLate ⟨rfl, rfl⟩ (by decide +kernel) ⟨Nat.le_of_ble_eq_true rfl, Nat.le_of_ble_eq_true rfl⟩) hX hH (rfl : gKinds[136]? = _) rfl rfl hl.1 rfl (Nat.le_of_ble_eq_true rfl) dX9_longest_52 ⟨Nat.zero_le _, Nat.zero_le _⟩ (fun H locs hH => ?_)
                have hJ142 : ∀ (x2_142 : Int) (x1_142 : Int) (σ142 : gSt) (H : Heap) (locs : List Loc) (ls : Array Slot), gH D G s H locs σ142 μ → lv_has ls 4 [(3, .int (gI x3_39)), (2, .int (gI x2_142)), (1, .int (gI x1_142)), (0, .ref (G.1 136))] → (DX9_longest_J142 (DX9_longest_L39 (DX9_longest_K148 (DX9_longest_L31 f31)) f39) x3_39 x2_142 x1_142 σ142) = some (r, σ') → W p l e (headSpec (gWs yX9_longest cX9_longest 4 (some (Jvm.ClassFile.FieldType.int))) ({ frames := 3, cells := 0, slots := 0, locals := 64 } : Room)).room s m ([.ref (G.1 136)] : List Value).toArray below meth c H locs 0 0 (MQ below (gQi D G r σ' μ) ([.ref (G.1 136)] : List Value).toArray s 0 0 (gA G)) (F0 m 142 ls []) := by
                  intro x2_142 x1_142 σ142 H locs ls hH hl h
                  unfold DX9_longest_J142 at h
                  refine g_iinc (k := 0) (n := (1 : Int)) (lv' := [(3, .int (gI (x3_39 + (1 : Int)))), (2, .int (gI x2_142)), (1, .int (gI x1_142)), (0, .ref (G.1 136))]) hx hb0 dX9_longest_142 hl rfl (by decide) rfl (fun ls hl => ?_)
                  refine lv_goto (tgt := 39) hx hb0 dX9_longest_145 (by decide) ?_
                  exact ih39 _ _ _ _ _ _ _ hH (lv_sub hl [0, 1, 2, 3] rfl) h
                refine g_if_ne (tgt := 142) hx hb0 dX9_longest_55 (by decide) h (fun h => ?_) (fun h => ?_)
                · exact hJ142 _ _ _ _ _ _ hH (lv_sub hl [0, 1, 2, 3] rfl) h
                · refine lv_aload_n hx hb0 dX9_longest_58 rfl (lv_at hl 3 rfl) ?_
                  refine g_getR hx hb0 hts q_ws_X9 hown hX hH (C := RX9) (T := TX9) (N := 19) (k := 136) (i := 15) (j := 146) (rfl : gKinds[136]? = _) rfl (by decide) (hts _ q_fl_X9_37) rfl rfl dX9_longest_59 ?_
                  refine lv_aload_n hx hb0 dX9_longest_62 rfl (lv_at hl 3 rfl) ?_
                  refine lv_iload_n hx hb0 dX9_longest_63 rfl (lv_at hl 0 rfl) ?_
                  refine lv_iconst (v := gI (1 : Int)) hx hb0 dX9_longest_64 (by decide) ?_
                  obtain ⟨q65, e65, h⟩ := gBind_some h
                  refine g_callVi (k := 136) (T := TX9) (N := 19) (As := [.int (gI x3_39), .int (gI (1 : Int))]) (rest := [.ref (G.1 146)]) ⟨hx, hb0, hml, hown, hts⟩ (metX9_end l D G σ39 μ x3_39 (1 : Int) q65 e65) (g_cwV (C := RX9) 2 hts q_ml_X9_86 q_im_X9_end q_se_X9_end q_in_X9 q_co_X9_end ⟨rfl, rfl⟩ (by decide +kernel) ⟨Nat.le_of_ble_eq_true rfl, Nat.le_of_ble_eq_true rfl⟩) hX hH (rfl : gKinds[136]? = _) rfl rfl hl.1 rfl (Nat.le_of_ble_eq_true rfl) dX9_longest_65 ⟨Nat.zero_le _, Nat.zero_le _⟩ (fun H locs hH => ?_)
                  refine g_iald hx hb0 hX hH (k := 146) (rfl : gKinds[146]? = _) (by decide) dX9_longest_68 h (fun h => ?_)
                  refine lv_aload_n hx hb0 dX9_longest_69 rfl (lv_at hl 3 rfl) ?_
                  refine g_getR hx hb0 hts q_ws_X9 hown hX hH (C := RX9) (T := TX9) (N := 19) (k := 136) (i := 15) (j := 146) (rfl : gKinds[136]? = _) rfl (by decide) (hts _ q_fl_X9_37) rfl rfl dX9_longest_70 ?_
                  refine lv_aload_n hx hb0 dX9_longest_73 rfl (lv_at hl 3 rfl) ?_
                  refine lv_iload_n hx hb0 dX9_longest_74 rfl (lv_at hl 0 rfl) ?_
                  refine lv_iconst (v := gI (0 : Int)) hx hb0 dX9_longest_75 (by decide) ?_
                  obtain ⟨q76, e76, h⟩ := gBind_some h
                  refine g_callVi (k := 136) (T := TX9) (N := 19) (As := [.int (gI x3_39), .int (gI (0 : Int))]) (rest := [.ref (G.1 146), .int (gI (σ39 146 (Int.toNat q65)))]) ⟨hx, hb0, hml, hown, hts⟩ (metX9_end l D G σ39 μ x3_39 (0 : Int) q76 e76) (g_cwV (C := RX9) 2 hts q_ml_X9_86 q_im_X9_end q_se_X9_end q_in_X9 q_co_X9_end ⟨rfl, rfl⟩ (by decide +kernel) ⟨Nat.le_of_ble_eq_true rfl, Nat.le_of_ble_eq_true rfl⟩) hX hH (rfl : gKinds[136]? = _) rfl rfl hl.1 rfl (Nat.le_of_ble_eq_true rfl) dX9_longest_76 ⟨Nat.zero_le _, Nat.zero_le _⟩ (fun H locs hH => ?_)
                  refine g_iald hx hb0 hX hH (k := 146) (rfl : gKinds[146]? = _) (by decide) dX9_longest_79 h (fun h => ?_)
                  refine lv_iconst (v := gI (1 : Int)) hx hb0 dX9_longest_80 (by decide) ?_
                  refine g_iadd hx hb0 dX9_longest_81 ?_
                  refine g_icmp_ge (tgt := 142) hx hb0 dX9_longest_82 (by decide) h (fun h => ?_) (fun h => ?_)
                  · exact hJ142 _ _ _ _ _ _ hH (lv_sub hl [0, 1, 2, 3] rfl) h
                  · refine lv_aload_n hx hb0 dX9_longest_85 rfl (lv_at hl 3 rfl) ?_
                    refine g_getR hx hb0 hts q_ws_X9 hown hX hH (C := RX9) (T := TX9) (N := 19) (k := 136) (i := 15) (j := 146) (rfl : gKinds[136]? = _) rfl (by decide) (hts _ q_fl_X9_37) rfl rfl dX9_longest_86 ?_
                    refine lv_aload_n hx hb0 dX9_longest_89 rfl (lv_at hl 3 rfl) ?_
                    refine lv_iload_n hx hb0 dX9_longest_90 rfl (lv_at hl 0 rfl) ?_
                    refine lv_iconst (v := gI (1 : Int)) hx hb0 dX9_longest_91 (by decide) ?_
                    obtain ⟨q92, e92, h⟩ := gBind_some h
                    refine g_callVi (k := 136) (T := TX9) (N := 19) (As := [.int (gI x3_39), .int (gI (1 : Int))]) (rest := [.ref (G.1 146)]) ⟨hx, hb0, hml, hown, hts⟩ (metX9_end l D G σ39 μ x3_39 (1 : Int) q92 e92) (g_cwV (C := RX9) 2 hts q_ml_X9_86 q_im_X9_end q_se_X9_end q_in_X9 q_co_X9_end ⟨rfl, rfl⟩ (by decide +kernel) ⟨Nat.le_of_ble_eq_true rfl, Nat.le_of_ble_eq_true rfl⟩) hX hH (rfl : gKinds[136]? = _) rfl rfl hl.1 rfl (Nat.le_of_ble_eq_true rfl) dX9_longest_92 ⟨Nat.zero_le _, Nat.zero_le _⟩ (fun H locs hH => ?_)
                    refine lv_aload_n hx hb0 dX9_longest_95 rfl (lv_at hl 3 rfl) ?_
                    refine g_getR hx hb0 hts q_ws_X9 hown hX hH (C := RX9) (T := TX9) (N := 19) (k := 136) (i := 15) (j := 146) (rfl : gKinds[136]? = _) rfl (by decide) (hts _ q_fl_X9_37) rfl rfl dX9_longest_96 ?_
                    refine lv_aload_n hx hb0 dX9_longest_99 rfl (lv_at hl 3 rfl) ?_
                    refine lv_iload_n hx hb0 dX9_longest_100 rfl (lv_at hl 0 rfl) ?_
                    refine lv_iconst (v := gI (0 : Int)) hx hb0 dX9_longest_101 (by decide) ?_
                    obtain ⟨q102, e102, h⟩ := gBind_some h
                    refine g_callVi (k := 136) (T := TX9) (N := 19) (As := [.int (gI x3_39), .int (gI (0 : Int))]) (rest := [.ref (G.1 146), .int (gI q92), .ref (G.1 146)]) ⟨hx, hb0, hml, hown, hts⟩ (metX9_end l D G σ39 μ x3_39 (0 : Int) q102 e102) (g_cwV (C := RX9) 2 hts q_ml_X9_86 q_im_X9_end q_se_X9_end q_in_X9 q_co_X9_end ⟨rfl, rfl⟩ (by decide +kernel) ⟨Nat.le_of_ble_eq_true rfl, Nat.le_of_ble_eq_true rfl⟩) hX hH (rfl : gKinds[136]? = _) rfl rfl hl.1 rfl (Nat.le_of_ble_eq_true rfl) dX9_longest_102 ⟨Nat.zero_le _, Nat.zero_le _⟩ (fun H locs hH => ?_)
                    refine g_iald hx hb0 hX hH (k := 146) (rfl : gKinds[146]? = _) (by decide) dX9_longest_105 h (fun h => ?_)
                    refine lv_iconst (v := gI (1 : Int)) hx hb0 dX9_longest_106 (by decide) ?_
                    refine g_iadd hx hb0 dX9_longest_107 ?_
                    refine g_iast hx hb0 hX hH (k := 146) (rfl : gKinds[146]? = _) (by decide) dX9_longest_108 h (fun h H locs hH => ?_)
                    refine lv_aload_n hx hb0 dX9_longest_109 rfl (lv_at hl 3 rfl) ?_
                    refine g_getR hx hb0 hts q_ws_X9 hown hX hH (C := RX9) (T := TX9) (N := 19) (k := 136) (i := 15) (j := 146) (rfl : gKinds[136]? = _) rfl (by decide) (hts _ q_fl_X9_37) rfl rfl dX9_longest_110 ?_
                    refine lv_aload_n hx hb0 dX9_longest_113 rfl (lv_at hl 3 rfl) ?_
                    refine lv_iload_n hx hb0 dX9_longest_114 rfl (lv_at hl 0 rfl) ?_
                    refine lv_iconst (v := gI (1 : Int)) hx hb0 dX9_longest_115 (by decide) ?_
                    obtain ⟨q116, e116, h⟩ := gBind_some h
                    refine g_callVi (k := 136) (T := TX9) (N := 19) (As := [.int (gI x3_39), .int (gI (1 : Int))]) (rest := [.ref (G.1 146)]) ⟨hx, hb0, hml, hown, hts⟩ (metX9_end l D G (gUp σ39 146 (Int.toNat q92) ((σ39 146 (Int.toNat q102)) + (1 : Int))) μ x3_39 (1 : Int) q116 e116) (g_cwV (C := RX9) 2 hts q_ml_X9_86 q_im_X9_end q_se_X9_end q_in_X9 q_co_X9_end ⟨rfl, rfl⟩ (by decide +kernel) ⟨Nat.le_of_ble_eq_true rfl, Nat.le_of_ble_eq_true rfl⟩) hX hH (rfl : gKinds[136]? = _) rfl rfl hl.1 rfl (Nat.le_of_ble_eq_true rfl) dX9_longest_116 ⟨Nat.zero_le _, Nat.zero_le _⟩ (fun H locs hH => ?_)
                    refine g_iald hx hb0 hX hH (k := 146) (rfl : gKinds[146]? = _) (by decide) dX9_longest_119 h (fun h => ?_)
                    refine lv_iload_n hx hb0 dX9_longest_120 rfl (lv_at hl 2 rfl) ?_
                    have hJ139 : ∀ (t0_139 : Int) (H : Heap) (locs : List Loc) (ls : Array Slot), gH D G s H locs (gUp σ39 146 (Int.toNat q92) ((σ39 146 (Int.toNat q102)) + (1 : Int))) μ → lv_has ls 4 [(3, .int (gI x3_39)), (0, .ref (G.1 136))] → (DX9_longest_J139 (DX9_longest_L39 (DX9_longest_K148 (DX9_longest_L31 f31)) f39) x3_39 σ39 q92 q102 t0_139) = some (r, σ') → W p l e (headSpec (gWs yX9_longest cX9_longest 4 (some (Jvm.ClassFile.FieldType.int))) ({ frames := 3, cells := 0, slots := 0, locals := 64 } : Room)).room s m ([.ref (G.1 136)] : List Value).toArray below meth c H locs 0 0 (MQ below (gQi D G r σ' μ) ([.ref (G.1 136)] : List Value).toArray s 0 0 (gA G)) (F0 m 139 ls [.int (gI t0_139)]) := by
                      intro t0_139 H locs ls hH hl h
                      unfold DX9_longest_J139 at h
                      refine lv_istore_n (lv' := [(1, .int (gI t0_139)), (3, .int (gI x3_39)), (0, .ref (G.1 136))]) hx hb0 dX9_longest_139 rfl hl (by decide) rfl (fun ls hl => ?_)
                      refine lv_iconst (v := gI (1 : Int)) hx hb0 dX9_longest_140 (by decide) ?_
                      refine lv_istore_n (lv' := [(2, .int (gI (1 : Int))), (1, .int (gI t0_139)), (3, .int (gI x3_39)), (0, .ref (G.1 136))]) hx hb0 dX9_longest_141 rfl hl (by decide) rfl (fun ls hl => ?_)
                      exact hJ142 _ _ _ _ _ _ hH (lv_sub hl [2, 0, 1, 3] rfl) h
                    refine g_icmp_le (tgt := 138) hx hb0 dX9_longest_121 (by decide) h (fun h => ?_) (fun h => ?_)
                    · refine lv_iload_n hx hb0 dX9_longest_138 rfl (lv_at hl 2 rfl) ?_
                      exact hJ139 _ _ _ _ hH (lv_sub hl [0, 3] rfl) h
                    · refine lv_aload_n hx hb0 dX9_longest_124 rfl (lv_at hl 3 rfl) ?_
                      refine g_getR hx hb0 hts q_ws_X9 hown hX hH (C := RX9) (T := TX9) (N := 19) (k := 136) (i := 15) (j := 146) (rfl : gKinds[136]? = _) rfl (by decide) (hts _ q_fl_X9_37) rfl rfl dX9_longest_125 ?_
                      refine lv_aload_n hx hb0 dX9_longest_128 rfl (lv_at hl 3 rfl) ?_
                      refine lv_iload_n hx hb0 dX9_longest_129 rfl (lv_at hl 0 rfl) ?_
                      refine lv_iconst (v := gI (1 : Int)) hx hb0 dX9_longest_130 (by decide) ?_
                      obtain ⟨q131, e131, h⟩ := gBind_some h
                      refine g_callVi (k := 136) (T := TX9) (N := 19) (As := [.int (gI x3_39), .int (gI (1 : Int))]) (rest := [.ref (G.1 146)]) ⟨hx, hb0, hml, hown, hts⟩ (metX9_end l D G (gUp σ39 146 (Int.toNat q92) ((σ39 146 (Int.toNat q102)) + (1 : Int))) μ x3_39 (1 : Int) q131 e131) (g_cwV (C := RX9) 2 hts q_ml_X9_86 q_im_X9_end q_se_X9_end q_in_X9 q_co_X9_end ⟨rfl, rfl⟩ (by decide +kernel) ⟨Nat.le_of_ble_eq_true rfl, Nat.le_of_ble_eq_true rfl⟩) hX hH (rfl : gKinds[136]? = _) rfl rfl hl.1 rfl (Nat.le_of_ble_eq_true rfl) dX9_longest_131 ⟨Nat.zero_le _, Nat.zero_le _⟩ (fun H locs hH => ?_)
                      refine g_iald hx hb0 hX hH (k := 146) (rfl : gKinds[146]? = _) (by decide) dX9_longest_134 h (fun h => ?_)
                      refine lv_goto (tgt := 139) hx hb0 dX9_longest_135 (by decide) ?_
                      exact hJ139 _ _ _ _ hH (lv_sub hl [0, 3] rfl) h
          exact hL39 gFuel _ _ _ _ _ _ _ hH (lv_sub hl [0, 1, 2, 3] rfl) h
    exact hL31 gFuel _ _ _ _ _ _ hH (lv_sub hl [0, 1, 2] rfl) h
  have hL4 : ∀ (f4 : Nat) (x2_4 : Int) (x1_4 : Int) (σ4 : gSt) (H : Heap) (locs : List Loc) (ls : Array Slot), gH D G s H locs σ4 μ → lv_has ls 4 [(2, .int (gI x2_4)), (1, .int (gI x1_4)), (0, .ref (G.1 136))] → (DX9_longest_L4 (DX9_longest_K29) f4 x2_4 x1_4 σ4) = some (r, σ') → W p l e (headSpec (gWs yX9_longest cX9_longest 4 (some (Jvm.ClassFile.FieldType.int))) ({ frames := 3, cells := 0, slots := 0, locals := 64 } : Room)).room s m ([.ref (G.1 136)] : List Value).toArray below meth c H locs 0 0 (MQ below (gQi D G r σ' μ) ([.ref (G.1 136)] : List Value).toArray s 0 0 (gA G)) (F0 m 4 ls []) := by
    intro f4
    induction f4 with
    | zero => intro x2_4 x1_4 σ4 H locs ls hH hl h; cases h
    | succ f4 ih4 =>
      intro x2_4 x1_4 σ4 H locs ls hH hl h
      unfold DX9_longest_L4 at h
      refine lv_iload_n hx hb0 dX9_longest_4 rfl (lv_at hl 0 rfl) ?_
      refine lv_aload_n hx hb0 dX9_longest_5 rfl (lv_at hl 2 rfl) ?_
      refine g_getR hx hb0 hts q_ws_X9 hown hX hH (C := RX9) (T := TX9) (N := 19) (k := 136) (i := 0) (j := 137) (rfl : gKinds[136]? = _) rfl (by decide) (hts _ q_fl_X9_7) rfl rfl dX9_longest_6 ?_
      refine lv_iconst (v := gI (4 : Int)) hx hb0 dX9_longest_9 (by decide) ?_
      refine g_iald hx hb0 hX hH (k := 137) (rfl : gKinds[137]? = _) (by decide) dX9_longest_10 h (fun h => ?_)
      refine g_icmp_ge (tgt := 29) hx hb0 dX9_longest_11 (by decide) h (fun h => ?_) (fun h => ?_)
      · exact hK29 _ _ _ _ _ hH (lv_sub hl [1, 2] rfl) h
      · refine lv_aload_n hx hb0 dX9_longest_14 rfl (lv_at hl 2 rfl) ?_
        refine g_getR hx hb0 hts q_ws_X9 hown hX hH (C := RX9) (T := TX9) (N := 19) (k := 136) (i := 15) (j := 146) (rfl : gKinds[136]? = _) rfl (by decide) (hts _ q_fl_X9_37) rfl rfl dX9_longest_15 ?_
        refine lv_iload_n hx hb0 dX9_longest_18 rfl (lv_at hl 0 rfl) ?_
        refine lv_iconst (v := gI (1 : Int)) hx hb0 dX9_longest_19 (by decide) ?_
        refine g_iast hx hb0 hX hH (k := 146) (rfl : gKinds[146]? = _) (by decide) dX9_longest_20 h (fun h H locs hH => ?_)
        refine lv_iconst (v := gI (1 : Int)) hx hb0 dX9_longest_21 (by decide) ?_
        refine lv_istore_n (lv' := [(1, .int (gI (1 : Int))), (2, .int (gI x2_4)), (0, .ref (G.1 136))]) hx hb0 dX9_longest_22 rfl hl (by decide) rfl (fun ls hl => ?_)
        refine g_iinc (k := 1) (n := (1 : Int)) (lv' := [(2, .int (gI (x2_4 + (1 : Int)))), (1, .int (gI (1 : Int))), (0, .ref (G.1 136))]) hx hb0 dX9_longest_23 hl rfl (by decide) rfl (fun ls hl => ?_)
        refine lv_goto (tgt := 4) hx hb0 dX9_longest_26 (by decide) ?_
        exact ih4 _ _ _ _ _ _ hH (lv_sub hl [0, 1, 2] rfl) h
  exact hL4 gFuel _ _ _ _ _ _ hH (lv_sub hl [0, 1, 2] rfl) h
