def DX4_put (n : Nat) (len : Nat) (σ : gSt) (a1 : Int) (a2 : Int) : Option (gSt) :=
  gIf (a1 < (0 : Int)) a1 (0 : Int) (some σ) (gIf (a1 < ((len : Nat) : Int)) a1 ((len : Nat) : Int) (gAt a1 len (some (gUp σ (n + 1) (Int.toNat a1) a2))) (some σ))
set_option maxHeartbeats 4000000 in
set_option maxRecDepth 100000 in
theorem metX4_put (l : Launch) (D : va_G) (G : gAd) (n : Nat) (len : Nat) (hk : gNum n len) (σ : gSt) (μ : gLg) (a1 : Int) (a2 : Int) (σ' : gSt) (h : DX4_put n len σ a1 a2 = some σ') : Met l yX4_put (gWs yX4_put cX4_put 3 none) ({ frames := 0, cells := 0, slots := 0, locals := 0 } : Room) (gPc D G [.ref (G.1 n), .int (gI a1), .int (gI a2)] σ μ) (gQv D G σ' μ) 0 0 (gA G) := by
  refine Met.ofW (cc := cX4_put) (maxL := 3) (ret := none) (by decide) rfl ?_
  intro p e s m args below meth c s₁ B hml hv
  obtain ⟨rfl, hP, hX⟩ := hv
  have hx := B.exec
  have hb0 := B.bytes
  have hr := B.returns
  have hts0 := atoms_spec (ws := (gWs yX4_put cX4_put 3 none)) B.pre
  have hts : ∀ w ∈ gLW, w.before _ s = true := fun w hw => hts0 w (List.mem_cons_of_mem _ hw)
  have hown : s.vm.findClass RX4 = some m.cls := findClass_of_methodNamed B.named
  have hlocks := B.notSynchronized
  have hH : gH D G s s.heap [] σ μ := ⟨hP, va_S.rf⟩
  have hl := lv_entry ([.ref (G.1 n), .int (gI a1), .int (gI a2)]) (n := 3) (Nat.le_of_ble_eq_true rfl)
  rw [lg_entry_eq]
  generalize (lg_sl ([.ref (G.1 n), .int (gI a1), .int (gI a2)]) ++ List.replicate (3 - (lg_sl ([.ref (G.1 n), .int (gI a1), .int (gI a2)])).length) Slot.unset).toArray = ls at hl ⊢
  have hl : lv_has ls 3 [(0, .ref (G.1 n)), (1, .int (gI a1)), (2, .int (gI a2))] := hl
  unfold DX4_put at h
  refine lv_iload_n hx hb0 dX4_put_0 rfl (lv_at hl 1 rfl) ?_
  refine g_if_lt (tgt := 20) hx hb0 dX4_put_1 (by decide) h (fun h => ?_) (fun h => ?_)
  · exact g_vretS hx hb0 hr hH hlocks dX4_put_20 h
  · refine lv_iload_n hx hb0 dX4_put_4 rfl (lv_at hl 1 rfl) ?_
    refine lv_aload_n hx hb0 dX4_put_5 rfl (lv_at hl 0 rfl) ?_
    refine g_getR hx hb0 hts q_ws_X4 hown hX hH (C := RX4) (T := TX4) (N := 1) (k := n) (i := 0) (j := (n + 1)) (hk).1 rfl (by decide) (hts _ q_fl_X4_9) rfl rfl dX4_put_6 ?_
    refine g_alen hx hb0 hX hH (k := (n + 1)) (hk).2.1 dX4_put_9 ?_
    refine g_icmp_ge (tgt := 20) hx hb0 dX4_put_10 (by decide) h (fun h => ?_) (fun h => ?_)
    · exact g_vretS hx hb0 hr hH hlocks dX4_put_20 h
    · refine lv_aload_n hx hb0 dX4_put_13 rfl (lv_at hl 0 rfl) ?_
      refine g_getR hx hb0 hts q_ws_X4 hown hX hH (C := RX4) (T := TX4) (N := 1) (k := n) (i := 0) (j := (n + 1)) (hk).1 rfl (by decide) (hts _ q_fl_X4_9) rfl rfl dX4_put_14 ?_
      refine lv_iload_n hx hb0 dX4_put_17 rfl (lv_at hl 1 rfl) ?_
      refine lv_iload_n hx hb0 dX4_put_18 rfl (lv_at hl 2 rfl) ?_
      refine g_iast hx hb0 hX hH (k := (n + 1)) (hk).2.1 (Nat.le_trans (hk).2.2 (by decide)) dX4_put_19 h (fun h H locs hH => ?_)
      exact g_vretS hx hb0 hr hH hlocks dX4_put_20 h
def DX8_isSetting (σ : gSt) (a0 : Int) (a1 : Int) : Option (Int) :=
  gIf (a0 < (0 : Int)) a0 (0 : Int) (gBo (0 : Int) (some (0 : Int))) (gIf (a0 < ((4 : Nat) : Int)) a0 ((4 : Nat) : Int) (gIf (a0 < ((4 : Nat) : Int)) a0 ((4 : Nat) : Int) (gAt a0 4 (gIf (a1 < (([3, 5, 0, 0] : List Int).getD (Int.toNat a0) 0)) a1 (([3, 5, 0, 0] : List Int).getD (Int.toNat a0) 0) (gBo (0 : Int) (some (0 : Int))) (gAt a0 4 (gIf ((([20, 60, 1, 1] : List Int).getD (Int.toNat a0) 0) < a1) a1 (([20, 60, 1, 1] : List Int).getD (Int.toNat a0) 0) (gBo (0 : Int) (some (0 : Int))) (gBo (1 : Int) (some (1 : Int))))))) (gBo (0 : Int) (some (0 : Int)))) (gBo (0 : Int) (some (0 : Int))))
set_option maxHeartbeats 4000000 in
set_option maxRecDepth 100000 in
theorem metX8_isSetting (l : Launch) (D : va_G) (G : gAd) (σ : gSt) (μ : gLg) (a0 : Int) (a1 : Int) (r : Int) (h : DX8_isSetting σ a0 a1 = some r) : Met l yX8_isSetting (gWs yX8_isSetting cX8_isSetting 2 (some (Jvm.ClassFile.FieldType.boolean))) ({ frames := 0, cells := 0, slots := 0, locals := 0 } : Room) (gPc D G [.int (gI a0), .int (gI a1)] σ μ) (gQi D G r σ μ) 0 0 (gA G) := by
  refine Met.ofW (cc := cX8_isSetting) (maxL := 2) (ret := (some (Jvm.ClassFile.FieldType.boolean))) (by decide) rfl ?_
  intro p e s m args below meth c s₁ B hml hv
  obtain ⟨rfl, hP, hX⟩ := hv
  have hx := B.exec
  have hb0 := B.bytes
  have hr := B.returns
  have hts0 := atoms_spec (ws := (gWs yX8_isSetting cX8_isSetting 2 (some (Jvm.ClassFile.FieldType.boolean)))) B.pre
  have hts : ∀ w ∈ gLW, w.before _ s = true := fun w hw => hts0 w (List.mem_cons_of_mem _ hw)
  have hown : s.vm.findClass RX8 = some m.cls := findClass_of_methodNamed B.named
  have hlocks := B.notSynchronized
  have hH : gH D G s s.heap [] σ μ := ⟨hP, va_S.rf⟩
  have hl := lv_entry ([.int (gI a0), .int (gI a1)]) (n := 2) (Nat.le_of_ble_eq_true rfl)
  rw [lg_entry_eq]
  generalize (lg_sl ([.int (gI a0), .int (gI a1)]) ++ List.replicate (2 - (lg_sl ([.int (gI a0), .int (gI a1)])).length) Slot.unset).toArray = ls at hl ⊢
  have hl : lv_has ls 2 [(0, .int (gI a0)), (1, .int (gI a1))] := hl
  unfold DX8_isSetting at h
  refine lv_iload_n hx hb0 dX8_isSetting_0 rfl (lv_at hl 0 rfl) ?_
  refine g_if_lt (tgt := 20) hx hb0 dX8_isSetting_1 (by decide) h (fun h => ?_) (fun h => ?_)
  · refine lv_iconst (v := gI (0 : Int)) hx hb0 dX8_isSetting_20 (by decide) ?_
    exact g_zretP hx hb0 hr hH hlocks dX8_isSetting_21 h
  · refine lv_iload_n hx hb0 dX8_isSetting_4 rfl (lv_at hl 0 rfl) ?_
    refine g_gets hx hb0 ("SMALLEST", [3, 5, 0, 0]) hown hX hH (by decide +kernel) (hts _ q_fl_X8_315) dX8_isSetting_5 (fun t5 hT5 => ?_)
    refine g_tlen (n := 4) hx hb0 hT5 hH dX8_isSetting_8 ?_
    refine g_icmp_ge (tgt := 20) hx hb0 dX8_isSetting_9 (by decide) h (fun h => ?_) (fun h => ?_)
    · refine lv_iconst (v := gI (0 : Int)) hx hb0 dX8_isSetting_20 (by decide) ?_
      exact g_zretP hx hb0 hr hH hlocks dX8_isSetting_21 h
    · refine lv_iload_n hx hb0 dX8_isSetting_12 rfl (lv_at hl 0 rfl) ?_
      refine g_gets hx hb0 ("GREATEST", [20, 60, 1, 1]) hown hX hH (by decide +kernel) (hts _ q_fl_X8_319) dX8_isSetting_13 (fun t13 hT13 => ?_)
      refine g_tlen (n := 4) hx hb0 hT13 hH dX8_isSetting_16 ?_
      refine g_icmp_lt (tgt := 22) hx hb0 dX8_isSetting_17 (by decide) h (fun h => ?_) (fun h => ?_)
      · refine lv_iload_n hx hb0 dX8_isSetting_22 rfl (lv_at hl 1 rfl) ?_
        refine g_gets hx hb0 ("SMALLEST", [3, 5, 0, 0]) hown hX hH (by decide +kernel) (hts _ q_fl_X8_315) dX8_isSetting_23 (fun t23 hT23 => ?_)
        refine lv_iload_n hx hb0 dX8_isSetting_26 rfl (lv_at hl 0 rfl) ?_
        refine g_tald (L := [3, 5, 0, 0]) (n := 4) hx hb0 hT23 (by decide) hH dX8_isSetting_27 h (fun h => ?_)
        refine g_icmp_lt (tgt := 44) hx hb0 dX8_isSetting_28 (by decide) h (fun h => ?_) (fun h => ?_)
        · refine lv_iconst (v := gI (0 : Int)) hx hb0 dX8_isSetting_44 (by decide) ?_
          exact g_zretP hx hb0 hr hH hlocks dX8_isSetting_45 h
        · refine lv_iload_n hx hb0 dX8_isSetting_31 rfl (lv_at hl 1 rfl) ?_
          refine g_gets hx hb0 ("GREATEST", [20, 60, 1, 1]) hown hX hH (by decide +kernel) (hts _ q_fl_X8_319) dX8_isSetting_32 (fun t32 hT32 => ?_)
          refine lv_iload_n hx hb0 dX8_isSetting_35 rfl (lv_at hl 0 rfl) ?_
          refine g_tald (L := [20, 60, 1, 1]) (n := 4) hx hb0 hT32 (by decide) hH dX8_isSetting_36 h (fun h => ?_)
          refine g_icmp_gt (tgt := 44) hx hb0 dX8_isSetting_37 (by decide) h (fun h => ?_) (fun h => ?_)
          · refine lv_iconst (v := gI (0 : Int)) hx hb0 dX8_isSetting_44 (by decide) ?_
            exact g_zretP hx hb0 hr hH hlocks dX8_isSetting_45 h
          · refine lv_iconst (v := gI (1 : Int)) hx hb0 dX8_isSetting_40 (by decide) ?_
            refine lv_goto (tgt := 45) hx hb0 dX8_isSetting_41 (by decide) ?_
            exact g_zretP hx hb0 hr hH hlocks dX8_isSetting_45 h
      · refine lv_iconst (v := gI (0 : Int)) hx hb0 dX8_isSetting_20 (by decide) ?_
        exact g_zretP hx hb0 hr hH hlocks dX8_isSetting_21 h
def DX3_slot (σ : gSt) (a1 : Int) : Option ((Option Nat)) :=
  gIf (a1 < (0 : Int)) a1 (0 : Int) (some none) (gIf (a1 < ((4 : Nat) : Int)) a1 ((4 : Nat) : Int) (gAt a1 4 (some (some (([29, 42, 55, 68] : List Nat).getD (Int.toNat a1) 0)))) (some none))
set_option maxHeartbeats 4000000 in
set_option maxRecDepth 100000 in
theorem metX3_slot (l : Launch) (D : va_G) (G : gAd) (σ : gSt) (μ : gLg) (a1 : Int) (r : Option Nat) (h : DX3_slot σ a1 = some r) : Met l yX3_slot (gWs yX3_slot cX3_slot 2 (some ((Jvm.ClassFile.FieldType.object "TaskSheets$Plan")))) ({ frames := 0, cells := 0, slots := 0, locals := 0 } : Room) (gPc D G [.ref (G.1 27), .int (gI a1)] σ μ) (gQq D G r σ μ) 0 0 (gA G) := by
  refine Met.ofW (cc := cX3_slot) (maxL := 2) (ret := (some ((Jvm.ClassFile.FieldType.object "TaskSheets$Plan")))) (by decide) rfl ?_
  intro p e s m args below meth c s₁ B hml hv
  obtain ⟨rfl, hP, hX⟩ := hv
  have hx := B.exec
  have hb0 := B.bytes
  have hr := B.returns
  have hts0 := atoms_spec (ws := (gWs yX3_slot cX3_slot 2 (some ((Jvm.ClassFile.FieldType.object "TaskSheets$Plan"))))) B.pre
  have hts : ∀ w ∈ gLW, w.before _ s = true := fun w hw => hts0 w (List.mem_cons_of_mem _ hw)
  have hown : s.vm.findClass RX3 = some m.cls := findClass_of_methodNamed B.named
  have hlocks := B.notSynchronized
  have hH : gH D G s s.heap [] σ μ := ⟨hP, va_S.rf⟩
  have hl := lv_entry ([.ref (G.1 27), .int (gI a1)]) (n := 2) (Nat.le_of_ble_eq_true rfl)
  rw [lg_entry_eq]
  generalize (lg_sl ([.ref (G.1 27), .int (gI a1)]) ++ List.replicate (2 - (lg_sl ([.ref (G.1 27), .int (gI a1)])).length) Slot.unset).toArray = ls at hl ⊢
  have hl : lv_has ls 2 [(0, .ref (G.1 27)), (1, .int (gI a1))] := hl
  unfold DX3_slot at h
  refine lv_iload_n hx hb0 dX3_slot_0 rfl (lv_at hl 1 rfl) ?_
  refine g_if_lt (tgt := 22) hx hb0 dX3_slot_1 (by decide) h (fun h => ?_) (fun h => ?_)
  · refine lv_null hx hb0 dX3_slot_22 ?_
    exact g_aretP (o := none) hx hb0 hr hH hlocks rfl dX3_slot_23 h
  · refine lv_iload_n hx hb0 dX3_slot_4 rfl (lv_at hl 1 rfl) ?_
    refine lv_aload_n hx hb0 dX3_slot_5 rfl (lv_at hl 0 rfl) ?_
    refine g_getR hx hb0 hts q_ws_X3 hown hX hH (C := RX3) (T := TX3) (N := 3) (k := 27) (i := 0) (j := 28) (rfl : gKinds[27]? = _) rfl (by decide) (hts _ q_fl_X3_11) rfl rfl dX3_slot_6 ?_
    refine g_alenq2 hx hb0 hX hH (k := 28) (rs := [29, 42, 55, 68]) (n := 4) (rfl : gKinds[28]? = _) rfl dX3_slot_9 ?_
    refine g_icmp_ge (tgt := 22) hx hb0 dX3_slot_10 (by decide) h (fun h => ?_) (fun h => ?_)
    · refine lv_null hx hb0 dX3_slot_22 ?_
      exact g_aretP (o := none) hx hb0 hr hH hlocks rfl dX3_slot_23 h
    · refine lv_aload_n hx hb0 dX3_slot_13 rfl (lv_at hl 0 rfl) ?_
      refine g_getR hx hb0 hts q_ws_X3 hown hX hH (C := RX3) (T := TX3) (N := 3) (k := 27) (i := 0) (j := 28) (rfl : gKinds[27]? = _) rfl (by decide) (hts _ q_fl_X3_11) rfl rfl dX3_slot_14 ?_
      refine lv_iload_n hx hb0 dX3_slot_17 rfl (lv_at hl 1 rfl) ?_
      refine g_aald hx hb0 hX hH (k := 28) (rs := [29, 42, 55, 68]) (n := 4) (rfl : gKinds[28]? = _) rfl (by decide) dX3_slot_18 h (fun h => ?_)
      refine lv_goto (tgt := 23) hx hb0 dX3_slot_19 (by decide) ?_
      exact g_aretP (o := (some (([29, 42, 55, 68] : List Nat).getD (Int.toNat a1) 0))) hx hb0 hr hH hlocks rfl dX3_slot_23 h
def DX4_copy_L2 (n : Nat) (len : Nat) (n1 : Nat) (len1 : Nat) : Nat → Int → gSt → Option (gSt)
  | 0, _, _ => none
  | f2 + 1, x2_2, σ2 => gIf (x2_2 < ((len : Nat) : Int)) x2_2 ((len : Nat) : Int) (gIf (x2_2 < ((len1 : Nat) : Int)) x2_2 ((len1 : Nat) : Int) (gAt x2_2 len1 (gAt x2_2 len (((DX4_copy_L2 n len n1 len1 f2) (x2_2 + (1 : Int)) (gUp σ2 (n + 1) (Int.toNat x2_2) (σ2 (n1 + 1) (Int.toNat x2_2))))))) (some σ2)) (some σ2)
def DX4_copy (n : Nat) (len : Nat) (n1 : Nat) (len1 : Nat) (σ : gSt) : Option (gSt) :=
  (DX4_copy_L2 n len n1 len1 gFuel (0 : Int) σ)
set_option maxHeartbeats 4000000 in
set_option maxRecDepth 100000 in
theorem metX4_copy (l : Launch) (D : va_G) (G : gAd) (n : Nat) (len : Nat) (n1 : Nat) (len1 : Nat) (hk : gNum n len) (hk1 : gNum n1 len1) (σ : gSt) (μ : gLg) (σ' : gSt) (h : DX4_copy n len n1 len1 σ = some σ') : Met l yX4_copy (gWs yX4_copy cX4_copy 3 none) ({ frames := 0, cells := 0, slots := 0, locals := 0 } : Room) (gPc D G [.ref (G.1 n), .ref (G.1 n1)] σ μ) (gQv D G σ' μ) 0 0 (gA G) := by
  refine Met.ofW (cc := cX4_copy) (maxL := 3) (ret := none) (by decide) rfl ?_
  intro p e s m args below meth c s₁ B hml hv
  obtain ⟨rfl, hP, hX⟩ := hv
  have hx := B.exec
  have hb0 := B.bytes
  have hr := B.returns
  have hts0 := atoms_spec (ws := (gWs yX4_copy cX4_copy 3 none)) B.pre
  have hts : ∀ w ∈ gLW, w.before _ s = true := fun w hw => hts0 w (List.mem_cons_of_mem _ hw)
  have hown : s.vm.findClass RX4 = some m.cls := findClass_of_methodNamed B.named
  have hlocks := B.notSynchronized
  have hH : gH D G s s.heap [] σ μ := ⟨hP, va_S.rf⟩
  have hl := lv_entry ([.ref (G.1 n), .ref (G.1 n1)]) (n := 3) (Nat.le_of_ble_eq_true rfl)
  rw [lg_entry_eq]
  generalize (lg_sl ([.ref (G.1 n), .ref (G.1 n1)]) ++ List.replicate (3 - (lg_sl ([.ref (G.1 n), .ref (G.1 n1)])).length) Slot.unset).toArray = ls at hl ⊢
  have hl : lv_has ls 3 [(0, .ref (G.1 n)), (1, .ref (G.1 n1))] := hl
  unfold DX4_copy at h
  refine lv_iconst (v := gI (0 : Int)) hx hb0 dX4_copy_0 (by decide) ?_
  refine lv_istore_n (lv' := [(2, .int (gI (0 : Int))), (0, .ref (G.1 n)), (1, .ref (G.1 n1))]) hx hb0 dX4_copy_1 rfl hl (by decide) rfl (fun ls hl => ?_)
  have hL2 : ∀ (f2 : Nat) (x2_2 : Int) (σ2 : gSt) (H : Heap) (locs : List Loc) (ls : Array Slot), gH D G s H locs σ2 μ → lv_has ls 3 [(2, .int (gI x2_2)), (0, .ref (G.1 n)), (1, .ref (G.1 n1))] → (DX4_copy_L2 n len n1 len1 f2 x2_2 σ2) = some σ' → W p l e (headSpec (gWs yX4_copy cX4_copy 3 none) ({ frames := 0, cells := 0, slots := 0, locals := 0 } : Room)).room s m ([.ref (G.1 n), .ref (G.1 n1)] : List Value).toArray below meth c H locs 0 0 (MQ below (gQv D G σ' μ) ([.ref (G.1 n), .ref (G.1 n1)] : List Value).toArray s 0 0 (gA G)) (F0 m 2 ls []) := by
    intro f2
    induction f2 with
    | zero => intro x2_2 σ2 H locs ls hH hl h; cases h
    | succ f2 ih2 =>
      intro x2_2 σ2 H locs ls hH hl h
      unfold DX4_copy_L2 at h
      refine lv_iload_n hx hb0 dX4_copy_2 rfl (lv_at hl 0 rfl) ?_
      refine lv_aload_n hx hb0 dX4_copy_3 rfl (lv_at hl 1 rfl) ?_
      refine g_getR hx hb0 hts q_ws_X4 hown hX hH (C := RX4) (T := TX4) (N := 1) (k := n) (i := 0) (j := (n + 1)) (hk).1 rfl (by decide) (hts _ q_fl_X4_9) rfl rfl dX4_copy_4 ?_
      refine g_alen hx hb0 hX hH (k := (n + 1)) (hk).2.1 dX4_copy_7 ?_
      refine g_icmp_ge (tgt := 38) hx hb0 dX4_copy_8 (by decide) h (fun h => ?_) (fun h => ?_)
      · exact g_vretS hx hb0 hr hH hlocks dX4_copy_38 h
      · refine lv_iload_n hx hb0 dX4_copy_11 rfl (lv_at hl 0 rfl) ?_
        refine lv_aload_n hx hb0 dX4_copy_12 rfl (lv_at hl 2 rfl) ?_
        refine g_getR hx hb0 hts q_ws_X4 hown hX hH (C := RX4) (T := TX4) (N := 1) (k := n1) (i := 0) (j := (n1 + 1)) (hk1).1 rfl (by decide) (hts _ q_fl_X4_9) rfl rfl dX4_copy_13 ?_
        refine g_alen hx hb0 hX hH (k := (n1 + 1)) (hk1).2.1 dX4_copy_16 ?_
        refine g_icmp_ge (tgt := 38) hx hb0 dX4_copy_17 (by decide) h (fun h => ?_) (fun h => ?_)
        · exact g_vretS hx hb0 hr hH hlocks dX4_copy_38 h
        · refine lv_aload_n hx hb0 dX4_copy_20 rfl (lv_at hl 1 rfl) ?_
          refine g_getR hx hb0 hts q_ws_X4 hown hX hH (C := RX4) (T := TX4) (N := 1) (k := n) (i := 0) (j := (n + 1)) (hk).1 rfl (by decide) (hts _ q_fl_X4_9) rfl rfl dX4_copy_21 ?_
          refine lv_iload_n hx hb0 dX4_copy_24 rfl (lv_at hl 0 rfl) ?_
          refine lv_aload_n hx hb0 dX4_copy_25 rfl (lv_at hl 2 rfl) ?_
          refine g_getR hx hb0 hts q_ws_X4 hown hX hH (C := RX4) (T := TX4) (N := 1) (k := n1) (i := 0) (j := (n1 + 1)) (hk1).1 rfl (by decide) (hts _ q_fl_X4_9) rfl rfl dX4_copy_26 ?_
          refine lv_iload_n hx hb0 dX4_copy_29 rfl (lv_at hl 0 rfl) ?_
          refine g_iald hx hb0 hX hH (k := (n1 + 1)) (hk1).2.1 (Nat.le_trans (hk1).2.2 (by decide)) dX4_copy_30 h (fun h => ?_)
          refine g_iast hx hb0 hX hH (k := (n + 1)) (hk).2.1 (Nat.le_trans (hk).2.2 (by decide)) dX4_copy_31 h (fun h H locs hH => ?_)
          refine g_iinc (k := 0) (n := (1 : Int)) (lv' := [(2, .int (gI (x2_2 + (1 : Int)))), (0, .ref (G.1 n)), (1, .ref (G.1 n1))]) hx hb0 dX4_copy_32 hl rfl (by decide) rfl (fun ls hl => ?_)
          refine lv_goto (tgt := 2) hx hb0 dX4_copy_35 (by decide) ?_
          exact ih2 _ _ _ _ _ hH (lv_sub hl [0, 1, 2] rfl) h
  exact hL2 gFuel _ _ _ _ _ hH (lv_sub hl [0, 1, 2] rfl) h
def DX5_copyTasksAndArrows (b : Nat) (p1 : Nat) (σ : gSt) : Option (gSt) :=
  (DX4_copy (b + 3) 24 (p1 + 3) 24 σ).bind fun q8 => (DX4_copy (b + 5) 24 (p1 + 5) 24 q8).bind fun q19 => (DX4_copy (b + 7) 24 (p1 + 7) 24 q19).bind fun q30 => (DX4_copy (b + 9) 30 (p1 + 9) 30 q30).bind fun q41 => (DX4_copy (b + 11) 30 (p1 + 11) 30 q41).bind fun q52 => some (gUp (gUp q52 b 6 (q52 p1 6)) b 7 ((gUp q52 b 6 (q52 p1 6)) p1 7))
set_option maxHeartbeats 4000000 in
set_option maxRecDepth 100000 in
theorem metX5_copyTasksAndArrows (l : Launch) (D : va_G) (G : gAd) (b : Nat) (p1 : Nat) (hb : gPlan b) (hp1 : gPlan p1) (σ : gSt) (μ : gLg) (σ' : gSt) (h : DX5_copyTasksAndArrows b p1 σ = some σ') : Met l yX5_copyTasksAndArrows (gWs yX5_copyTasksAndArrows cX5_copyTasksAndArrows 2 none) ({ frames := 1, cells := 0, slots := 0, locals := 22 } : Room) (gPc D G [.ref (G.1 b), .ref (G.1 p1)] σ μ) (gQv D G σ' μ) 0 0 (gA G) := by
  refine Met.ofW (cc := cX5_copyTasksAndArrows) (maxL := 2) (ret := none) (by decide) rfl ?_
  intro p e s m args below meth c s₁ B hml hv
  obtain ⟨rfl, hP, hX⟩ := hv
  have hx := B.exec
  have hb0 := B.bytes
  have hr := B.returns
  have hts0 := atoms_spec (ws := (gWs yX5_copyTasksAndArrows cX5_copyTasksAndArrows 2 none)) B.pre
  have hts : ∀ w ∈ gLW, w.before _ s = true := fun w hw => hts0 w (List.mem_cons_of_mem _ hw)
  have hown : s.vm.findClass RX5 = some m.cls := findClass_of_methodNamed B.named
  have hlocks := B.notSynchronized
  have hH : gH D G s s.heap [] σ μ := ⟨hP, va_S.rf⟩
  have hl := lv_entry ([.ref (G.1 b), .ref (G.1 p1)]) (n := 2) (Nat.le_of_ble_eq_true rfl)
  rw [lg_entry_eq]
  generalize (lg_sl ([.ref (G.1 b), .ref (G.1 p1)]) ++ List.replicate (2 - (lg_sl ([.ref (G.1 b), .ref (G.1 p1)])).length) Slot.unset).toArray = ls at hl ⊢
  have hl : lv_has ls 2 [(0, .ref (G.1 b)), (1, .ref (G.1 p1))] := hl
  unfold DX5_copyTasksAndArrows at h
  refine lv_aload_n hx hb0 dX5_copyTasksAndArrows_0 rfl (lv_at hl 0 rfl) ?_
  refine g_getR hx hb0 hts q_ws_X5 hown hX hH (C := RX5) (T := TX5) (N := 8) (k := b) (i := 1) (j := (b + 3)) hb.k rfl (by decide) (hts _ q_fl_X5_20) rfl rfl dX5_copyTasksAndArrows_1 ?_
  refine lv_aload_n hx hb0 dX5_copyTasksAndArrows_4 rfl (lv_at hl 1 rfl) ?_
  refine g_getR hx hb0 hts q_ws_X5 hown hX hH (C := RX5) (T := TX5) (N := 8) (k := p1) (i := 1) (j := (p1 + 3)) hp1.k rfl (by decide) (hts _ q_fl_X5_20) rfl rfl dX5_copyTasksAndArrows_5 ?_
  obtain ⟨q8, e8, h⟩ := gBind_some h
  refine g_callVv (k := (b + 3)) (T := TX4) (N := 1) (As := [.ref (G.1 (p1 + 3))]) (rest := []) ⟨hx, hb0, hml, hown, hts⟩ (metX4_copy l D G (b + 3) 24 (p1 + 3) 24 (hb.n1) (hp1.n1) σ μ q8 e8) (g_cwV (C := RX4) 1 hts q_ml_X5_86 q_im_X4_copy q_se_X4_copy q_in_X4 q_co_X4_copy ⟨rfl, rfl⟩ (by decide +kernel) ⟨Nat.le_of_ble_eq_true rfl, Nat.le_of_ble_eq_true rfl⟩) hX hH ((hb.n1)).1 rfl rfl hl.1 rfl (Nat.le_of_ble_eq_true rfl) dX5_copyTasksAndArrows_8 ⟨Nat.zero_le _, Nat.zero_le _⟩ (fun H locs hH => ?_)
  refine lv_aload_n hx hb0 dX5_copyTasksAndArrows_11 rfl (lv_at hl 0 rfl) ?_
  refine g_getR hx hb0 hts q_ws_X5 hown hX hH (C := RX5) (T := TX5) (N := 8) (k := b) (i := 2) (j := (b + 5)) hb.k rfl (by decide) (hts _ q_fl_X5_23) rfl rfl dX5_copyTasksAndArrows_12 ?_
  refine lv_aload_n hx hb0 dX5_copyTasksAndArrows_15 rfl (lv_at hl 1 rfl) ?_
  refine g_getR hx hb0 hts q_ws_X5 hown hX hH (C := RX5) (T := TX5) (N := 8) (k := p1) (i := 2) (j := (p1 + 5)) hp1.k rfl (by decide) (hts _ q_fl_X5_23) rfl rfl dX5_copyTasksAndArrows_16 ?_
  obtain ⟨q19, e19, h⟩ := gBind_some h
  refine g_callVv (k := (b + 5)) (T := TX4) (N := 1) (As := [.ref (G.1 (p1 + 5))]) (rest := []) ⟨hx, hb0, hml, hown, hts⟩ (metX4_copy l D G (b + 5) 24 (p1 + 5) 24 (hb.n2) (hp1.n2) q8 μ q19 e19) (g_cwV (C := RX4) 1 hts q_ml_X5_86 q_im_X4_copy q_se_X4_copy q_in_X4 q_co_X4_copy ⟨rfl, rfl⟩ (by decide +kernel) ⟨Nat.le_of_ble_eq_true rfl, Nat.le_of_ble_eq_true rfl⟩) hX hH ((hb.n2)).1 rfl rfl hl.1 rfl (Nat.le_of_ble_eq_true rfl) dX5_copyTasksAndArrows_19 ⟨Nat.zero_le _, Nat.zero_le _⟩ (fun H locs hH => ?_)
  refine lv_aload_n hx hb0 dX5_copyTasksAndArrows_22 rfl (lv_at hl 0 rfl) ?_
  refine g_getR hx hb0 hts q_ws_X5 hown hX hH (C := RX5) (T := TX5) (N := 8) (k := b) (i := 3) (j := (b + 7)) hb.k rfl (by decide) (hts _ q_fl_X5_26) rfl rfl dX5_copyTasksAndArrows_23 ?_
  refine lv_aload_n hx hb0 dX5_copyTasksAndArrows_26 rfl (lv_at hl 1 rfl) ?_
  refine g_getR hx hb0 hts q_ws_X5 hown hX hH (C := RX5) (T := TX5) (N := 8) (k := p1) (i := 3) (j := (p1 + 7)) hp1.k rfl (by decide) (hts _ q_fl_X5_26) rfl rfl dX5_copyTasksAndArrows_27 ?_
  obtain ⟨q30, e30, h⟩ := gBind_some h
  refine g_callVv (k := (b + 7)) (T := TX4) (N := 1) (As := [.ref (G.1 (p1 + 7))]) (rest := []) ⟨hx, hb0, hml, hown, hts⟩ (metX4_copy l D G (b + 7) 24 (p1 + 7) 24 (hb.n3) (hp1.n3) q19 μ q30 e30) (g_cwV (C := RX4) 1 hts q_ml_X5_86 q_im_X4_copy q_se_X4_copy q_in_X4 q_co_X4_copy ⟨rfl, rfl⟩ (by decide +kernel) ⟨Nat.le_of_ble_eq_true rfl, Nat.le_of_ble_eq_true rfl⟩) hX hH ((hb.n3)).1 rfl rfl hl.1 rfl (Nat.le_of_ble_eq_true rfl) dX5_copyTasksAndArrows_30 ⟨Nat.zero_le _, Nat.zero_le _⟩ (fun H locs hH => ?_)
  refine lv_aload_n hx hb0 dX5_copyTasksAndArrows_33 rfl (lv_at hl 0 rfl) ?_
  refine g_getR hx hb0 hts q_ws_X5 hown hX hH (C := RX5) (T := TX5) (N := 8) (k := b) (i := 4) (j := (b + 9)) hb.k rfl (by decide) (hts _ q_fl_X5_29) rfl rfl dX5_copyTasksAndArrows_34 ?_
  refine lv_aload_n hx hb0 dX5_copyTasksAndArrows_37 rfl (lv_at hl 1 rfl) ?_
  refine g_getR hx hb0 hts q_ws_X5 hown hX hH (C := RX5) (T := TX5) (N := 8) (k := p1) (i := 4) (j := (p1 + 9)) hp1.k rfl (by decide) (hts _ q_fl_X5_29) rfl rfl dX5_copyTasksAndArrows_38 ?_
  obtain ⟨q41, e41, h⟩ := gBind_some h
  refine g_callVv (k := (b + 9)) (T := TX4) (N := 1) (As := [.ref (G.1 (p1 + 9))]) (rest := []) ⟨hx, hb0, hml, hown, hts⟩ (metX4_copy l D G (b + 9) 30 (p1 + 9) 30 (hb.n4) (hp1.n4) q30 μ q41 e41) (g_cwV (C := RX4) 1 hts q_ml_X5_86 q_im_X4_copy q_se_X4_copy q_in_X4 q_co_X4_copy ⟨rfl, rfl⟩ (by decide +kernel) ⟨Nat.le_of_ble_eq_true rfl, Nat.le_of_ble_eq_true rfl⟩) hX hH ((hb.n4)).1 rfl rfl hl.1 rfl (Nat.le_of_ble_eq_true rfl) dX5_copyTasksAndArrows_41 ⟨Nat.zero_le _, Nat.zero_le _⟩ (fun H locs hH => ?_)
  refine lv_aload_n hx hb0 dX5_copyTasksAndArrows_44 rfl (lv_at hl 0 rfl) ?_
  refine g_getR hx hb0 hts q_ws_X5 hown hX hH (C := RX5) (T := TX5) (N := 8) (k := b) (i := 5) (j := (b + 11)) hb.k rfl (by decide) (hts _ q_fl_X5_32) rfl rfl dX5_copyTasksAndArrows_45 ?_
  refine lv_aload_n hx hb0 dX5_copyTasksAndArrows_48 rfl (lv_at hl 1 rfl) ?_
  refine g_getR hx hb0 hts q_ws_X5 hown hX hH (C := RX5) (T := TX5) (N := 8) (k := p1) (i := 5) (j := (p1 + 11)) hp1.k rfl (by decide) (hts _ q_fl_X5_32) rfl rfl dX5_copyTasksAndArrows_49 ?_
  obtain ⟨q52, e52, h⟩ := gBind_some h
  refine g_callVv (k := (b + 11)) (T := TX4) (N := 1) (As := [.ref (G.1 (p1 + 11))]) (rest := []) ⟨hx, hb0, hml, hown, hts⟩ (metX4_copy l D G (b + 11) 30 (p1 + 11) 30 (hb.n5) (hp1.n5) q41 μ q52 e52) (g_cwV (C := RX4) 1 hts q_ml_X5_86 q_im_X4_copy q_se_X4_copy q_in_X4 q_co_X4_copy ⟨rfl, rfl⟩ (by decide +kernel) ⟨Nat.le_of_ble_eq_true rfl, Nat.le_of_ble_eq_true rfl⟩) hX hH ((hb.n5)).1 rfl rfl hl.1 rfl (Nat.le_of_ble_eq_true rfl) dX5_copyTasksAndArrows_52 ⟨Nat.zero_le _, Nat.zero_le _⟩ (fun H locs hH => ?_)
  refine lv_aload_n hx hb0 dX5_copyTasksAndArrows_55 rfl (lv_at hl 0 rfl) ?_
  refine lv_aload_n hx hb0 dX5_copyTasksAndArrows_56 rfl (lv_at hl 1 rfl) ?_
  refine g_getI hx hb0 hts q_ws_X5 hown hX hH (C := RX5) (T := TX5) (N := 8) (k := p1) (i := 6) hp1.k rfl (by decide) (hts _ q_fl_X5_47) rfl rfl dX5_copyTasksAndArrows_57 ?_
  refine g_putI hx hb0 hts q_ws_X5 tyX5 tyX5_ok nmX5 hown hX hH (C := RX5) (T := TX5) (N := 8) (k := b) (i := 6) hb.k rfl (by decide) (hts _ q_fl_X5_47) rfl rfl rfl rfl dX5_copyTasksAndArrows_60 (fun H locs hH => ?_)
  refine lv_aload_n hx hb0 dX5_copyTasksAndArrows_63 rfl (lv_at hl 0 rfl) ?_
  refine lv_aload_n hx hb0 dX5_copyTasksAndArrows_64 rfl (lv_at hl 1 rfl) ?_
  refine g_getI hx hb0 hts q_ws_X5 hown hX hH (C := RX5) (T := TX5) (N := 8) (k := p1) (i := 7) hp1.k rfl (by decide) (hts _ q_fl_X5_51) rfl rfl dX5_copyTasksAndArrows_65 ?_
  refine g_putI hx hb0 hts q_ws_X5 tyX5 tyX5_ok nmX5 hown hX hH (C := RX5) (T := TX5) (N := 8) (k := b) (i := 7) hb.k rfl (by decide) (hts _ q_fl_X5_51) rfl rfl rfl rfl dX5_copyTasksAndArrows_68 (fun H locs hH => ?_)
  exact g_vretS hx hb0 hr hH hlocks dX5_copyTasksAndArrows_71 h
def DX5_copyAll (b : Nat) (p1 : Nat) (σ : gSt) : Option (gSt) :=
  (DX4_copy (b + 1) 4 (p1 + 1) 4 σ).bind fun q8 => (DX5_copyTasksAndArrows b p1 q8).bind fun q13 => some q13
set_option maxHeartbeats 4000000 in
set_option maxRecDepth 100000 in
theorem metX5_copyAll (l : Launch) (D : va_G) (G : gAd) (b : Nat) (p1 : Nat) (hb : gPlan b) (hp1 : gPlan p1) (σ : gSt) (μ : gLg) (σ' : gSt) (h : DX5_copyAll b p1 σ = some σ') : Met l yX5_copyAll (gWs yX5_copyAll cX5_copyAll 2 none) ({ frames := 2, cells := 0, slots := 0, locals := 43 } : Room) (gPc D G [.ref (G.1 b), .ref (G.1 p1)] σ μ) (gQv D G σ' μ) 0 0 (gA G) := by
  refine Met.ofW (cc := cX5_copyAll) (maxL := 2) (ret := none) (by decide) rfl ?_
  intro p e s m args below meth c s₁ B hml hv
  obtain ⟨rfl, hP, hX⟩ := hv
  have hx := B.exec
  have hb0 := B.bytes
  have hr := B.returns
  have hts0 := atoms_spec (ws := (gWs yX5_copyAll cX5_copyAll 2 none)) B.pre
  have hts : ∀ w ∈ gLW, w.before _ s = true := fun w hw => hts0 w (List.mem_cons_of_mem _ hw)
  have hown : s.vm.findClass RX5 = some m.cls := findClass_of_methodNamed B.named
  have hlocks := B.notSynchronized
  have hH : gH D G s s.heap [] σ μ := ⟨hP, va_S.rf⟩
  have hl := lv_entry ([.ref (G.1 b), .ref (G.1 p1)]) (n := 2) (Nat.le_of_ble_eq_true rfl)
  rw [lg_entry_eq]
  generalize (lg_sl ([.ref (G.1 b), .ref (G.1 p1)]) ++ List.replicate (2 - (lg_sl ([.ref (G.1 b), .ref (G.1 p1)])).length) Slot.unset).toArray = ls at hl ⊢
  have hl : lv_has ls 2 [(0, .ref (G.1 b)), (1, .ref (G.1 p1))] := hl
  unfold DX5_copyAll at h
  refine lv_aload_n hx hb0 dX5_copyAll_0 rfl (lv_at hl 0 rfl) ?_
  refine g_getR hx hb0 hts q_ws_X5 hown hX hH (C := RX5) (T := TX5) (N := 8) (k := b) (i := 0) (j := (b + 1)) hb.k rfl (by decide) (hts _ q_fl_X5_14) rfl rfl dX5_copyAll_1 ?_
  refine lv_aload_n hx hb0 dX5_copyAll_4 rfl (lv_at hl 1 rfl) ?_
  refine g_getR hx hb0 hts q_ws_X5 hown hX hH (C := RX5) (T := TX5) (N := 8) (k := p1) (i := 0) (j := (p1 + 1)) hp1.k rfl (by decide) (hts _ q_fl_X5_14) rfl rfl dX5_copyAll_5 ?_
  obtain ⟨q8, e8, h⟩ := gBind_some h
  refine g_callVv (k := (b + 1)) (T := TX4) (N := 1) (As := [.ref (G.1 (p1 + 1))]) (rest := []) ⟨hx, hb0, hml, hown, hts⟩ (metX4_copy l D G (b + 1) 4 (p1 + 1) 4 (hb.n0) (hp1.n0) σ μ q8 e8) (g_cwV (C := RX4) 1 hts q_ml_X5_86 q_im_X4_copy q_se_X4_copy q_in_X4 q_co_X4_copy ⟨rfl, rfl⟩ (by decide +kernel) ⟨Nat.le_of_ble_eq_true rfl, Nat.le_of_ble_eq_true rfl⟩) hX hH ((hb.n0)).1 rfl rfl hl.1 rfl (Nat.le_of_ble_eq_true rfl) dX5_copyAll_8 ⟨Nat.zero_le _, Nat.zero_le _⟩ (fun H locs hH => ?_)
  refine lv_aload_n hx hb0 dX5_copyAll_11 rfl (lv_at hl 0 rfl) ?_
  refine lv_aload_n hx hb0 dX5_copyAll_12 rfl (lv_at hl 1 rfl) ?_
  obtain ⟨q13, e13, h⟩ := gBind_some h
  refine g_callVv (k := b) (T := TX5) (N := 8) (As := [.ref (G.1 p1)]) (rest := []) ⟨hx, hb0, hml, hown, hts⟩ (metX5_copyTasksAndArrows l D G b p1 hb hp1 q8 μ q13 e13) (g_cwV (C := RX5) 1 hts q_ml_X5_90 q_im_X5_copyTasksAndArrows q_se_X5_copyTasksAndArrows q_in_X5 q_co_X5_copyTasksAndArrows ⟨rfl, rfl⟩ (by decide +kernel) ⟨Nat.le_of_ble_eq_true rfl, Nat.le_of_ble_eq_true rfl⟩) hX hH hb.k rfl rfl hl.1 rfl (Nat.le_of_ble_eq_true rfl) dX5_copyAll_13 ⟨Nat.zero_le _, Nat.zero_le _⟩ (fun H locs hH => ?_)
  exact g_vretS hx hb0 hr hH hlocks dX5_copyAll_16 h
def DX3_save_J39 (q15 : gSt) (t0_39 : Int) : Option (gSt) :=
  gIf (((gUp q15 27 1 t0_39) 27 2) < (4 : Int)) ((gUp q15 27 1 t0_39) 27 2) (4 : Int) (some (gUp (gUp q15 27 1 t0_39) 27 2 (((gUp q15 27 1 t0_39) 27 2) + (1 : Int)))) (some (gUp (gUp q15 27 1 t0_39) 27 2 (4 : Int)))
def DX3_save (p1 : Nat) (σ : gSt) : Option (gSt) :=
  (DX3_slot σ (σ 27 1)).bind fun q5 => gQs q5 fun j5 => (DX5_copyAll j5 p1 σ).bind fun q15 => gIf (((q15 27 1) + (1 : Int)) < (4 : Int)) ((q15 27 1) + (1 : Int)) (4 : Int) ((DX3_save_J39 q15 ((q15 27 1) + (1 : Int)))) ((DX3_save_J39 q15 (0 : Int)))
set_option maxHeartbeats 4000000 in
set_option maxRecDepth 100000 in
theorem metX3_save (l : Launch) (D : va_G) (G : gAd) (p1 : Nat) (hp1 : gPlan p1) (σ : gSt) (μ : gLg) (σ' : gSt) (h : DX3_save p1 σ = some σ') : Met l yX3_save (gWs yX3_save cX3_save 3 none) ({ frames := 3, cells := 0, slots := 0, locals := 64 } : Room) (gPc D G [.ref (G.1 27), .ref (G.1 p1)] σ μ) (gQv D G σ' μ) 0 0 (gA G) := by
  refine Met.ofW (cc := cX3_save) (maxL := 3) (ret := none) (by decide) rfl ?_
  intro p e s m args below meth c s₁ B hml hv
  obtain ⟨rfl, hP, hX⟩ := hv
  have hx := B.exec
  have hb0 := B.bytes
  have hr := B.returns
  have hts0 := atoms_spec (ws := (gWs yX3_save cX3_save 3 none)) B.pre
  have hts : ∀ w ∈ gLW, w.before _ s = true := fun w hw => hts0 w (List.mem_cons_of_mem _ hw)
  have hown : s.vm.findClass RX3 = some m.cls := findClass_of_methodNamed B.named
  have hlocks := B.notSynchronized
  have hH : gH D G s s.heap [] σ μ := ⟨hP, va_S.rf⟩
  have hl := lv_entry ([.ref (G.1 27), .ref (G.1 p1)]) (n := 3) (Nat.le_of_ble_eq_true rfl)
  rw [lg_entry_eq]
  generalize (lg_sl ([.ref (G.1 27), .ref (G.1 p1)]) ++ List.replicate (3 - (lg_sl ([.ref (G.1 27), .ref (G.1 p1)])).length) Slot.unset).toArray = ls at hl ⊢
  have hl : lv_has ls 3 [(0, .ref (G.1 27)), (1, .ref (G.1 p1))] := hl
  unfold DX3_save at h
  refine lv_aload_n hx hb0 dX3_save_0 rfl (lv_at hl 0 rfl) ?_
  refine lv_aload_n hx hb0 dX3_save_1 rfl (lv_at hl 0 rfl) ?_
  refine g_getI hx hb0 hts q_ws_X3 hown hX hH (C := RX3) (T := TX3) (N := 3) (k := 27) (i := 1) (rfl : gKinds[27]? = _) rfl (by decide) (hts _ q_fl_X3_22) rfl rfl dX3_save_2 ?_
  obtain ⟨q5, e5, h⟩ := gBind_some h
  obtain ⟨j5, hj5, hqs, hn⟩ := gQs_some h
  clear h
  subst hqs
  have h := hn
  refine g_callVqs (j := j5) (k := 27) (T := TX3) (N := 3) (As := [.int (gI (σ 27 1))]) (rest := []) ⟨hx, hb0, hml, hown, hts⟩ (metX3_slot l D G σ μ (σ 27 1) (some j5) e5) (g_cwV (C := RX3) 1 hts q_ml_X3_25 q_im_X3_slot q_se_X3_slot q_in_X3 q_co_X3_slot ⟨rfl, rfl⟩ (by decide +kernel) ⟨Nat.le_of_ble_eq_true rfl, Nat.le_of_ble_eq_true rfl⟩) hX hH (rfl : gKinds[27]? = _) rfl rfl hl.1 rfl (Nat.le_of_ble_eq_true rfl) dX3_save_5 ⟨Nat.zero_le _, Nat.zero_le _⟩ (fun H locs hH => ?_)
  refine lv_astore_n (lv' := [(2, .ref (G.1 j5)), (0, .ref (G.1 27)), (1, .ref (G.1 p1))]) hx hb0 dX3_save_8 rfl hl (by decide) rfl (fun ls hl => ?_)
  refine lv_aload_n hx hb0 dX3_save_9 rfl (lv_at hl 0 rfl) ?_
  refine lv_ifnull hx hb0 dX3_save_10 ?_
  refine lv_aload_n hx hb0 dX3_save_13 rfl (lv_at hl 0 rfl) ?_
  refine lv_aload_n hx hb0 dX3_save_14 rfl (lv_at hl 2 rfl) ?_
  obtain ⟨q15, e15, h⟩ := gBind_some h
  refine g_callVv (k := j5) (T := TX5) (N := 8) (As := [.ref (G.1 p1)]) (rest := []) ⟨hx, hb0, hml, hown, hts⟩ (metX5_copyAll l D G j5 p1 hj5 hp1 σ μ q15 e15) (g_cwV (C := RX5) 1 hts q_ml_X3_29 q_im_X5_copyAll q_se_X5_copyAll q_in_X5 q_co_X5_copyAll ⟨rfl, rfl⟩ (by decide +kernel) ⟨Nat.le_of_ble_eq_true rfl, Nat.le_of_ble_eq_true rfl⟩) hX hH hj5.k rfl rfl hl.1 rfl (Nat.le_of_ble_eq_true rfl) dX3_save_15 ⟨Nat.zero_le _, Nat.zero_le _⟩ (fun H locs hH => ?_)
  refine lv_aload_n hx hb0 dX3_save_18 rfl (lv_at hl 1 rfl) ?_
  refine lv_aload_n hx hb0 dX3_save_19 rfl (lv_at hl 1 rfl) ?_
  refine g_getI hx hb0 hts q_ws_X3 hown hX hH (C := RX3) (T := TX3) (N := 3) (k := 27) (i := 1) (rfl : gKinds[27]? = _) rfl (by decide) (hts _ q_fl_X3_22) rfl rfl dX3_save_20 ?_
  refine lv_iconst (v := gI (1 : Int)) hx hb0 dX3_save_23 (by decide) ?_
  refine g_iadd hx hb0 dX3_save_24 ?_
  refine lv_iconst (v := gI (4 : Int)) hx hb0 dX3_save_25 (by decide) ?_
  have hJ39 : ∀ (t0_39 : Int) (H : Heap) (locs : List Loc) (ls : Array Slot), gH D G s H locs q15 μ → lv_has ls 3 [(0, .ref (G.1 27))] → (DX3_save_J39 q15 t0_39) = some σ' → W p l e (headSpec (gWs yX3_save cX3_save 3 none) ({ frames := 3, cells := 0, slots := 0, locals := 64 } : Room)).room s m ([.ref (G.1 27), .ref (G.1 p1)] : List Value).toArray below meth c H locs 0 0 (MQ below (gQv D G σ' μ) ([.ref (G.1 27), .ref (G.1 p1)] : List Value).toArray s 0 0 (gA G)) (F0 m 39 ls [.int (gI t0_39), .ref (G.1 27)]) := by
    intro t0_39 H locs ls hH hl h
    unfold DX3_save_J39 at h
    refine g_putI hx hb0 hts q_ws_X3 tyX3 tyX3_ok nmX3 hown hX hH (C := RX3) (T := TX3) (N := 3) (k := 27) (i := 1) (rfl : gKinds[27]? = _) rfl (by decide) (hts _ q_fl_X3_22) rfl rfl rfl rfl dX3_save_39 (fun H locs hH => ?_)
    refine lv_aload_n hx hb0 dX3_save_42 rfl (lv_at hl 0 rfl) ?_
    refine lv_aload_n hx hb0 dX3_save_43 rfl (lv_at hl 0 rfl) ?_
    refine g_getI hx hb0 hts q_ws_X3 hown hX hH (C := RX3) (T := TX3) (N := 3) (k := 27) (i := 2) (rfl : gKinds[27]? = _) rfl (by decide) (hts _ q_fl_X3_18) rfl rfl dX3_save_44 ?_
    refine lv_iconst (v := gI (4 : Int)) hx hb0 dX3_save_47 (by decide) ?_
    refine g_icmp_ge (tgt := 60) hx hb0 dX3_save_48 (by decide) h (fun h => ?_) (fun h => ?_)
    · refine lv_iconst (v := gI (4 : Int)) hx hb0 dX3_save_60 (by decide) ?_
      refine g_putI hx hb0 hts q_ws_X3 tyX3 tyX3_ok nmX3 hown hX hH (C := RX3) (T := TX3) (N := 3) (k := 27) (i := 2) (rfl : gKinds[27]? = _) rfl (by decide) (hts _ q_fl_X3_18) rfl rfl rfl rfl dX3_save_61 (fun H locs hH => ?_)
      exact g_vretS hx hb0 hr hH hlocks dX3_save_64 h
    · refine lv_aload_n hx hb0 dX3_save_51 rfl (lv_at hl 0 rfl) ?_
      refine g_getI hx hb0 hts q_ws_X3 hown hX hH (C := RX3) (T := TX3) (N := 3) (k := 27) (i := 2) (rfl : gKinds[27]? = _) rfl (by decide) (hts _ q_fl_X3_18) rfl rfl dX3_save_52 ?_
      refine lv_iconst (v := gI (1 : Int)) hx hb0 dX3_save_55 (by decide) ?_
      refine g_iadd hx hb0 dX3_save_56 ?_
      refine lv_goto (tgt := 61) hx hb0 dX3_save_57 (by decide) ?_
      refine g_putI hx hb0 hts q_ws_X3 tyX3 tyX3_ok nmX3 hown hX hH (C := RX3) (T := TX3) (N := 3) (k := 27) (i := 2) (rfl : gKinds[27]? = _) rfl (by decide) (hts _ q_fl_X3_18) rfl rfl rfl rfl dX3_save_61 (fun H locs hH => ?_)
      exact g_vretS hx hb0 hr hH hlocks dX3_save_64 h
  refine g_icmp_ge (tgt := 38) hx hb0 dX3_save_26 (by decide) h (fun h => ?_) (fun h => ?_)
  · refine lv_iconst (v := gI (0 : Int)) hx hb0 dX3_save_38 (by decide) ?_
    exact hJ39 _ _ _ _ hH (lv_sub hl [1] rfl) h
  · refine lv_aload_n hx hb0 dX3_save_29 rfl (lv_at hl 1 rfl) ?_
    refine g_getI hx hb0 hts q_ws_X3 hown hX hH (C := RX3) (T := TX3) (N := 3) (k := 27) (i := 1) (rfl : gKinds[27]? = _) rfl (by decide) (hts _ q_fl_X3_22) rfl rfl dX3_save_30 ?_
    refine lv_iconst (v := gI (1 : Int)) hx hb0 dX3_save_33 (by decide) ?_
    refine g_iadd hx hb0 dX3_save_34 ?_
    refine lv_goto (tgt := 39) hx hb0 dX3_save_35 (by decide) ?_
    exact hJ39 _ _ _ _ hH (lv_sub hl [1] rfl) h
def DX4_at (n : Nat) (len : Nat) (σ : gSt) (a1 : Int) : Option (Int) :=
  gIf (a1 < (0 : Int)) a1 (0 : Int) (some (-1 : Int)) (gIf (a1 < ((len : Nat) : Int)) a1 ((len : Nat) : Int) (gAt a1 len (some (σ (n + 1) (Int.toNat a1)))) (some (-1 : Int)))
set_option maxHeartbeats 4000000 in
set_option maxRecDepth 100000 in
theorem metX4_at (l : Launch) (D : va_G) (G : gAd) (n : Nat) (len : Nat) (hk : gNum n len) (σ : gSt) (μ : gLg) (a1 : Int) (r : Int) (h : DX4_at n len σ a1 = some r) : Met l yX4_at (gWs yX4_at cX4_at 2 (some (Jvm.ClassFile.FieldType.int))) ({ frames := 0, cells := 0, slots := 0, locals := 0 } : Room) (gPc D G [.ref (G.1 n), .int (gI a1)] σ μ) (gQi D G r σ μ) 0 0 (gA G) := by
  refine Met.ofW (cc := cX4_at) (maxL := 2) (ret := (some (Jvm.ClassFile.FieldType.int))) (by decide) rfl ?_
  intro p e s m args below meth c s₁ B hml hv
  obtain ⟨rfl, hP, hX⟩ := hv
  have hx := B.exec
  have hb0 := B.bytes
  have hr := B.returns
  have hts0 := atoms_spec (ws := (gWs yX4_at cX4_at 2 (some (Jvm.ClassFile.FieldType.int)))) B.pre
  have hts : ∀ w ∈ gLW, w.before _ s = true := fun w hw => hts0 w (List.mem_cons_of_mem _ hw)
  have hown : s.vm.findClass RX4 = some m.cls := findClass_of_methodNamed B.named
  have hlocks := B.notSynchronized
  have hH : gH D G s s.heap [] σ μ := ⟨hP, va_S.rf⟩
  have hl := lv_entry ([.ref (G.1 n), .int (gI a1)]) (n := 2) (Nat.le_of_ble_eq_true rfl)
  rw [lg_entry_eq]
  generalize (lg_sl ([.ref (G.1 n), .int (gI a1)]) ++ List.replicate (2 - (lg_sl ([.ref (G.1 n), .int (gI a1)])).length) Slot.unset).toArray = ls at hl ⊢
  have hl : lv_has ls 2 [(0, .ref (G.1 n)), (1, .int (gI a1))] := hl
  unfold DX4_at at h
  refine lv_iload_n hx hb0 dX4_at_0 rfl (lv_at hl 1 rfl) ?_
  refine g_if_lt (tgt := 22) hx hb0 dX4_at_1 (by decide) h (fun h => ?_) (fun h => ?_)
  · refine lv_iconst (v := gI (-1 : Int)) hx hb0 dX4_at_22 (by decide) ?_
    exact g_iretP hx hb0 hr hH hlocks dX4_at_23 h
  · refine lv_iload_n hx hb0 dX4_at_4 rfl (lv_at hl 1 rfl) ?_
    refine lv_aload_n hx hb0 dX4_at_5 rfl (lv_at hl 0 rfl) ?_
    refine g_getR hx hb0 hts q_ws_X4 hown hX hH (C := RX4) (T := TX4) (N := 1) (k := n) (i := 0) (j := (n + 1)) (hk).1 rfl (by decide) (hts _ q_fl_X4_9) rfl rfl dX4_at_6 ?_
    refine g_alen hx hb0 hX hH (k := (n + 1)) (hk).2.1 dX4_at_9 ?_
    refine g_icmp_ge (tgt := 22) hx hb0 dX4_at_10 (by decide) h (fun h => ?_) (fun h => ?_)
    · refine lv_iconst (v := gI (-1 : Int)) hx hb0 dX4_at_22 (by decide) ?_
      exact g_iretP hx hb0 hr hH hlocks dX4_at_23 h
    · refine lv_aload_n hx hb0 dX4_at_13 rfl (lv_at hl 0 rfl) ?_
      refine g_getR hx hb0 hts q_ws_X4 hown hX hH (C := RX4) (T := TX4) (N := 1) (k := n) (i := 0) (j := (n + 1)) (hk).1 rfl (by decide) (hts _ q_fl_X4_9) rfl rfl dX4_at_14 ?_
      refine lv_iload_n hx hb0 dX4_at_17 rfl (lv_at hl 1 rfl) ?_
      refine g_iald hx hb0 hX hH (k := (n + 1)) (hk).2.1 (Nat.le_trans (hk).2.2 (by decide)) dX4_at_18 h (fun h => ?_)
      refine lv_goto (tgt := 23) hx hb0 dX4_at_19 (by decide) ?_
      exact g_iretP hx hb0 hr hH hlocks dX4_at_23 h
def DX5_setting (b : Nat) (σ : gSt) (a1 : Int) : Option (Int) :=
  (DX4_at (b + 1) 4 σ a1).bind fun q5 => some q5
set_option maxHeartbeats 4000000 in
set_option maxRecDepth 100000 in
theorem metX5_setting (l : Launch) (D : va_G) (G : gAd) (b : Nat) (hb : gPlan b) (σ : gSt) (μ : gLg) (a1 : Int) (r : Int) (h : DX5_setting b σ a1 = some r) : Met l yX5_setting (gWs yX5_setting cX5_setting 2 (some (Jvm.ClassFile.FieldType.int))) ({ frames := 1, cells := 0, slots := 0, locals := 21 } : Room) (gPc D G [.ref (G.1 b), .int (gI a1)] σ μ) (gQi D G r σ μ) 0 0 (gA G) := by
  refine Met.ofW (cc := cX5_setting) (maxL := 2) (ret := (some (Jvm.ClassFile.FieldType.int))) (by decide) rfl ?_
  intro p e s m args below meth c s₁ B hml hv
  obtain ⟨rfl, hP, hX⟩ := hv
  have hx := B.exec
  have hb0 := B.bytes
  have hr := B.returns
  have hts0 := atoms_spec (ws := (gWs yX5_setting cX5_setting 2 (some (Jvm.ClassFile.FieldType.int)))) B.pre
  have hts : ∀ w ∈ gLW, w.before _ s = true := fun w hw => hts0 w (List.mem_cons_of_mem _ hw)
  have hown : s.vm.findClass RX5 = some m.cls := findClass_of_methodNamed B.named
  have hlocks := B.notSynchronized
  have hH : gH D G s s.heap [] σ μ := ⟨hP, va_S.rf⟩
  have hl := lv_entry ([.ref (G.1 b), .int (gI a1)]) (n := 2) (Nat.le_of_ble_eq_true rfl)
  rw [lg_entry_eq]
  generalize (lg_sl ([.ref (G.1 b), .int (gI a1)]) ++ List.replicate (2 - (lg_sl ([.ref (G.1 b), .int (gI a1)])).length) Slot.unset).toArray = ls at hl ⊢
  have hl : lv_has ls 2 [(0, .ref (G.1 b)), (1, .int (gI a1))] := hl
  unfold DX5_setting at h
  refine lv_aload_n hx hb0 dX5_setting_0 rfl (lv_at hl 0 rfl) ?_
  refine g_getR hx hb0 hts q_ws_X5 hown hX hH (C := RX5) (T := TX5) (N := 8) (k := b) (i := 0) (j := (b + 1)) hb.k rfl (by decide) (hts _ q_fl_X5_14) rfl rfl dX5_setting_1 ?_
  refine lv_iload_n hx hb0 dX5_setting_4 rfl (lv_at hl 1 rfl) ?_
  obtain ⟨q5, e5, h⟩ := gBind_some h
  refine g_callVi (k := (b + 1)) (T := TX4) (N := 1) (As := [.int (gI a1)]) (rest := []) ⟨hx, hb0, hml, hown, hts⟩ (metX4_at l D G (b + 1) 4 (hb.n0) σ μ a1 q5 e5) (g_cwV (C := RX4) 1 hts q_ml_X5_43 q_im_X4_at q_se_X4_at q_in_X4 q_co_X4_at ⟨rfl, rfl⟩ (by decide +kernel) ⟨Nat.le_of_ble_eq_true rfl, Nat.le_of_ble_eq_true rfl⟩) hX hH ((hb.n0)).1 rfl rfl hl.1 rfl (Nat.le_of_ble_eq_true rfl) dX5_setting_5 ⟨Nat.zero_le _, Nat.zero_le _⟩ (fun H locs hH => ?_)
  exact g_iretP hx hb0 hr hH hlocks dX5_setting_8 h
def DX5_putSetting (b : Nat) (σ : gSt) (a1 : Int) (a2 : Int) : Option (gSt) :=
  (DX4_put (b + 1) 4 σ a1 a2).bind fun q6 => some q6
set_option maxHeartbeats 4000000 in
set_option maxRecDepth 100000 in
theorem metX5_putSetting (l : Launch) (D : va_G) (G : gAd) (b : Nat) (hb : gPlan b) (σ : gSt) (μ : gLg) (a1 : Int) (a2 : Int) (σ' : gSt) (h : DX5_putSetting b σ a1 a2 = some σ') : Met l yX5_putSetting (gWs yX5_putSetting cX5_putSetting 3 none) ({ frames := 1, cells := 0, slots := 0, locals := 22 } : Room) (gPc D G [.ref (G.1 b), .int (gI a1), .int (gI a2)] σ μ) (gQv D G σ' μ) 0 0 (gA G) := by
  refine Met.ofW (cc := cX5_putSetting) (maxL := 3) (ret := none) (by decide) rfl ?_
  intro p e s m args below meth c s₁ B hml hv
  obtain ⟨rfl, hP, hX⟩ := hv
  have hx := B.exec
  have hb0 := B.bytes
  have hr := B.returns
  have hts0 := atoms_spec (ws := (gWs yX5_putSetting cX5_putSetting 3 none)) B.pre
  have hts : ∀ w ∈ gLW, w.before _ s = true := fun w hw => hts0 w (List.mem_cons_of_mem _ hw)
  have hown : s.vm.findClass RX5 = some m.cls := findClass_of_methodNamed B.named
  have hlocks := B.notSynchronized
  have hH : gH D G s s.heap [] σ μ := ⟨hP, va_S.rf⟩
  have hl := lv_entry ([.ref (G.1 b), .int (gI a1), .int (gI a2)]) (n := 3) (Nat.le_of_ble_eq_true rfl)
  rw [lg_entry_eq]
  generalize (lg_sl ([.ref (G.1 b), .int (gI a1), .int (gI a2)]) ++ List.replicate (3 - (lg_sl ([.ref (G.1 b), .int (gI a1), .int (gI a2)])).length) Slot.unset).toArray = ls at hl ⊢
  have hl : lv_has ls 3 [(0, .ref (G.1 b)), (1, .int (gI a1)), (2, .int (gI a2))] := hl
  unfold DX5_putSetting at h
  refine lv_aload_n hx hb0 dX5_putSetting_0 rfl (lv_at hl 0 rfl) ?_
  refine g_getR hx hb0 hts q_ws_X5 hown hX hH (C := RX5) (T := TX5) (N := 8) (k := b) (i := 0) (j := (b + 1)) hb.k rfl (by decide) (hts _ q_fl_X5_14) rfl rfl dX5_putSetting_1 ?_
  refine lv_iload_n hx hb0 dX5_putSetting_4 rfl (lv_at hl 1 rfl) ?_
  refine lv_iload_n hx hb0 dX5_putSetting_5 rfl (lv_at hl 2 rfl) ?_
  obtain ⟨q6, e6, h⟩ := gBind_some h
  refine g_callVv (k := (b + 1)) (T := TX4) (N := 1) (As := [.int (gI a1), .int (gI a2)]) (rest := []) ⟨hx, hb0, hml, hown, hts⟩ (metX4_put l D G (b + 1) 4 (hb.n0) σ μ a1 a2 q6 e6) (g_cwV (C := RX4) 2 hts q_ml_X5_39 q_im_X4_put q_se_X4_put q_in_X4 q_co_X4_put ⟨rfl, rfl⟩ (by decide +kernel) ⟨Nat.le_of_ble_eq_true rfl, Nat.le_of_ble_eq_true rfl⟩) hX hH ((hb.n0)).1 rfl rfl hl.1 rfl (Nat.le_of_ble_eq_true rfl) dX5_putSetting_6 ⟨Nat.zero_le _, Nat.zero_le _⟩ (fun H locs hH => ?_)
  exact g_vretS hx hb0 hr hH hlocks dX5_putSetting_9 h
def DX5_taskCount (b : Nat) (σ : gSt) : Option (Int) :=
  some (σ b 6)
set_option maxHeartbeats 4000000 in
set_option maxRecDepth 100000 in
theorem metX5_taskCount (l : Launch) (D : va_G) (G : gAd) (b : Nat) (hb : gPlan b) (σ : gSt) (μ : gLg) (r : Int) (h : DX5_taskCount b σ = some r) : Met l yX5_taskCount (gWs yX5_taskCount cX5_taskCount 1 (some (Jvm.ClassFile.FieldType.int))) ({ frames := 0, cells := 0, slots := 0, locals := 0 } : Room) (gPc D G [.ref (G.1 b)] σ μ) (gQi D G r σ μ) 0 0 (gA G) := by
  refine Met.ofW (cc := cX5_taskCount) (maxL := 1) (ret := (some (Jvm.ClassFile.FieldType.int))) (by decide) rfl ?_
  intro p e s m args below meth c s₁ B hml hv
  obtain ⟨rfl, hP, hX⟩ := hv
  have hx := B.exec
  have hb0 := B.bytes
  have hr := B.returns
  have hts0 := atoms_spec (ws := (gWs yX5_taskCount cX5_taskCount 1 (some (Jvm.ClassFile.FieldType.int)))) B.pre
  have hts : ∀ w ∈ gLW, w.before _ s = true := fun w hw => hts0 w (List.mem_cons_of_mem _ hw)
  have hown : s.vm.findClass RX5 = some m.cls := findClass_of_methodNamed B.named
  have hlocks := B.notSynchronized
  have hH : gH D G s s.heap [] σ μ := ⟨hP, va_S.rf⟩
  have hl := lv_entry ([.ref (G.1 b)]) (n := 1) (Nat.le_of_ble_eq_true rfl)
  rw [lg_entry_eq]
  generalize (lg_sl ([.ref (G.1 b)]) ++ List.replicate (1 - (lg_sl ([.ref (G.1 b)])).length) Slot.unset).toArray = ls at hl ⊢
  have hl : lv_has ls 1 [(0, .ref (G.1 b))] := hl
  unfold DX5_taskCount at h
  refine lv_aload_n hx hb0 dX5_taskCount_0 rfl (lv_at hl 0 rfl) ?_
  refine g_getI hx hb0 hts q_ws_X5 hown hX hH (C := RX5) (T := TX5) (N := 8) (k := b) (i := 6) hb.k rfl (by decide) (hts _ q_fl_X5_47) rfl rfl dX5_taskCount_1 ?_
  exact g_iretP hx hb0 hr hH hlocks dX5_taskCount_4 h
def DX5_group (b : Nat) (σ : gSt) (a1 : Int) : Option (Int) :=
  (DX4_at (b + 3) 24 σ a1).bind fun q5 => some q5
set_option maxHeartbeats 4000000 in
set_option maxRecDepth 100000 in
theorem metX5_group (l : Launch) (D : va_G) (G : gAd) (b : Nat) (hb : gPlan b) (σ : gSt) (μ : gLg) (a1 : Int) (r : Int) (h : DX5_group b σ a1 = some r) : Met l yX5_group (gWs yX5_group cX5_group 2 (some (Jvm.ClassFile.FieldType.int))) ({ frames := 1, cells := 0, slots := 0, locals := 21 } : Room) (gPc D G [.ref (G.1 b), .int (gI a1)] σ μ) (gQi D G r σ μ) 0 0 (gA G) := by
  refine Met.ofW (cc := cX5_group) (maxL := 2) (ret := (some (Jvm.ClassFile.FieldType.int))) (by decide) rfl ?_
  intro p e s m args below meth c s₁ B hml hv
  obtain ⟨rfl, hP, hX⟩ := hv
  have hx := B.exec
  have hb0 := B.bytes
  have hr := B.returns
  have hts0 := atoms_spec (ws := (gWs yX5_group cX5_group 2 (some (Jvm.ClassFile.FieldType.int)))) B.pre
  have hts : ∀ w ∈ gLW, w.before _ s = true := fun w hw => hts0 w (List.mem_cons_of_mem _ hw)
  have hown : s.vm.findClass RX5 = some m.cls := findClass_of_methodNamed B.named
  have hlocks := B.notSynchronized
  have hH : gH D G s s.heap [] σ μ := ⟨hP, va_S.rf⟩
  have hl := lv_entry ([.ref (G.1 b), .int (gI a1)]) (n := 2) (Nat.le_of_ble_eq_true rfl)
  rw [lg_entry_eq]
  generalize (lg_sl ([.ref (G.1 b), .int (gI a1)]) ++ List.replicate (2 - (lg_sl ([.ref (G.1 b), .int (gI a1)])).length) Slot.unset).toArray = ls at hl ⊢
  have hl : lv_has ls 2 [(0, .ref (G.1 b)), (1, .int (gI a1))] := hl
  unfold DX5_group at h
  refine lv_aload_n hx hb0 dX5_group_0 rfl (lv_at hl 0 rfl) ?_
  refine g_getR hx hb0 hts q_ws_X5 hown hX hH (C := RX5) (T := TX5) (N := 8) (k := b) (i := 1) (j := (b + 3)) hb.k rfl (by decide) (hts _ q_fl_X5_20) rfl rfl dX5_group_1 ?_
  refine lv_iload_n hx hb0 dX5_group_4 rfl (lv_at hl 1 rfl) ?_
  obtain ⟨q5, e5, h⟩ := gBind_some h
  refine g_callVi (k := (b + 3)) (T := TX4) (N := 1) (As := [.int (gI a1)]) (rest := []) ⟨hx, hb0, hml, hown, hts⟩ (metX4_at l D G (b + 3) 24 (hb.n1) σ μ a1 q5 e5) (g_cwV (C := RX4) 1 hts q_ml_X5_43 q_im_X4_at q_se_X4_at q_in_X4 q_co_X4_at ⟨rfl, rfl⟩ (by decide +kernel) ⟨Nat.le_of_ble_eq_true rfl, Nat.le_of_ble_eq_true rfl⟩) hX hH ((hb.n1)).1 rfl rfl hl.1 rfl (Nat.le_of_ble_eq_true rfl) dX5_group_5 ⟨Nat.zero_le _, Nat.zero_le _⟩ (fun H locs hH => ?_)
  exact g_iretP hx hb0 hr hH hlocks dX5_group_8 h
def DX5_first (b : Nat) (σ : gSt) (a1 : Int) : Option (Int) :=
  (DX4_at (b + 5) 24 σ a1).bind fun q5 => some q5
set_option maxHeartbeats 4000000 in
set_option maxRecDepth 100000 in
theorem metX5_first (l : Launch) (D : va_G) (G : gAd) (b : Nat) (hb : gPlan b) (σ : gSt) (μ : gLg) (a1 : Int) (r : Int) (h : DX5_first b σ a1 = some r) : Met l yX5_first (gWs yX5_first cX5_first 2 (some (Jvm.ClassFile.FieldType.int))) ({ frames := 1, cells := 0, slots := 0, locals := 21 } : Room) (gPc D G [.ref (G.1 b), .int (gI a1)] σ μ) (gQi D G r σ μ) 0 0 (gA G) := by
  refine Met.ofW (cc := cX5_first) (maxL := 2) (ret := (some (Jvm.ClassFile.FieldType.int))) (by decide) rfl ?_
  intro p e s m args below meth c s₁ B hml hv
  obtain ⟨rfl, hP, hX⟩ := hv
  have hx := B.exec
  have hb0 := B.bytes
  have hr := B.returns
  have hts0 := atoms_spec (ws := (gWs yX5_first cX5_first 2 (some (Jvm.ClassFile.FieldType.int)))) B.pre
  have hts : ∀ w ∈ gLW, w.before _ s = true := fun w hw => hts0 w (List.mem_cons_of_mem _ hw)
  have hown : s.vm.findClass RX5 = some m.cls := findClass_of_methodNamed B.named
  have hlocks := B.notSynchronized
  have hH : gH D G s s.heap [] σ μ := ⟨hP, va_S.rf⟩
  have hl := lv_entry ([.ref (G.1 b), .int (gI a1)]) (n := 2) (Nat.le_of_ble_eq_true rfl)
  rw [lg_entry_eq]
  generalize (lg_sl ([.ref (G.1 b), .int (gI a1)]) ++ List.replicate (2 - (lg_sl ([.ref (G.1 b), .int (gI a1)])).length) Slot.unset).toArray = ls at hl ⊢
  have hl : lv_has ls 2 [(0, .ref (G.1 b)), (1, .int (gI a1))] := hl
  unfold DX5_first at h
  refine lv_aload_n hx hb0 dX5_first_0 rfl (lv_at hl 0 rfl) ?_
  refine g_getR hx hb0 hts q_ws_X5 hown hX hH (C := RX5) (T := TX5) (N := 8) (k := b) (i := 2) (j := (b + 5)) hb.k rfl (by decide) (hts _ q_fl_X5_23) rfl rfl dX5_first_1 ?_
  refine lv_iload_n hx hb0 dX5_first_4 rfl (lv_at hl 1 rfl) ?_
  obtain ⟨q5, e5, h⟩ := gBind_some h
  refine g_callVi (k := (b + 5)) (T := TX4) (N := 1) (As := [.int (gI a1)]) (rest := []) ⟨hx, hb0, hml, hown, hts⟩ (metX4_at l D G (b + 5) 24 (hb.n2) σ μ a1 q5 e5) (g_cwV (C := RX4) 1 hts q_ml_X5_43 q_im_X4_at q_se_X4_at q_in_X4 q_co_X4_at ⟨rfl, rfl⟩ (by decide +kernel) ⟨Nat.le_of_ble_eq_true rfl, Nat.le_of_ble_eq_true rfl⟩) hX hH ((hb.n2)).1 rfl rfl hl.1 rfl (Nat.le_of_ble_eq_true rfl) dX5_first_5 ⟨Nat.zero_le _, Nat.zero_le _⟩ (fun H locs hH => ?_)
  exact g_iretP hx hb0 hr hH hlocks dX5_first_8 h
def DX0_insert_K55 (b : Nat) (a2 : Int) (x3_55 : Int) (σ55 : gSt) : Option (gSt) :=
  (DX4_put (b + 7) 24 σ55 x3_55 a2).bind fun q61 => some (gUp q61 b 4 ((q61 b 4) + (1 : Int)))
def DX0_insert_L5 (K55 : Int → gSt → Option (gSt)) (b : Nat) (p1 : Nat) (a2 : Int) : Nat → Int → gSt → Option (gSt)
  | 0, _, _ => none
  | f5 + 1, x3_5, σ5 => gIf ((0 : Int) < x3_5) x3_5 (0 : Int) ((DX4_at (b + 7) 24 σ5 (x3_5 - (1 : Int))).bind fun q17 => (DX5_first p1 σ5 q17).bind fun q20 => (DX5_first p1 σ5 a2).bind fun q25 => gIf (q25 < q20) q20 q25 ((DX4_at (b + 7) 24 σ5 (x3_5 - (1 : Int))).bind fun q43 => (DX4_put (b + 7) 24 σ5 x3_5 q43).bind fun q46 => ((DX0_insert_L5 K55 b p1 a2 f5) (x3_5 + (-1 : Int)) q46)) ((K55 x3_5 σ5))) ((K55 x3_5 σ5))
def DX0_insert (b : Nat) (p1 : Nat) (σ : gSt) (a2 : Int) : Option (gSt) :=
  (DX0_insert_L5 (DX0_insert_K55 b a2) b p1 a2 gFuel (σ b 4) σ)
set_option maxHeartbeats 4000000 in
set_option maxRecDepth 100000 in
theorem metX0_insert (l : Launch) (D : va_G) (G : gAd) (b : Nat) (p1 : Nat) (hb : gBands b) (hp1 : gPlan p1) (σ : gSt) (μ : gLg) (a2 : Int) (σ' : gSt) (h : DX0_insert b p1 σ a2 = some σ') : Met l yX0_insert (gWs yX0_insert cX0_insert 4 none) ({ frames := 2, cells := 0, slots := 0, locals := 42 } : Room) (gPc D G [.ref (G.1 b), .ref (G.1 p1), .int (gI a2)] σ μ) (gQv D G σ' μ) 0 0 (gA G) := by
  refine Met.ofW (cc := cX0_insert) (maxL := 4) (ret := none) (by decide) rfl ?_
  intro p e s m args below meth c s₁ B hml hv
  obtain ⟨rfl, hP, hX⟩ := hv
  have hx := B.exec
  have hb0 := B.bytes
  have hr := B.returns
  have hts0 := atoms_spec (ws := (gWs yX0_insert cX0_insert 4 none)) B.pre
  have hts : ∀ w ∈ gLW, w.before _ s = true := fun w hw => hts0 w (List.mem_cons_of_mem _ hw)
  have hown : s.vm.findClass RX0 = some m.cls := findClass_of_methodNamed B.named
  have hlocks := B.notSynchronized
  have hH : gH D G s s.heap [] σ μ := ⟨hP, va_S.rf⟩
  have hl := lv_entry ([.ref (G.1 b), .ref (G.1 p1), .int (gI a2)]) (n := 4) (Nat.le_of_ble_eq_true rfl)
  rw [lg_entry_eq]
  generalize (lg_sl ([.ref (G.1 b), .ref (G.1 p1), .int (gI a2)]) ++ List.replicate (4 - (lg_sl ([.ref (G.1 b), .ref (G.1 p1), .int (gI a2)])).length) Slot.unset).toArray = ls at hl ⊢
  have hl : lv_has ls 4 [(0, .ref (G.1 b)), (1, .ref (G.1 p1)), (2, .int (gI a2))] := hl
  unfold DX0_insert at h
  refine lv_aload_n hx hb0 dX0_insert_0 rfl (lv_at hl 0 rfl) ?_
  refine g_getI hx hb0 hts q_ws_X0 hown hX hH (C := RX0) (T := TX0) (N := 8) (k := b) (i := 4) hb.k rfl (by decide) (hts _ q_fl_X0_47) rfl rfl dX0_insert_1 ?_
  refine lv_istore_n (lv' := [(3, .int (gI (σ b 4))), (0, .ref (G.1 b)), (1, .ref (G.1 p1)), (2, .int (gI a2))]) hx hb0 dX0_insert_4 rfl hl (by decide) rfl (fun ls hl => ?_)
  have hK55 : ∀ (x3_55 : Int) (σ55 : gSt) (H : Heap) (locs : List Loc) (ls : Array Slot), gH D G s H locs σ55 μ → lv_has ls 4 [(3, .int (gI x3_55)), (0, .ref (G.1 b)), (2, .int (gI a2))] → (DX0_insert_K55 b a2 x3_55 σ55) = some σ' → W p l e (headSpec (gWs yX0_insert cX0_insert 4 none) ({ frames := 2, cells := 0, slots := 0, locals := 42 } : Room)).room s m ([.ref (G.1 b), .ref (G.1 p1), .int (gI a2)] : List Value).toArray below meth c H locs 0 0 (MQ below (gQv D G σ' μ) ([.ref (G.1 b), .ref (G.1 p1), .int (gI a2)] : List Value).toArray s 0 0 (gA G)) (F0 m 55 ls []) := by
    intro x3_55 σ55 H locs ls hH hl h
    unfold DX0_insert_K55 at h
    refine lv_aload_n hx hb0 dX0_insert_55 rfl (lv_at hl 1 rfl) ?_
    refine g_getR hx hb0 hts q_ws_X0 hown hX hH (C := RX0) (T := TX0) (N := 8) (k := b) (i := 3) (j := (b + 7)) hb.k rfl (by decide) (hts _ q_fl_X0_26) rfl rfl dX0_insert_56 ?_
    refine lv_iload_n hx hb0 dX0_insert_59 rfl (lv_at hl 0 rfl) ?_
    refine lv_iload_n hx hb0 dX0_insert_60 rfl (lv_at hl 2 rfl) ?_
    obtain ⟨q61, e61, h⟩ := gBind_some h
    refine g_callVv (k := (b + 7)) (T := TX4) (N := 1) (As := [.int (gI x3_55), .int (gI a2)]) (rest := []) ⟨hx, hb0, hml, hown, hts⟩ (metX4_put l D G (b + 7) 24 (hb.n3) σ55 μ x3_55 a2 q61 e61) (g_cwV (C := RX4) 2 hts q_ml_X0_72 q_im_X4_put q_se_X4_put q_in_X4 q_co_X4_put ⟨rfl, rfl⟩ (by decide +kernel) ⟨Nat.le_of_ble_eq_true rfl, Nat.le_of_ble_eq_true rfl⟩) hX hH ((hb.n3)).1 rfl rfl hl.1 rfl (Nat.le_of_ble_eq_true rfl) dX0_insert_61 ⟨Nat.zero_le _, Nat.zero_le _⟩ (fun H locs hH => ?_)
    refine lv_aload_n hx hb0 dX0_insert_64 rfl (lv_at hl 1 rfl) ?_
    refine lv_dup hx hb0 dX0_insert_65 rfl ?_
    refine g_getI hx hb0 hts q_ws_X0 hown hX hH (C := RX0) (T := TX0) (N := 8) (k := b) (i := 4) hb.k rfl (by decide) (hts _ q_fl_X0_47) rfl rfl dX0_insert_66 ?_
    refine lv_iconst (v := gI (1 : Int)) hx hb0 dX0_insert_69 (by decide) ?_
    refine g_iadd hx hb0 dX0_insert_70 ?_
    refine g_putI hx hb0 hts q_ws_X0 tyX0 tyX0_ok nmX0 hown hX hH (C := RX0) (T := TX0) (N := 8) (k := b) (i := 4) hb.k rfl (by decide) (hts _ q_fl_X0_47) rfl rfl rfl rfl dX0_insert_71 (fun H locs hH => ?_)
    exact g_vretS hx hb0 hr hH hlocks dX0_insert_74 h
  have hL5 : ∀ (f5 : Nat) (x3_5 : Int) (σ5 : gSt) (H : Heap) (locs : List Loc) (ls : Array Slot), gH D G s H locs σ5 μ → lv_has ls 4 [(3, .int (gI x3_5)), (0, .ref (G.1 b)), (1, .ref (G.1 p1)), (2, .int (gI a2))] → (DX0_insert_L5 (DX0_insert_K55 b a2) b p1 a2 f5 x3_5 σ5) = some σ' → W p l e (headSpec (gWs yX0_insert cX0_insert 4 none) ({ frames := 2, cells := 0, slots := 0, locals := 42 } : Room)).room s m ([.ref (G.1 b), .ref (G.1 p1), .int (gI a2)] : List Value).toArray below meth c H locs 0 0 (MQ below (gQv D G σ' μ) ([.ref (G.1 b), .ref (G.1 p1), .int (gI a2)] : List Value).toArray s 0 0 (gA G)) (F0 m 5 ls []) := by
    intro f5
    induction f5 with
    | zero => intro x3_5 σ5 H locs ls hH hl h; cases h
    | succ f5 ih5 =>
      intro x3_5 σ5 H locs ls hH hl h
      unfold DX0_insert_L5 at h
      refine lv_iload_n hx hb0 dX0_insert_5 rfl (lv_at hl 0 rfl) ?_
      refine g_if_le (tgt := 55) hx hb0 dX0_insert_6 (by decide) h (fun h => ?_) (fun h => ?_)
      · exact hK55 _ _ _ _ _ hH (lv_sub hl [0, 1, 3] rfl) h
      · refine lv_aload_n hx hb0 dX0_insert_9 rfl (lv_at hl 2 rfl) ?_
        refine lv_aload_n hx hb0 dX0_insert_10 rfl (lv_at hl 1 rfl) ?_
        refine g_getR hx hb0 hts q_ws_X0 hown hX hH (C := RX0) (T := TX0) (N := 8) (k := b) (i := 3) (j := (b + 7)) hb.k rfl (by decide) (hts _ q_fl_X0_26) rfl rfl dX0_insert_11 ?_
        refine lv_iload_n hx hb0 dX0_insert_14 rfl (lv_at hl 0 rfl) ?_
        refine lv_iconst (v := gI (1 : Int)) hx hb0 dX0_insert_15 (by decide) ?_
        refine g_isub hx hb0 dX0_insert_16 ?_
        obtain ⟨q17, e17, h⟩ := gBind_some h
        refine g_callVi (k := (b + 7)) (T := TX4) (N := 1) (As := [.int (gI (x3_5 - (1 : Int)))]) (rest := [.ref (G.1 p1)]) ⟨hx, hb0, hml, hown, hts⟩ (metX4_at l D G (b + 7) 24 (hb.n3) σ5 μ (x3_5 - (1 : Int)) q17 e17) (g_cwV (C := RX4) 1 hts q_ml_X0_33 q_im_X4_at q_se_X4_at q_in_X4 q_co_X4_at ⟨rfl, rfl⟩ (by decide +kernel) ⟨Nat.le_of_ble_eq_true rfl, Nat.le_of_ble_eq_true rfl⟩) hX hH ((hb.n3)).1 rfl rfl hl.1 rfl (Nat.le_of_ble_eq_true rfl) dX0_insert_17 ⟨Nat.zero_le _, Nat.zero_le _⟩ (fun H locs hH => ?_)
        obtain ⟨q20, e20, h⟩ := gBind_some h
        refine g_callVi (k := p1) (T := TX5) (N := 8) (As := [.int (gI q17)]) (rest := []) ⟨hx, hb0, hml, hown, hts⟩ (metX5_first l D G p1 hp1 σ5 μ q17 q20 e20) (g_cwV (C := RX5) 1 hts q_ml_X0_69 q_im_X5_first q_se_X5_first q_in_X5 q_co_X5_first ⟨rfl, rfl⟩ (by decide +kernel) ⟨Nat.le_of_ble_eq_true rfl, Nat.le_of_ble_eq_true rfl⟩) hX hH hp1.k rfl rfl hl.1 rfl (Nat.le_of_ble_eq_true rfl) dX0_insert_20 ⟨Nat.zero_le _, Nat.zero_le _⟩ (fun H locs hH => ?_)
        refine lv_aload_n hx hb0 dX0_insert_23 rfl (lv_at hl 2 rfl) ?_
        refine lv_iload_n hx hb0 dX0_insert_24 rfl (lv_at hl 3 rfl) ?_
        obtain ⟨q25, e25, h⟩ := gBind_some h
        refine g_callVi (k := p1) (T := TX5) (N := 8) (As := [.int (gI a2)]) (rest := [.int (gI q20)]) ⟨hx, hb0, hml, hown, hts⟩ (metX5_first l D G p1 hp1 σ5 μ a2 q25 e25) (g_cwV (C := RX5) 1 hts q_ml_X0_69 q_im_X5_first q_se_X5_first q_in_X5 q_co_X5_first ⟨rfl, rfl⟩ (by decide +kernel) ⟨Nat.le_of_ble_eq_true rfl, Nat.le_of_ble_eq_true rfl⟩) hX hH hp1.k rfl rfl hl.1 rfl (Nat.le_of_ble_eq_true rfl) dX0_insert_25 ⟨Nat.zero_le _, Nat.zero_le _⟩ (fun H locs hH => ?_)
        refine g_icmp_le (tgt := 55) hx hb0 dX0_insert_28 (by decide) h (fun h => ?_) (fun h => ?_)
        · exact hK55 _ _ _ _ _ hH (lv_sub hl [0, 1, 3] rfl) h
        · refine lv_aload_n hx hb0 dX0_insert_31 rfl (lv_at hl 1 rfl) ?_
          refine g_getR hx hb0 hts q_ws_X0 hown hX hH (C := RX0) (T := TX0) (N := 8) (k := b) (i := 3) (j := (b + 7)) hb.k rfl (by decide) (hts _ q_fl_X0_26) rfl rfl dX0_insert_32 ?_
          refine lv_iload_n hx hb0 dX0_insert_35 rfl (lv_at hl 0 rfl) ?_
          refine lv_aload_n hx hb0 dX0_insert_36 rfl (lv_at hl 1 rfl) ?_
          refine g_getR hx hb0 hts q_ws_X0 hown hX hH (C := RX0) (T := TX0) (N := 8) (k := b) (i := 3) (j := (b + 7)) hb.k rfl (by decide) (hts _ q_fl_X0_26) rfl rfl dX0_insert_37 ?_
          refine lv_iload_n hx hb0 dX0_insert_40 rfl (lv_at hl 0 rfl) ?_
          refine lv_iconst (v := gI (1 : Int)) hx hb0 dX0_insert_41 (by decide) ?_
          refine g_isub hx hb0 dX0_insert_42 ?_
          obtain ⟨q43, e43, h⟩ := gBind_some h
          refine g_callVi (k := (b + 7)) (T := TX4) (N := 1) (As := [.int (gI (x3_5 - (1 : Int)))]) (rest := [.int (gI x3_5), .ref (G.1 (b + 7))]) ⟨hx, hb0, hml, hown, hts⟩ (metX4_at l D G (b + 7) 24 (hb.n3) σ5 μ (x3_5 - (1 : Int)) q43 e43) (g_cwV (C := RX4) 1 hts q_ml_X0_33 q_im_X4_at q_se_X4_at q_in_X4 q_co_X4_at ⟨rfl, rfl⟩ (by decide +kernel) ⟨Nat.le_of_ble_eq_true rfl, Nat.le_of_ble_eq_true rfl⟩) hX hH ((hb.n3)).1 rfl rfl hl.1 rfl (Nat.le_of_ble_eq_true rfl) dX0_insert_43 ⟨Nat.zero_le _, Nat.zero_le _⟩ (fun H locs hH => ?_)
          obtain ⟨q46, e46, h⟩ := gBind_some h
          refine g_callVv (k := (b + 7)) (T := TX4) (N := 1) (As := [.int (gI x3_5), .int (gI q43)]) (rest := []) ⟨hx, hb0, hml, hown, hts⟩ (metX4_put l D G (b + 7) 24 (hb.n3) σ5 μ x3_5 q43 q46 e46) (g_cwV (C := RX4) 2 hts q_ml_X0_72 q_im_X4_put q_se_X4_put q_in_X4 q_co_X4_put ⟨rfl, rfl⟩ (by decide +kernel) ⟨Nat.le_of_ble_eq_true rfl, Nat.le_of_ble_eq_true rfl⟩) hX hH ((hb.n3)).1 rfl rfl hl.1 rfl (Nat.le_of_ble_eq_true rfl) dX0_insert_46 ⟨Nat.zero_le _, Nat.zero_le _⟩ (fun H locs hH => ?_)
          refine g_iinc (k := 0) (n := (-1 : Int)) (lv' := [(3, .int (gI (x3_5 + (-1 : Int)))), (0, .ref (G.1 b)), (1, .ref (G.1 p1)), (2, .int (gI a2))]) hx hb0 dX0_insert_49 hl rfl (by decide) rfl (fun ls hl => ?_)
          refine lv_goto (tgt := 5) hx hb0 dX0_insert_52 (by decide) ?_
          exact ih5 _ _ _ _ _ hH (lv_sub hl [0, 1, 2, 3] rfl) h
  exact hL5 gFuel _ _ _ _ _ hH (lv_sub hl [0, 1, 2, 3] rfl) h
def DX0_gather_J30 (R7 : Int → gSt → Option (gSt)) (x3_7 : Int) (σ30 : gSt) : Option (gSt) :=
  (R7 (x3_7 + (1 : Int)) σ30)
def DX0_gather_L7 (b : Nat) (p1 : Nat) (a2 : Int) : Nat → Int → gSt → Option (gSt)
  | 0, _, _ => none
  | f7 + 1, x3_7, σ7 => (DX5_taskCount p1 σ7).bind fun q9 => gIf (x3_7 < q9) x3_7 q9 ((DX5_group p1 σ7 x3_7).bind fun q17 => gIf (q17 = a2) q17 a2 ((DX0_insert b p1 σ7 x3_7).bind fun q27 => (DX0_gather_J30 (DX0_gather_L7 b p1 a2 f7) x3_7 q27)) ((DX0_gather_J30 (DX0_gather_L7 b p1 a2 f7) x3_7 σ7))) (some σ7)
def DX0_gather (b : Nat) (p1 : Nat) (σ : gSt) (a2 : Int) : Option (gSt) :=
  (DX0_gather_L7 b p1 a2 gFuel (0 : Int) (gUp σ b 4 (0 : Int)))
set_option maxHeartbeats 4000000 in
set_option maxRecDepth 100000 in
theorem metX0_gather (l : Launch) (D : va_G) (G : gAd) (b : Nat) (p1 : Nat) (hb : gBands b) (hp1 : gPlan p1) (σ : gSt) (μ : gLg) (a2 : Int) (σ' : gSt) (h : DX0_gather b p1 σ a2 = some σ') : Met l yX0_gather (gWs yX0_gather cX0_gather 4 none) ({ frames := 3, cells := 0, slots := 0, locals := 65 } : Room) (gPc D G [.ref (G.1 b), .ref (G.1 p1), .int (gI a2)] σ μ) (gQv D G σ' μ) 0 0 (gA G) := by
  refine Met.ofW (cc := cX0_gather) (maxL := 4) (ret := none) (by decide) rfl ?_
  intro p e s m args below meth c s₁ B hml hv
  obtain ⟨rfl, hP, hX⟩ := hv
  have hx := B.exec
  have hb0 := B.bytes
  have hr := B.returns
  have hts0 := atoms_spec (ws := (gWs yX0_gather cX0_gather 4 none)) B.pre
  have hts : ∀ w ∈ gLW, w.before _ s = true := fun w hw => hts0 w (List.mem_cons_of_mem _ hw)
  have hown : s.vm.findClass RX0 = some m.cls := findClass_of_methodNamed B.named
  have hlocks := B.notSynchronized
  have hH : gH D G s s.heap [] σ μ := ⟨hP, va_S.rf⟩
  have hl := lv_entry ([.ref (G.1 b), .ref (G.1 p1), .int (gI a2)]) (n := 4) (Nat.le_of_ble_eq_true rfl)
  rw [lg_entry_eq]
  generalize (lg_sl ([.ref (G.1 b), .ref (G.1 p1), .int (gI a2)]) ++ List.replicate (4 - (lg_sl ([.ref (G.1 b), .ref (G.1 p1), .int (gI a2)])).length) Slot.unset).toArray = ls at hl ⊢
  have hl : lv_has ls 4 [(0, .ref (G.1 b)), (1, .ref (G.1 p1)), (2, .int (gI a2))] := hl
  unfold DX0_gather at h
  refine lv_aload_n hx hb0 dX0_gather_0 rfl (lv_at hl 0 rfl) ?_
  refine lv_iconst (v := gI (0 : Int)) hx hb0 dX0_gather_1 (by decide) ?_
  refine g_putI hx hb0 hts q_ws_X0 tyX0 tyX0_ok nmX0 hown hX hH (C := RX0) (T := TX0) (N := 8) (k := b) (i := 4) hb.k rfl (by decide) (hts _ q_fl_X0_47) rfl rfl rfl rfl dX0_gather_2 (fun H locs hH => ?_)
  refine lv_iconst (v := gI (0 : Int)) hx hb0 dX0_gather_5 (by decide) ?_
  refine lv_istore_n (lv' := [(3, .int (gI (0 : Int))), (0, .ref (G.1 b)), (1, .ref (G.1 p1)), (2, .int (gI a2))]) hx hb0 dX0_gather_6 rfl hl (by decide) rfl (fun ls hl => ?_)
  have hL7 : ∀ (f7 : Nat) (x3_7 : Int) (σ7 : gSt) (H : Heap) (locs : List Loc) (ls : Array Slot), gH D G s H locs σ7 μ → lv_has ls 4 [(3, .int (gI x3_7)), (0, .ref (G.1 b)), (1, .ref (G.1 p1)), (2, .int (gI a2))] → (DX0_gather_L7 b p1 a2 f7 x3_7 σ7) = some σ' → W p l e (headSpec (gWs yX0_gather cX0_gather 4 none) ({ frames := 3, cells := 0, slots := 0, locals := 65 } : Room)).room s m ([.ref (G.1 b), .ref (G.1 p1), .int (gI a2)] : List Value).toArray below meth c H locs 0 0 (MQ below (gQv D G σ' μ) ([.ref (G.1 b), .ref (G.1 p1), .int (gI a2)] : List Value).toArray s 0 0 (gA G)) (F0 m 7 ls []) := by
    intro f7
    induction f7 with
    | zero => intro x3_7 σ7 H locs ls hH hl h; cases h
    | succ f7 ih7 =>
      intro x3_7 σ7 H locs ls hH hl h
      unfold DX0_gather_L7 at h
      refine lv_iload_n hx hb0 dX0_gather_7 rfl (lv_at hl 0 rfl) ?_
      refine lv_aload_n hx hb0 dX0_gather_8 rfl (lv_at hl 2 rfl) ?_
      obtain ⟨q9, e9, h⟩ := gBind_some h
      refine g_callVi (k := p1) (T := TX5) (N := 8) (As := []) (rest := [.int (gI x3_7)]) ⟨hx, hb0, hml, hown, hts⟩ (metX5_taskCount l D G p1 hp1 σ7 μ q9 e9) (g_cwV (C := RX5) 0 hts q_ml_X0_59 q_im_X5_taskCount q_se_X5_taskCount q_in_X5 q_co_X5_taskCount ⟨rfl, rfl⟩ (by decide +kernel) ⟨Nat.le_of_ble_eq_true rfl, Nat.le_of_ble_eq_true rfl⟩) hX hH hp1.k rfl rfl hl.1 rfl (Nat.le_of_ble_eq_true rfl) dX0_gather_9 ⟨Nat.zero_le _, Nat.zero_le _⟩ (fun H locs hH => ?_)
      refine g_icmp_ge (tgt := 36) hx hb0 dX0_gather_12 (by decide) h (fun h => ?_) (fun h => ?_)
      · exact g_vretS hx hb0 hr hH hlocks dX0_gather_36 h
      · refine lv_aload_n hx hb0 dX0_gather_15 rfl (lv_at hl 2 rfl) ?_
        refine lv_iload_n hx hb0 dX0_gather_16 rfl (lv_at hl 0 rfl) ?_
        obtain ⟨q17, e17, h⟩ := gBind_some h
        refine g_callVi (k := p1) (T := TX5) (N := 8) (As := [.int (gI x3_7)]) (rest := []) ⟨hx, hb0, hml, hown, hts⟩ (metX5_group l D G p1 hp1 σ7 μ x3_7 q17 e17) (g_cwV (C := RX5) 1 hts q_ml_X0_63 q_im_X5_group q_se_X5_group q_in_X5 q_co_X5_group ⟨rfl, rfl⟩ (by decide +kernel) ⟨Nat.le_of_ble_eq_true rfl, Nat.le_of_ble_eq_true rfl⟩) hX hH hp1.k rfl rfl hl.1 rfl (Nat.le_of_ble_eq_true rfl) dX0_gather_17 ⟨Nat.zero_le _, Nat.zero_le _⟩ (fun H locs hH => ?_)
        refine lv_iload_n hx hb0 dX0_gather_20 rfl (lv_at hl 3 rfl) ?_
        have hJ30 : ∀ (σ30 : gSt) (H : Heap) (locs : List Loc) (ls : Array Slot), gH D G s H locs σ30 μ → lv_has ls 4 [(3, .int (gI x3_7)), (0, .ref (G.1 b)), (1, .ref (G.1 p1)), (2, .int (gI a2))] → (DX0_gather_J30 (DX0_gather_L7 b p1 a2 f7) x3_7 σ30) = some σ' → W p l e (headSpec (gWs yX0_gather cX0_gather 4 none) ({ frames := 3, cells := 0, slots := 0, locals := 65 } : Room)).room s m ([.ref (G.1 b), .ref (G.1 p1), .int (gI a2)] : List Value).toArray below meth c H locs 0 0 (MQ below (gQv D G σ' μ) ([.ref (G.1 b), .ref (G.1 p1), .int (gI a2)] : List Value).toArray s 0 0 (gA G)) (F0 m 30 ls []) := by
          intro σ30 H locs ls hH hl h
          unfold DX0_gather_J30 at h
          refine g_iinc (k := 0) (n := (1 : Int)) (lv' := [(3, .int (gI (x3_7 + (1 : Int)))), (0, .ref (G.1 b)), (1, .ref (G.1 p1)), (2, .int (gI a2))]) hx hb0 dX0_gather_30 hl rfl (by decide) rfl (fun ls hl => ?_)
          refine lv_goto (tgt := 7) hx hb0 dX0_gather_33 (by decide) ?_
          exact ih7 _ _ _ _ _ hH (lv_sub hl [0, 1, 2, 3] rfl) h
        refine g_icmp_ne (tgt := 30) hx hb0 dX0_gather_21 (by decide) h (fun h => ?_) (fun h => ?_)
        · exact hJ30 _ _ _ _ hH (lv_sub hl [0, 1, 2, 3] rfl) h
        · refine lv_aload_n hx hb0 dX0_gather_24 rfl (lv_at hl 1 rfl) ?_
          refine lv_aload_n hx hb0 dX0_gather_25 rfl (lv_at hl 2 rfl) ?_
          refine lv_iload_n hx hb0 dX0_gather_26 rfl (lv_at hl 0 rfl) ?_
          obtain ⟨q27, e27, h⟩ := gBind_some h
          refine g_callVv (k := b) (T := TX0) (N := 8) (As := [.ref (G.1 p1), .int (gI x3_7)]) (rest := []) ⟨hx, hb0, hml, hown, hts⟩ (metX0_insert l D G b p1 hb hp1 σ7 μ x3_7 q27 e27) (g_cwV (C := RX0) 2 hts q_ml_X0_66 q_im_X0_insert q_se_X0_insert q_in_X0 q_co_X0_insert ⟨rfl, rfl⟩ (by decide +kernel) ⟨Nat.le_of_ble_eq_true rfl, Nat.le_of_ble_eq_true rfl⟩) hX hH hb.k rfl rfl hl.1 rfl (Nat.le_of_ble_eq_true rfl) dX0_gather_27 ⟨Nat.zero_le _, Nat.zero_le _⟩ (fun H locs hH => ?_)
          exact hJ30 _ _ _ _ hH (lv_sub hl [0, 1, 2, 3] rfl) h
  exact hL7 gFuel _ _ _ _ _ hH (lv_sub hl [0, 1, 2, 3] rfl) h
def DX4_fill_L3 (n : Nat) (len : Nat) (a2 : Int) (a3 : Int) : Nat → Int → gSt → Option (gSt)
  | 0, _, _ => none
  | f3 + 1, x4_3, σ3 => gIf (x4_3 < (0 : Int)) x4_3 (0 : Int) (some σ3) (gIf (x4_3 < a2) x4_3 a2 (gIf (x4_3 < ((len : Nat) : Int)) x4_3 ((len : Nat) : Int) (gAt x4_3 len (((DX4_fill_L3 n len a2 a3 f3) (x4_3 + (1 : Int)) (gUp σ3 (n + 1) (Int.toNat x4_3) a3)))) (some σ3)) (some σ3))
def DX4_fill (n : Nat) (len : Nat) (σ : gSt) (a1 : Int) (a2 : Int) (a3 : Int) : Option (gSt) :=
  (DX4_fill_L3 n len a2 a3 gFuel a1 σ)
set_option maxHeartbeats 4000000 in
set_option maxRecDepth 100000 in
theorem metX4_fill (l : Launch) (D : va_G) (G : gAd) (n : Nat) (len : Nat) (hk : gNum n len) (σ : gSt) (μ : gLg) (a1 : Int) (a2 : Int) (a3 : Int) (σ' : gSt) (h : DX4_fill n len σ a1 a2 a3 = some σ') : Met l yX4_fill (gWs yX4_fill cX4_fill 5 none) ({ frames := 0, cells := 0, slots := 0, locals := 0 } : Room) (gPc D G [.ref (G.1 n), .int (gI a1), .int (gI a2), .int (gI a3)] σ μ) (gQv D G σ' μ) 0 0 (gA G) := by
  refine Met.ofW (cc := cX4_fill) (maxL := 5) (ret := none) (by decide) rfl ?_
  intro p e s m args below meth c s₁ B hml hv
  obtain ⟨rfl, hP, hX⟩ := hv
  have hx := B.exec
  have hb0 := B.bytes
  have hr := B.returns
  have hts0 := atoms_spec (ws := (gWs yX4_fill cX4_fill 5 none)) B.pre
  have hts : ∀ w ∈ gLW, w.before _ s = true := fun w hw => hts0 w (List.mem_cons_of_mem _ hw)
  have hown : s.vm.findClass RX4 = some m.cls := findClass_of_methodNamed B.named
  have hlocks := B.notSynchronized
  have hH : gH D G s s.heap [] σ μ := ⟨hP, va_S.rf⟩
  have hl := lv_entry ([.ref (G.1 n), .int (gI a1), .int (gI a2), .int (gI a3)]) (n := 5) (Nat.le_of_ble_eq_true rfl)
  rw [lg_entry_eq]
  generalize (lg_sl ([.ref (G.1 n), .int (gI a1), .int (gI a2), .int (gI a3)]) ++ List.replicate (5 - (lg_sl ([.ref (G.1 n), .int (gI a1), .int (gI a2), .int (gI a3)])).length) Slot.unset).toArray = ls at hl ⊢
  have hl : lv_has ls 5 [(0, .ref (G.1 n)), (1, .int (gI a1)), (2, .int (gI a2)), (3, .int (gI a3))] := hl
  unfold DX4_fill at h
  refine lv_iload_n hx hb0 dX4_fill_0 rfl (lv_at hl 1 rfl) ?_
  refine lv_istore (lv' := [(4, .int (gI a1)), (0, .ref (G.1 n)), (1, .int (gI a1)), (2, .int (gI a2)), (3, .int (gI a3))]) hx hb0 dX4_fill_1 hl (by decide) rfl (fun ls hl => ?_)
  have hL3 : ∀ (f3 : Nat) (x4_3 : Int) (σ3 : gSt) (H : Heap) (locs : List Loc) (ls : Array Slot), gH D G s H locs σ3 μ → lv_has ls 5 [(4, .int (gI x4_3)), (0, .ref (G.1 n)), (2, .int (gI a2)), (3, .int (gI a3))] → (DX4_fill_L3 n len a2 a3 f3 x4_3 σ3) = some σ' → W p l e (headSpec (gWs yX4_fill cX4_fill 5 none) ({ frames := 0, cells := 0, slots := 0, locals := 0 } : Room)).room s m ([.ref (G.1 n), .int (gI a1), .int (gI a2), .int (gI a3)] : List Value).toArray below meth c H locs 0 0 (MQ below (gQv D G σ' μ) ([.ref (G.1 n), .int (gI a1), .int (gI a2), .int (gI a3)] : List Value).toArray s 0 0 (gA G)) (F0 m 3 ls []) := by
    intro f3
    induction f3 with
    | zero => intro x4_3 σ3 H locs ls hH hl h; cases h
    | succ f3 ih3 =>
      intro x4_3 σ3 H locs ls hH hl h
      unfold DX4_fill_L3 at h
      refine lv_iload hx hb0 dX4_fill_3 (lv_at hl 0 rfl) ?_
      refine g_if_lt (tgt := 38) hx hb0 dX4_fill_5 (by decide) h (fun h => ?_) (fun h => ?_)
      · exact g_vretS hx hb0 hr hH hlocks dX4_fill_38 h
      · refine lv_iload hx hb0 dX4_fill_8 (lv_at hl 0 rfl) ?_
        refine lv_iload_n hx hb0 dX4_fill_10 rfl (lv_at hl 2 rfl) ?_
        refine g_icmp_ge (tgt := 38) hx hb0 dX4_fill_11 (by decide) h (fun h => ?_) (fun h => ?_)
        · exact g_vretS hx hb0 hr hH hlocks dX4_fill_38 h
        · refine lv_iload hx hb0 dX4_fill_14 (lv_at hl 0 rfl) ?_
          refine lv_aload_n hx hb0 dX4_fill_16 rfl (lv_at hl 1 rfl) ?_
          refine g_getR hx hb0 hts q_ws_X4 hown hX hH (C := RX4) (T := TX4) (N := 1) (k := n) (i := 0) (j := (n + 1)) (hk).1 rfl (by decide) (hts _ q_fl_X4_9) rfl rfl dX4_fill_17 ?_
          refine g_alen hx hb0 hX hH (k := (n + 1)) (hk).2.1 dX4_fill_20 ?_
          refine g_icmp_ge (tgt := 38) hx hb0 dX4_fill_21 (by decide) h (fun h => ?_) (fun h => ?_)
          · exact g_vretS hx hb0 hr hH hlocks dX4_fill_38 h
          · refine lv_aload_n hx hb0 dX4_fill_24 rfl (lv_at hl 1 rfl) ?_
            refine g_getR hx hb0 hts q_ws_X4 hown hX hH (C := RX4) (T := TX4) (N := 1) (k := n) (i := 0) (j := (n + 1)) (hk).1 rfl (by decide) (hts _ q_fl_X4_9) rfl rfl dX4_fill_25 ?_
            refine lv_iload hx hb0 dX4_fill_28 (lv_at hl 0 rfl) ?_
            refine lv_iload_n hx hb0 dX4_fill_30 rfl (lv_at hl 3 rfl) ?_
            refine g_iast hx hb0 hX hH (k := (n + 1)) (hk).2.1 (Nat.le_trans (hk).2.2 (by decide)) dX4_fill_31 h (fun h H locs hH => ?_)
            refine g_iinc (k := 0) (n := (1 : Int)) (lv' := [(4, .int (gI (x4_3 + (1 : Int)))), (0, .ref (G.1 n)), (2, .int (gI a2)), (3, .int (gI a3))]) hx hb0 dX4_fill_32 hl rfl (by decide) rfl (fun ls hl => ?_)
            refine lv_goto (tgt := 3) hx hb0 dX4_fill_35 (by decide) ?_
            exact ih3 _ _ _ _ _ hH (lv_sub hl [0, 1, 2, 3] rfl) h
  exact hL3 gFuel _ _ _ _ _ hH (lv_sub hl [0, 1, 3, 4] rfl) h
def DX0_beginBand (b : Nat) (σ : gSt) : Option (gSt) :=
  (DX4_fill (b + 1) 480 σ ((σ b 6) * (20 : Int)) (((σ b 6) + (1 : Int)) * (20 : Int)) (-1 : Int)).bind fun q21 => some (gUp (gUp q21 b 6 ((q21 b 6) + (1 : Int))) b 7 ((gUp q21 b 6 ((q21 b 6) + (1 : Int))) b 5))
set_option maxHeartbeats 4000000 in
set_option maxRecDepth 100000 in
theorem metX0_beginBand (l : Launch) (D : va_G) (G : gAd) (b : Nat) (hb : gBands b) (σ : gSt) (μ : gLg) (σ' : gSt) (h : DX0_beginBand b σ = some σ') : Met l yX0_beginBand (gWs yX0_beginBand cX0_beginBand 1 none) ({ frames := 1, cells := 0, slots := 0, locals := 24 } : Room) (gPc D G [.ref (G.1 b)] σ μ) (gQv D G σ' μ) 0 0 (gA G) := by
  refine Met.ofW (cc := cX0_beginBand) (maxL := 1) (ret := none) (by decide) rfl ?_
  intro p e s m args below meth c s₁ B hml hv
  obtain ⟨rfl, hP, hX⟩ := hv
  have hx := B.exec
  have hb0 := B.bytes
  have hr := B.returns
  have hts0 := atoms_spec (ws := (gWs yX0_beginBand cX0_beginBand 1 none)) B.pre
  have hts : ∀ w ∈ gLW, w.before _ s = true := fun w hw => hts0 w (List.mem_cons_of_mem _ hw)
  have hown : s.vm.findClass RX0 = some m.cls := findClass_of_methodNamed B.named
  have hlocks := B.notSynchronized
  have hH : gH D G s s.heap [] σ μ := ⟨hP, va_S.rf⟩
  have hl := lv_entry ([.ref (G.1 b)]) (n := 1) (Nat.le_of_ble_eq_true rfl)
  rw [lg_entry_eq]
  generalize (lg_sl ([.ref (G.1 b)]) ++ List.replicate (1 - (lg_sl ([.ref (G.1 b)])).length) Slot.unset).toArray = ls at hl ⊢
  have hl : lv_has ls 1 [(0, .ref (G.1 b))] := hl
  unfold DX0_beginBand at h
  refine lv_aload_n hx hb0 dX0_beginBand_0 rfl (lv_at hl 0 rfl) ?_
  refine g_getR hx hb0 hts q_ws_X0 hown hX hH (C := RX0) (T := TX0) (N := 8) (k := b) (i := 0) (j := (b + 1)) hb.k rfl (by decide) (hts _ q_fl_X0_14) rfl rfl dX0_beginBand_1 ?_
  refine lv_aload_n hx hb0 dX0_beginBand_4 rfl (lv_at hl 0 rfl) ?_
  refine g_getI hx hb0 hts q_ws_X0 hown hX hH (C := RX0) (T := TX0) (N := 8) (k := b) (i := 6) hb.k rfl (by decide) (hts _ q_fl_X0_29) rfl rfl dX0_beginBand_5 ?_
  refine lv_bipush (v := gI (20 : Int)) hx hb0 dX0_beginBand_8 (by decide) ?_
  refine g_imul hx hb0 dX0_beginBand_10 ?_
  refine lv_aload_n hx hb0 dX0_beginBand_11 rfl (lv_at hl 0 rfl) ?_
  refine g_getI hx hb0 hts q_ws_X0 hown hX hH (C := RX0) (T := TX0) (N := 8) (k := b) (i := 6) hb.k rfl (by decide) (hts _ q_fl_X0_29) rfl rfl dX0_beginBand_12 ?_
  refine lv_iconst (v := gI (1 : Int)) hx hb0 dX0_beginBand_15 (by decide) ?_
  refine g_iadd hx hb0 dX0_beginBand_16 ?_
  refine lv_bipush (v := gI (20 : Int)) hx hb0 dX0_beginBand_17 (by decide) ?_
  refine g_imul hx hb0 dX0_beginBand_19 ?_
  refine lv_iconst (v := gI (-1 : Int)) hx hb0 dX0_beginBand_20 (by decide) ?_
  obtain ⟨q21, e21, h⟩ := gBind_some h
  refine g_callVv (k := (b + 1)) (T := TX4) (N := 1) (As := [.int (gI ((σ b 6) * (20 : Int))), .int (gI (((σ b 6) + (1 : Int)) * (20 : Int))), .int (gI (-1 : Int))]) (rest := []) ⟨hx, hb0, hml, hown, hts⟩ (metX4_fill l D G (b + 1) 480 (hb.n0) σ μ ((σ b 6) * (20 : Int)) (((σ b 6) + (1 : Int)) * (20 : Int)) (-1 : Int) q21 e21) (g_cwV (C := RX4) 3 hts q_ml_X0_82 q_im_X4_fill q_se_X4_fill q_in_X4 q_co_X4_fill ⟨rfl, rfl⟩ (by decide +kernel) ⟨Nat.le_of_ble_eq_true rfl, Nat.le_of_ble_eq_true rfl⟩) hX hH ((hb.n0)).1 rfl rfl hl.1 rfl (Nat.le_of_ble_eq_true rfl) dX0_beginBand_21 ⟨Nat.zero_le _, Nat.zero_le _⟩ (fun H locs hH => ?_)
  refine lv_aload_n hx hb0 dX0_beginBand_24 rfl (lv_at hl 0 rfl) ?_
  refine lv_dup hx hb0 dX0_beginBand_25 rfl ?_
  refine g_getI hx hb0 hts q_ws_X0 hown hX hH (C := RX0) (T := TX0) (N := 8) (k := b) (i := 6) hb.k rfl (by decide) (hts _ q_fl_X0_29) rfl rfl dX0_beginBand_26 ?_
  refine lv_iconst (v := gI (1 : Int)) hx hb0 dX0_beginBand_29 (by decide) ?_
  refine g_iadd hx hb0 dX0_beginBand_30 ?_
  refine g_putI hx hb0 hts q_ws_X0 tyX0 tyX0_ok nmX0 hown hX hH (C := RX0) (T := TX0) (N := 8) (k := b) (i := 6) hb.k rfl (by decide) (hts _ q_fl_X0_29) rfl rfl rfl rfl dX0_beginBand_31 (fun H locs hH => ?_)
  refine lv_aload_n hx hb0 dX0_beginBand_34 rfl (lv_at hl 0 rfl) ?_
  refine lv_aload_n hx hb0 dX0_beginBand_35 rfl (lv_at hl 0 rfl) ?_
  refine g_getI hx hb0 hts q_ws_X0 hown hX hH (C := RX0) (T := TX0) (N := 8) (k := b) (i := 5) hb.k rfl (by decide) (hts _ q_fl_X0_37) rfl rfl dX0_beginBand_36 ?_
  refine g_putI hx hb0 hts q_ws_X0 tyX0 tyX0_ok nmX0 hown hX hH (C := RX0) (T := TX0) (N := 8) (k := b) (i := 7) hb.k rfl (by decide) (hts _ q_fl_X0_40) rfl rfl rfl rfl dX0_beginBand_39 (fun H locs hH => ?_)
  exact g_vretS hx hb0 hr hH hlocks dX0_beginBand_42 h
def DX0_take (b : Nat) (σ : gSt) (a1 : Int) : Option (gSt) :=
  (DX4_put (b + 1) 480 σ (((((σ b 6) - (1 : Int)) * (20 : Int)) + (σ b 5)) - (σ b 7)) a1).bind fun q24 => some (gUp q24 b 7 ((q24 b 7) - (1 : Int)))
set_option maxHeartbeats 4000000 in
set_option maxRecDepth 100000 in
theorem metX0_take (l : Launch) (D : va_G) (G : gAd) (b : Nat) (hb : gBands b) (σ : gSt) (μ : gLg) (a1 : Int) (σ' : gSt) (h : DX0_take b σ a1 = some σ') : Met l yX0_take (gWs yX0_take cX0_take 2 none) ({ frames := 1, cells := 0, slots := 0, locals := 22 } : Room) (gPc D G [.ref (G.1 b), .int (gI a1)] σ μ) (gQv D G σ' μ) 0 0 (gA G) := by
  refine Met.ofW (cc := cX0_take) (maxL := 2) (ret := none) (by decide) rfl ?_
  intro p e s m args below meth c s₁ B hml hv
  obtain ⟨rfl, hP, hX⟩ := hv
  have hx := B.exec
  have hb0 := B.bytes
  have hr := B.returns
  have hts0 := atoms_spec (ws := (gWs yX0_take cX0_take 2 none)) B.pre
  have hts : ∀ w ∈ gLW, w.before _ s = true := fun w hw => hts0 w (List.mem_cons_of_mem _ hw)
  have hown : s.vm.findClass RX0 = some m.cls := findClass_of_methodNamed B.named
  have hlocks := B.notSynchronized
  have hH : gH D G s s.heap [] σ μ := ⟨hP, va_S.rf⟩
  have hl := lv_entry ([.ref (G.1 b), .int (gI a1)]) (n := 2) (Nat.le_of_ble_eq_true rfl)
  rw [lg_entry_eq]
  generalize (lg_sl ([.ref (G.1 b), .int (gI a1)]) ++ List.replicate (2 - (lg_sl ([.ref (G.1 b), .int (gI a1)])).length) Slot.unset).toArray = ls at hl ⊢
  have hl : lv_has ls 2 [(0, .ref (G.1 b)), (1, .int (gI a1))] := hl
  unfold DX0_take at h
  refine lv_aload_n hx hb0 dX0_take_0 rfl (lv_at hl 0 rfl) ?_
  refine g_getR hx hb0 hts q_ws_X0 hown hX hH (C := RX0) (T := TX0) (N := 8) (k := b) (i := 0) (j := (b + 1)) hb.k rfl (by decide) (hts _ q_fl_X0_14) rfl rfl dX0_take_1 ?_
  refine lv_aload_n hx hb0 dX0_take_4 rfl (lv_at hl 0 rfl) ?_
  refine g_getI hx hb0 hts q_ws_X0 hown hX hH (C := RX0) (T := TX0) (N := 8) (k := b) (i := 6) hb.k rfl (by decide) (hts _ q_fl_X0_29) rfl rfl dX0_take_5 ?_
  refine lv_iconst (v := gI (1 : Int)) hx hb0 dX0_take_8 (by decide) ?_
  refine g_isub hx hb0 dX0_take_9 ?_
  refine lv_bipush (v := gI (20 : Int)) hx hb0 dX0_take_10 (by decide) ?_
  refine g_imul hx hb0 dX0_take_12 ?_
  refine lv_aload_n hx hb0 dX0_take_13 rfl (lv_at hl 0 rfl) ?_
  refine g_getI hx hb0 hts q_ws_X0 hown hX hH (C := RX0) (T := TX0) (N := 8) (k := b) (i := 5) hb.k rfl (by decide) (hts _ q_fl_X0_37) rfl rfl dX0_take_14 ?_
  refine g_iadd hx hb0 dX0_take_17 ?_
  refine lv_aload_n hx hb0 dX0_take_18 rfl (lv_at hl 0 rfl) ?_
  refine g_getI hx hb0 hts q_ws_X0 hown hX hH (C := RX0) (T := TX0) (N := 8) (k := b) (i := 7) hb.k rfl (by decide) (hts _ q_fl_X0_40) rfl rfl dX0_take_19 ?_
  refine g_isub hx hb0 dX0_take_22 ?_
  refine lv_iload_n hx hb0 dX0_take_23 rfl (lv_at hl 1 rfl) ?_
  obtain ⟨q24, e24, h⟩ := gBind_some h
  refine g_callVv (k := (b + 1)) (T := TX4) (N := 1) (As := [.int (gI (((((σ b 6) - (1 : Int)) * (20 : Int)) + (σ b 5)) - (σ b 7))), .int (gI a1)]) (rest := []) ⟨hx, hb0, hml, hown, hts⟩ (metX4_put l D G (b + 1) 480 (hb.n0) σ μ (((((σ b 6) - (1 : Int)) * (20 : Int)) + (σ b 5)) - (σ b 7)) a1 q24 e24) (g_cwV (C := RX4) 2 hts q_ml_X0_72 q_im_X4_put q_se_X4_put q_in_X4 q_co_X4_put ⟨rfl, rfl⟩ (by decide +kernel) ⟨Nat.le_of_ble_eq_true rfl, Nat.le_of_ble_eq_true rfl⟩) hX hH ((hb.n0)).1 rfl rfl hl.1 rfl (Nat.le_of_ble_eq_true rfl) dX0_take_24 ⟨Nat.zero_le _, Nat.zero_le _⟩ (fun H locs hH => ?_)
  refine lv_aload_n hx hb0 dX0_take_27 rfl (lv_at hl 0 rfl) ?_
  refine lv_dup hx hb0 dX0_take_28 rfl ?_
  refine g_getI hx hb0 hts q_ws_X0 hown hX hH (C := RX0) (T := TX0) (N := 8) (k := b) (i := 7) hb.k rfl (by decide) (hts _ q_fl_X0_40) rfl rfl dX0_take_29 ?_
  refine lv_iconst (v := gI (1 : Int)) hx hb0 dX0_take_32 (by decide) ?_
  refine g_isub hx hb0 dX0_take_33 ?_
  refine g_putI hx hb0 hts q_ws_X0 tyX0 tyX0_ok nmX0 hown hX hH (C := RX0) (T := TX0) (N := 8) (k := b) (i := 7) hb.k rfl (by decide) (hts _ q_fl_X0_40) rfl rfl rfl rfl dX0_take_34 (fun H locs hH => ?_)
  exact g_vretS hx hb0 hr hH hlocks dX0_take_37 h
def DX0_layGroup_J92 (b : Nat) (R62 : Int → gSt → Option (gSt)) (x5_62 : Int) (σ92 : gSt) : Option (gSt) :=
  (DX4_at (b + 7) 24 σ92 x5_62).bind fun q98 => (DX4_put (b + 3) 24 σ92 q98 ((σ92 b 6) - (1 : Int))).bind fun q115 => (DX4_put (b + 5) 24 q115 q98 ((q115 b 5) - (q115 b 7))).bind fun q133 => (DX0_take b q133 q98).bind fun q139 => (R62 (x5_62 + (1 : Int)) q139)
def DX0_layGroup_L62 (b : Nat) (a1 : Int) : Nat → Int → gSt → Option (gSt)
  | 0, _, _ => none
  | f62 + 1, x5_62, σ62 => gIf (x5_62 < (σ62 b 4)) x5_62 (σ62 b 4) (gIf ((σ62 b 7) < (1 : Int)) (σ62 b 7) (1 : Int) ((DX0_beginBand b σ62).bind fun q80 => (DX0_take b q80 ((200 : Int) + a1)).bind fun q89 => (DX0_layGroup_J92 b (DX0_layGroup_L62 b a1 f62) x5_62 q89)) ((DX0_layGroup_J92 b (DX0_layGroup_L62 b a1 f62) x5_62 σ62))) (some σ62)
def DX0_layGroup_J51 (b : Nat) (a1 : Int) (σ51 : gSt) : Option (gSt) :=
  (DX0_take b σ51 ((100 : Int) + a1)).bind fun q56 => (DX0_layGroup_L62 b a1 gFuel (0 : Int) q56)
def DX0_layGroup_J47 (b : Nat) (σ : gSt) (a1 : Int) : Option (gSt) :=
  (DX0_beginBand b σ).bind fun q48 => (DX0_layGroup_J51 b a1 q48)
def DX0_layGroup_J32 (b : Nat) (σ : gSt) (a1 : Int) (t0_32 : Int) : Option (gSt) :=
  gIf (t0_32 = (0 : Int)) t0_32 (0 : Int) (gIf ((σ b 7) < (2 : Int)) (σ b 7) (2 : Int) ((DX0_layGroup_J47 b σ a1)) ((DX0_layGroup_J51 b a1 σ))) ((DX0_layGroup_J47 b σ a1))
def DX0_layGroup_J31 (b : Nat) (σ : gSt) (a1 : Int) : Option (gSt) :=
  (DX0_layGroup_J32 b σ a1 (0 : Int))
def DX0_layGroup (b : Nat) (σ : gSt) (a1 : Int) (a2 : Int) : Option (gSt) :=
  gIf (a2 = (0 : Int)) a2 (0 : Int) ((DX0_layGroup_J31 b σ a1)) (gIf ((σ b 7) < ((1 : Int) + (σ b 4))) ((1 : Int) + (σ b 4)) (σ b 7) (gIf ((σ b 5) < ((1 : Int) + (σ b 4))) ((1 : Int) + (σ b 4)) (σ b 5) ((DX0_layGroup_J31 b σ a1)) ((DX0_layGroup_J32 b σ a1 (1 : Int)))) ((DX0_layGroup_J31 b σ a1)))
set_option maxHeartbeats 4000000 in
set_option maxRecDepth 100000 in
theorem metX0_layGroup (l : Launch) (D : va_G) (G : gAd) (b : Nat) (hb : gBands b) (σ : gSt) (μ : gLg) (a1 : Int) (a2 : Int) (σ' : gSt) (h : DX0_layGroup b σ a1 a2 = some σ') : Met l yX0_layGroup (gWs yX0_layGroup cX0_layGroup 7 none) ({ frames := 2, cells := 0, slots := 0, locals := 44 } : Room) (gPc D G [.ref (G.1 b), .int (gI a1), .int (gI a2)] σ μ) (gQv D G σ' μ) 0 0 (gA G) := by
  refine Met.ofW (cc := cX0_layGroup) (maxL := 7) (ret := none) (by decide) rfl ?_
  intro p e s m args below meth c s₁ B hml hv
  obtain ⟨rfl, hP, hX⟩ := hv
  have hx := B.exec
  have hb0 := B.bytes
  have hr := B.returns
  have hts0 := atoms_spec (ws := (gWs yX0_layGroup cX0_layGroup 7 none)) B.pre
  have hts : ∀ w ∈ gLW, w.before _ s = true := fun w hw => hts0 w (List.mem_cons_of_mem _ hw)
  have hown : s.vm.findClass RX0 = some m.cls := findClass_of_methodNamed B.named
  have hlocks := B.notSynchronized
  have hH : gH D G s s.heap [] σ μ := ⟨hP, va_S.rf⟩
  have hl := lv_entry ([.ref (G.1 b), .int (gI a1), .int (gI a2)]) (n := 7) (Nat.le_of_ble_eq_true rfl)
  rw [lg_entry_eq]
  generalize (lg_sl ([.ref (G.1 b), .int (gI a1), .int (gI a2)]) ++ List.replicate (7 - (lg_sl ([.ref (G.1 b), .int (gI a1), .int (gI a2)])).length) Slot.unset).toArray = ls at hl ⊢
  have hl : lv_has ls 7 [(0, .ref (G.1 b)), (1, .int (gI a1)), (2, .int (gI a2))] := hl
  unfold DX0_layGroup at h
  refine lv_iconst (v := gI (1 : Int)) hx hb0 dX0_layGroup_0 (by decide) ?_
  refine lv_aload_n hx hb0 dX0_layGroup_1 rfl (lv_at hl 0 rfl) ?_
  refine g_getI hx hb0 hts q_ws_X0 hown hX hH (C := RX0) (T := TX0) (N := 8) (k := b) (i := 4) hb.k rfl (by decide) (hts _ q_fl_X0_47) rfl rfl dX0_layGroup_2 ?_
  refine g_iadd hx hb0 dX0_layGroup_5 ?_
  refine lv_istore_n (lv' := [(3, .int (gI ((1 : Int) + (σ b 4)))), (0, .ref (G.1 b)), (1, .int (gI a1)), (2, .int (gI a2))]) hx hb0 dX0_layGroup_6 rfl hl (by decide) rfl (fun ls hl => ?_)
  refine lv_iload_n hx hb0 dX0_layGroup_7 rfl (lv_at hl 3 rfl) ?_
  have hJ32 : ∀ (t0_32 : Int) (H : Heap) (locs : List Loc) (ls : Array Slot), gH D G s H locs σ μ → lv_has ls 7 [(0, .ref (G.1 b)), (1, .int (gI a1))] → (DX0_layGroup_J32 b σ a1 t0_32) = some σ' → W p l e (headSpec (gWs yX0_layGroup cX0_layGroup 7 none) ({ frames := 2, cells := 0, slots := 0, locals := 44 } : Room)).room s m ([.ref (G.1 b), .int (gI a1), .int (gI a2)] : List Value).toArray below meth c H locs 0 0 (MQ below (gQv D G σ' μ) ([.ref (G.1 b), .int (gI a1), .int (gI a2)] : List Value).toArray s 0 0 (gA G)) (F0 m 32 ls [.int (gI t0_32)]) := by
    intro t0_32 H locs ls hH hl h
    unfold DX0_layGroup_J32 at h
    refine lv_istore (lv' := [(4, .int (gI t0_32)), (0, .ref (G.1 b)), (1, .int (gI a1))]) hx hb0 dX0_layGroup_32 hl (by decide) rfl (fun ls hl => ?_)
    refine lv_iload hx hb0 dX0_layGroup_34 (lv_at hl 0 rfl) ?_
    have hJ51 : ∀ (σ51 : gSt) (H : Heap) (locs : List Loc) (ls : Array Slot), gH D G s H locs σ51 μ → lv_has ls 7 [(0, .ref (G.1 b)), (1, .int (gI a1))] → (DX0_layGroup_J51 b a1 σ51) = some σ' → W p l e (headSpec (gWs yX0_layGroup cX0_layGroup 7 none) ({ frames := 2, cells := 0, slots := 0, locals := 44 } : Room)).room s m ([.ref (G.1 b), .int (gI a1), .int (gI a2)] : List Value).toArray below meth c H locs 0 0 (MQ below (gQv D G σ' μ) ([.ref (G.1 b), .int (gI a1), .int (gI a2)] : List Value).toArray s 0 0 (gA G)) (F0 m 51 ls []) := by
      intro σ51 H locs ls hH hl h
      unfold DX0_layGroup_J51 at h
      refine lv_aload_n hx hb0 dX0_layGroup_51 rfl (lv_at hl 0 rfl) ?_
      refine lv_bipush (v := gI (100 : Int)) hx hb0 dX0_layGroup_52 (by decide) ?_
      refine lv_iload_n hx hb0 dX0_layGroup_54 rfl (lv_at hl 1 rfl) ?_
      refine g_iadd hx hb0 dX0_layGroup_55 ?_
      obtain ⟨q56, e56, h⟩ := gBind_some h
      refine g_callVv (k := b) (T := TX0) (N := 8) (As := [.int (gI ((100 : Int) + a1))]) (rest := []) ⟨hx, hb0, hml, hown, hts⟩ (metX0_take l D G b hb σ51 μ ((100 : Int) + a1) q56 e56) (g_cwV (C := RX0) 1 hts q_ml_X0_79 q_im_X0_take q_se_X0_take q_in_X0 q_co_X0_take ⟨rfl, rfl⟩ (by decide +kernel) ⟨Nat.le_of_ble_eq_true rfl, Nat.le_of_ble_eq_true rfl⟩) hX hH hb.k rfl rfl hl.1 rfl (Nat.le_of_ble_eq_true rfl) dX0_layGroup_56 ⟨Nat.zero_le _, Nat.zero_le _⟩ (fun H locs hH => ?_)
      refine lv_iconst (v := gI (0 : Int)) hx hb0 dX0_layGroup_59 (by decide) ?_
      refine lv_istore (lv' := [(5, .int (gI (0 : Int))), (0, .ref (G.1 b)), (1, .int (gI a1))]) hx hb0 dX0_layGroup_60 hl (by decide) rfl (fun ls hl => ?_)
      have hL62 : ∀ (f62 : Nat) (x5_62 : Int) (σ62 : gSt) (H : Heap) (locs : List Loc) (ls : Array Slot), gH D G s H locs σ62 μ → lv_has ls 7 [(5, .int (gI x5_62)), (0, .ref (G.1 b)), (1, .int (gI a1))] → (DX0_layGroup_L62 b a1 f62 x5_62 σ62) = some σ' → W p l e (headSpec (gWs yX0_layGroup cX0_layGroup 7 none) ({ frames := 2, cells := 0, slots := 0, locals := 44 } : Room)).room s m ([.ref (G.1 b), .int (gI a1), .int (gI a2)] : List Value).toArray below meth c H locs 0 0 (MQ below (gQv D G σ' μ) ([.ref (G.1 b), .int (gI a1), .int (gI a2)] : List Value).toArray s 0 0 (gA G)) (F0 m 62 ls []) := by
        intro f62
        induction f62 with
        | zero => intro x5_62 σ62 H locs ls hH hl h; cases h
        | succ f62 ih62 =>
          intro x5_62 σ62 H locs ls hH hl h
          unfold DX0_layGroup_L62 at h
          refine lv_iload hx hb0 dX0_layGroup_62 (lv_at hl 0 rfl) ?_
          refine lv_aload_n hx hb0 dX0_layGroup_64 rfl (lv_at hl 1 rfl) ?_
          refine g_getI hx hb0 hts q_ws_X0 hown hX hH (C := RX0) (T := TX0) (N := 8) (k := b) (i := 4) hb.k rfl (by decide) (hts _ q_fl_X0_47) rfl rfl dX0_layGroup_65 ?_
          refine g_icmp_ge (tgt := 148) hx hb0 dX0_layGroup_68 (by decide) h (fun h => ?_) (fun h => ?_)
          · exact g_vretS hx hb0 hr hH hlocks dX0_layGroup_148 h
          · refine lv_aload_n hx hb0 dX0_layGroup_71 rfl (lv_at hl 1 rfl) ?_
            refine g_getI hx hb0 hts q_ws_X0 hown hX hH (C := RX0) (T := TX0) (N := 8) (k := b) (i := 7) hb.k rfl (by decide) (hts _ q_fl_X0_40) rfl rfl dX0_layGroup_72 ?_
            refine lv_iconst (v := gI (1 : Int)) hx hb0 dX0_layGroup_75 (by decide) ?_
            have hJ92 : ∀ (σ92 : gSt) (H : Heap) (locs : List Loc) (ls : Array Slot), gH D G s H locs σ92 μ → lv_has ls 7 [(5, .int (gI x5_62)), (0, .ref (G.1 b)), (1, .int (gI a1))] → (DX0_layGroup_J92 b (DX0_layGroup_L62 b a1 f62) x5_62 σ92) = some σ' → W p l e (headSpec (gWs yX0_layGroup cX0_layGroup 7 none) ({ frames := 2, cells := 0, slots := 0, locals := 44 } : Room)).room s m ([.ref (G.1 b), .int (gI a1), .int (gI a2)] : List Value).toArray below meth c H locs 0 0 (MQ below (gQv D G σ' μ) ([.ref (G.1 b), .int (gI a1), .int (gI a2)] : List Value).toArray s 0 0 (gA G)) (F0 m 92 ls []) := by
              intro σ92 H locs ls hH hl h
              unfold DX0_layGroup_J92 at h
              refine lv_aload_n hx hb0 dX0_layGroup_92 rfl (lv_at hl 1 rfl) ?_
              refine g_getR hx hb0 hts q_ws_X0 hown hX hH (C := RX0) (T := TX0) (N := 8) (k := b) (i := 3) (j := (b + 7)) hb.k rfl (by decide) (hts _ q_fl_X0_26) rfl rfl dX0_layGroup_93 ?_
              refine lv_iload hx hb0 dX0_layGroup_96 (lv_at hl 0 rfl) ?_
              obtain ⟨q98, e98, h⟩ := gBind_some h
              refine g_callVi (k := (b + 7)) (T := TX4) (N := 1) (As := [.int (gI x5_62)]) (rest := []) ⟨hx, hb0, hml, hown, hts⟩ (metX4_at l D G (b + 7) 24 (hb.n3) σ92 μ x5_62 q98 e98) (g_cwV (C := RX4) 1 hts q_ml_X0_33 q_im_X4_at q_se_X4_at q_in_X4 q_co_X4_at ⟨rfl, rfl⟩ (by decide +kernel) ⟨Nat.le_of_ble_eq_true rfl, Nat.le_of_ble_eq_true rfl⟩) hX hH ((hb.n3)).1 rfl rfl hl.1 rfl (Nat.le_of_ble_eq_true rfl) dX0_layGroup_98 ⟨Nat.zero_le _, Nat.zero_le _⟩ (fun H locs hH => ?_)
              refine lv_istore (lv' := [(6, .int (gI q98)), (5, .int (gI x5_62)), (0, .ref (G.1 b)), (1, .int (gI a1))]) hx hb0 dX0_layGroup_101 hl (by decide) rfl (fun ls hl => ?_)
              refine lv_aload_n hx hb0 dX0_layGroup_103 rfl (lv_at hl 2 rfl) ?_
              refine g_getR hx hb0 hts q_ws_X0 hown hX hH (C := RX0) (T := TX0) (N := 8) (k := b) (i := 1) (j := (b + 3)) hb.k rfl (by decide) (hts _ q_fl_X0_20) rfl rfl dX0_layGroup_104 ?_
              refine lv_iload hx hb0 dX0_layGroup_107 (lv_at hl 0 rfl) ?_
              refine lv_aload_n hx hb0 dX0_layGroup_109 rfl (lv_at hl 2 rfl) ?_
              refine g_getI hx hb0 hts q_ws_X0 hown hX hH (C := RX0) (T := TX0) (N := 8) (k := b) (i := 6) hb.k rfl (by decide) (hts _ q_fl_X0_29) rfl rfl dX0_layGroup_110 ?_
              refine lv_iconst (v := gI (1 : Int)) hx hb0 dX0_layGroup_113 (by decide) ?_
              refine g_isub hx hb0 dX0_layGroup_114 ?_
              obtain ⟨q115, e115, h⟩ := gBind_some h
              refine g_callVv (k := (b + 3)) (T := TX4) (N := 1) (As := [.int (gI q98), .int (gI ((σ92 b 6) - (1 : Int)))]) (rest := []) ⟨hx, hb0, hml, hown, hts⟩ (metX4_put l D G (b + 3) 24 (hb.n1) σ92 μ q98 ((σ92 b 6) - (1 : Int)) q115 e115) (g_cwV (C := RX4) 2 hts q_ml_X0_72 q_im_X4_put q_se_X4_put q_in_X4 q_co_X4_put ⟨rfl, rfl⟩ (by decide +kernel) ⟨Nat.le_of_ble_eq_true rfl, Nat.le_of_ble_eq_true rfl⟩) hX hH ((hb.n1)).1 rfl rfl hl.1 rfl (Nat.le_of_ble_eq_true rfl) dX0_layGroup_115 ⟨Nat.zero_le _, Nat.zero_le _⟩ (fun H locs hH => ?_)
              refine lv_aload_n hx hb0 dX0_layGroup_118 rfl (lv_at hl 2 rfl) ?_
              refine g_getR hx hb0 hts q_ws_X0 hown hX hH (C := RX0) (T := TX0) (N := 8) (k := b) (i := 2) (j := (b + 5)) hb.k rfl (by decide) (hts _ q_fl_X0_23) rfl rfl dX0_layGroup_119 ?_
              refine lv_iload hx hb0 dX0_layGroup_122 (lv_at hl 0 rfl) ?_
              refine lv_aload_n hx hb0 dX0_layGroup_124 rfl (lv_at hl 2 rfl) ?_
              refine g_getI hx hb0 hts q_ws_X0 hown hX hH (C := RX0) (T := TX0) (N := 8) (k := b) (i := 5) hb.k rfl (by decide) (hts _ q_fl_X0_37) rfl rfl dX0_layGroup_125 ?_
              refine lv_aload_n hx hb0 dX0_layGroup_128 rfl (lv_at hl 2 rfl) ?_
              refine g_getI hx hb0 hts q_ws_X0 hown hX hH (C := RX0) (T := TX0) (N := 8) (k := b) (i := 7) hb.k rfl (by decide) (hts _ q_fl_X0_40) rfl rfl dX0_layGroup_129 ?_
              refine g_isub hx hb0 dX0_layGroup_132 ?_
              obtain ⟨q133, e133, h⟩ := gBind_some h
              refine g_callVv (k := (b + 5)) (T := TX4) (N := 1) (As := [.int (gI q98), .int (gI ((q115 b 5) - (q115 b 7)))]) (rest := []) ⟨hx, hb0, hml, hown, hts⟩ (metX4_put l D G (b + 5) 24 (hb.n2) q115 μ q98 ((q115 b 5) - (q115 b 7)) q133 e133) (g_cwV (C := RX4) 2 hts q_ml_X0_72 q_im_X4_put q_se_X4_put q_in_X4 q_co_X4_put ⟨rfl, rfl⟩ (by decide +kernel) ⟨Nat.le_of_ble_eq_true rfl, Nat.le_of_ble_eq_true rfl⟩) hX hH ((hb.n2)).1 rfl rfl hl.1 rfl (Nat.le_of_ble_eq_true rfl) dX0_layGroup_133 ⟨Nat.zero_le _, Nat.zero_le _⟩ (fun H locs hH => ?_)
              refine lv_aload_n hx hb0 dX0_layGroup_136 rfl (lv_at hl 2 rfl) ?_
              refine lv_iload hx hb0 dX0_layGroup_137 (lv_at hl 0 rfl) ?_
              obtain ⟨q139, e139, h⟩ := gBind_some h
              refine g_callVv (k := b) (T := TX0) (N := 8) (As := [.int (gI q98)]) (rest := []) ⟨hx, hb0, hml, hown, hts⟩ (metX0_take l D G b hb q133 μ q98 q139 e139) (g_cwV (C := RX0) 1 hts q_ml_X0_79 q_im_X0_take q_se_X0_take q_in_X0 q_co_X0_take ⟨rfl, rfl⟩ (by decide +kernel) ⟨Nat.le_of_ble_eq_true rfl, Nat.le_of_ble_eq_true rfl⟩) hX hH hb.k rfl rfl hl.1 rfl (Nat.le_of_ble_eq_true rfl) dX0_layGroup_139 ⟨Nat.zero_le _, Nat.zero_le _⟩ (fun H locs hH => ?_)
              refine g_iinc (k := 1) (n := (1 : Int)) (lv' := [(5, .int (gI (x5_62 + (1 : Int)))), (6, .int (gI q98)), (0, .ref (G.1 b)), (1, .int (gI a1))]) hx hb0 dX0_layGroup_142 hl rfl (by decide) rfl (fun ls hl => ?_)
              refine lv_goto (tgt := 62) hx hb0 dX0_layGroup_145 (by decide) ?_
              exact ih62 _ _ _ _ _ hH (lv_sub hl [0, 2, 3] rfl) h
            refine g_icmp_ge (tgt := 92) hx hb0 dX0_layGroup_76 (by decide) h (fun h => ?_) (fun h => ?_)
            · exact hJ92 _ _ _ _ hH (lv_sub hl [0, 1, 2] rfl) h
            · refine lv_aload_n hx hb0 dX0_layGroup_79 rfl (lv_at hl 1 rfl) ?_
              obtain ⟨q80, e80, h⟩ := gBind_some h
              refine g_callVv (k := b) (T := TX0) (N := 8) (As := []) (rest := []) ⟨hx, hb0, hml, hown, hts⟩ (metX0_beginBand l D G b hb σ62 μ q80 e80) (g_cwV (C := RX0) 0 hts q_ml_X0_76 q_im_X0_beginBand q_se_X0_beginBand q_in_X0 q_co_X0_beginBand ⟨rfl, rfl⟩ (by decide +kernel) ⟨Nat.le_of_ble_eq_true rfl, Nat.le_of_ble_eq_true rfl⟩) hX hH hb.k rfl rfl hl.1 rfl (Nat.le_of_ble_eq_true rfl) dX0_layGroup_80 ⟨Nat.zero_le _, Nat.zero_le _⟩ (fun H locs hH => ?_)
              refine lv_aload_n hx hb0 dX0_layGroup_83 rfl (lv_at hl 1 rfl) ?_
              refine lv_sipush (v := gI (200 : Int)) hx hb0 dX0_layGroup_84 (by decide) ?_
              refine lv_iload_n hx hb0 dX0_layGroup_87 rfl (lv_at hl 2 rfl) ?_
              refine g_iadd hx hb0 dX0_layGroup_88 ?_
              obtain ⟨q89, e89, h⟩ := gBind_some h
              refine g_callVv (k := b) (T := TX0) (N := 8) (As := [.int (gI ((200 : Int) + a1))]) (rest := []) ⟨hx, hb0, hml, hown, hts⟩ (metX0_take l D G b hb q80 μ ((200 : Int) + a1) q89 e89) (g_cwV (C := RX0) 1 hts q_ml_X0_79 q_im_X0_take q_se_X0_take q_in_X0 q_co_X0_take ⟨rfl, rfl⟩ (by decide +kernel) ⟨Nat.le_of_ble_eq_true rfl, Nat.le_of_ble_eq_true rfl⟩) hX hH hb.k rfl rfl hl.1 rfl (Nat.le_of_ble_eq_true rfl) dX0_layGroup_89 ⟨Nat.zero_le _, Nat.zero_le _⟩ (fun H locs hH => ?_)
              exact hJ92 _ _ _ _ hH (lv_sub hl [0, 1, 2] rfl) h
      exact hL62 gFuel _ _ _ _ _ hH (lv_sub hl [0, 1, 2] rfl) h
    have hJ47 : ∀  (H : Heap) (locs : List Loc) (ls : Array Slot), gH D G s H locs σ μ → lv_has ls 7 [(0, .ref (G.1 b)), (1, .int (gI a1))] → (DX0_layGroup_J47 b σ a1) = some σ' → W p l e (headSpec (gWs yX0_layGroup cX0_layGroup 7 none) ({ frames := 2, cells := 0, slots := 0, locals := 44 } : Room)).room s m ([.ref (G.1 b), .int (gI a1), .int (gI a2)] : List Value).toArray below meth c H locs 0 0 (MQ below (gQv D G σ' μ) ([.ref (G.1 b), .int (gI a1), .int (gI a2)] : List Value).toArray s 0 0 (gA G)) (F0 m 47 ls []) := by
      intro H locs ls hH hl h
      unfold DX0_layGroup_J47 at h
      refine lv_aload_n hx hb0 dX0_layGroup_47 rfl (lv_at hl 0 rfl) ?_
      obtain ⟨q48, e48, h⟩ := gBind_some h
      refine g_callVv (k := b) (T := TX0) (N := 8) (As := []) (rest := []) ⟨hx, hb0, hml, hown, hts⟩ (metX0_beginBand l D G b hb σ μ q48 e48) (g_cwV (C := RX0) 0 hts q_ml_X0_76 q_im_X0_beginBand q_se_X0_beginBand q_in_X0 q_co_X0_beginBand ⟨rfl, rfl⟩ (by decide +kernel) ⟨Nat.le_of_ble_eq_true rfl, Nat.le_of_ble_eq_true rfl⟩) hX hH hb.k rfl rfl hl.1 rfl (Nat.le_of_ble_eq_true rfl) dX0_layGroup_48 ⟨Nat.zero_le _, Nat.zero_le _⟩ (fun H locs hH => ?_)
      exact hJ51 _ _ _ _ hH (lv_sub hl [0, 1] rfl) h
    refine g_if_ne (tgt := 47) hx hb0 dX0_layGroup_36 (by decide) h (fun h => ?_) (fun h => ?_)
    · exact hJ47  _ _ _ hH (lv_sub hl [1, 2] rfl) h
    · refine lv_aload_n hx hb0 dX0_layGroup_39 rfl (lv_at hl 1 rfl) ?_
      refine g_getI hx hb0 hts q_ws_X0 hown hX hH (C := RX0) (T := TX0) (N := 8) (k := b) (i := 7) hb.k rfl (by decide) (hts _ q_fl_X0_40) rfl rfl dX0_layGroup_40 ?_
      refine lv_iconst (v := gI (2 : Int)) hx hb0 dX0_layGroup_43 (by decide) ?_
      refine g_icmp_ge (tgt := 51) hx hb0 dX0_layGroup_44 (by decide) h (fun h => ?_) (fun h => ?_)
      · exact hJ51 _ _ _ _ hH (lv_sub hl [1, 2] rfl) h
      · exact hJ47  _ _ _ hH (lv_sub hl [1, 2] rfl) h
  have hJ31 : ∀  (H : Heap) (locs : List Loc) (ls : Array Slot), gH D G s H locs σ μ → lv_has ls 7 [(0, .ref (G.1 b)), (1, .int (gI a1))] → (DX0_layGroup_J31 b σ a1) = some σ' → W p l e (headSpec (gWs yX0_layGroup cX0_layGroup 7 none) ({ frames := 2, cells := 0, slots := 0, locals := 44 } : Room)).room s m ([.ref (G.1 b), .int (gI a1), .int (gI a2)] : List Value).toArray below meth c H locs 0 0 (MQ below (gQv D G σ' μ) ([.ref (G.1 b), .int (gI a1), .int (gI a2)] : List Value).toArray s 0 0 (gA G)) (F0 m 31 ls []) := by
    intro H locs ls hH hl h
    unfold DX0_layGroup_J31 at h
    refine lv_iconst (v := gI (0 : Int)) hx hb0 dX0_layGroup_31 (by decide) ?_
    exact hJ32 _ _ _ _ hH (lv_sub hl [0, 1] rfl) h
  refine g_if_eq (tgt := 31) hx hb0 dX0_layGroup_8 (by decide) h (fun h => ?_) (fun h => ?_)
  · exact hJ31  _ _ _ hH (lv_sub hl [1, 2] rfl) h
  · refine lv_iload_n hx hb0 dX0_layGroup_11 rfl (lv_at hl 0 rfl) ?_
    refine lv_aload_n hx hb0 dX0_layGroup_12 rfl (lv_at hl 1 rfl) ?_
    refine g_getI hx hb0 hts q_ws_X0 hown hX hH (C := RX0) (T := TX0) (N := 8) (k := b) (i := 7) hb.k rfl (by decide) (hts _ q_fl_X0_40) rfl rfl dX0_layGroup_13 ?_
    refine g_icmp_le (tgt := 31) hx hb0 dX0_layGroup_16 (by decide) h (fun h => ?_) (fun h => ?_)
    · exact hJ31  _ _ _ hH (lv_sub hl [1, 2] rfl) h
    · refine lv_iload_n hx hb0 dX0_layGroup_19 rfl (lv_at hl 0 rfl) ?_
      refine lv_aload_n hx hb0 dX0_layGroup_20 rfl (lv_at hl 1 rfl) ?_
      refine g_getI hx hb0 hts q_ws_X0 hown hX hH (C := RX0) (T := TX0) (N := 8) (k := b) (i := 5) hb.k rfl (by decide) (hts _ q_fl_X0_37) rfl rfl dX0_layGroup_21 ?_
      refine g_icmp_gt (tgt := 31) hx hb0 dX0_layGroup_24 (by decide) h (fun h => ?_) (fun h => ?_)
      · exact hJ31  _ _ _ hH (lv_sub hl [1, 2] rfl) h
      · refine lv_iconst (v := gI (1 : Int)) hx hb0 dX0_layGroup_27 (by decide) ?_
        refine lv_goto (tgt := 32) hx hb0 dX0_layGroup_28 (by decide) ?_
        exact hJ32 _ _ _ _ hH (lv_sub hl [1, 2] rfl) h
def DX0_lay_J55 (R17 : Int → gSt → Option (gSt)) (x3_17 : Int) (σ55 : gSt) : Option (gSt) :=
  (R17 (x3_17 + (1 : Int)) σ55)
def DX0_lay_J52 (b : Nat) (R17 : Int → gSt → Option (gSt)) (x3_17 : Int) (q26 : gSt) (t0_52 : Int) : Option (gSt) :=
  (DX0_layGroup b q26 x3_17 t0_52).bind fun q52 => (DX0_lay_J55 R17 x3_17 q52)
def DX0_lay_L17 (b : Nat) (p1 : Nat) : Nat → Int → gSt → Option (gSt)
  | 0, _, _ => none
  | f17 + 1, x3_17, σ17 => gIf (x3_17 < (6 : Int)) x3_17 (6 : Int) ((DX0_gather b p1 σ17 x3_17).bind fun q26 => gIf ((0 : Int) < (q26 b 4)) (q26 b 4) (0 : Int) ((DX5_setting p1 q26 (2 : Int)).bind fun q40 => gIf (q40 = (1 : Int)) q40 (1 : Int) ((DX0_lay_J52 b (DX0_lay_L17 b p1 f17) x3_17 q26 (1 : Int))) ((DX0_lay_J52 b (DX0_lay_L17 b p1 f17) x3_17 q26 (0 : Int)))) ((DX0_lay_J55 (DX0_lay_L17 b p1 f17) x3_17 q26))) (some σ17)
def DX0_lay (b : Nat) (p1 : Nat) (σ : gSt) (a2 : Int) : Option (gSt) :=
  (DX0_lay_L17 b p1 gFuel (0 : Int) (gUp (gUp (gUp σ b 5 a2) b 6 (0 : Int)) b 7 (0 : Int)))
set_option maxHeartbeats 4000000 in
set_option maxRecDepth 100000 in
theorem metX0_lay (l : Launch) (D : va_G) (G : gAd) (b : Nat) (p1 : Nat) (hb : gBands b) (hp1 : gPlan p1) (σ : gSt) (μ : gLg) (a2 : Int) (σ' : gSt) (h : DX0_lay b p1 σ a2 = some σ') : Met l yX0_lay (gWs yX0_lay cX0_lay 4 none) ({ frames := 4, cells := 0, slots := 0, locals := 88 } : Room) (gPc D G [.ref (G.1 b), .ref (G.1 p1), .int (gI a2)] σ μ) (gQv D G σ' μ) 0 0 (gA G) := by
  refine Met.ofW (cc := cX0_lay) (maxL := 4) (ret := none) (by decide) rfl ?_
  intro p e s m args below meth c s₁ B hml hv
  obtain ⟨rfl, hP, hX⟩ := hv
  have hx := B.exec
  have hb0 := B.bytes
  have hr := B.returns
  have hts0 := atoms_spec (ws := (gWs yX0_lay cX0_lay 4 none)) B.pre
  have hts : ∀ w ∈ gLW, w.before _ s = true := fun w hw => hts0 w (List.mem_cons_of_mem _ hw)
  have hown : s.vm.findClass RX0 = some m.cls := findClass_of_methodNamed B.named
  have hlocks := B.notSynchronized
  have hH : gH D G s s.heap [] σ μ := ⟨hP, va_S.rf⟩
  have hl := lv_entry ([.ref (G.1 b), .ref (G.1 p1), .int (gI a2)]) (n := 4) (Nat.le_of_ble_eq_true rfl)
  rw [lg_entry_eq]
  generalize (lg_sl ([.ref (G.1 b), .ref (G.1 p1), .int (gI a2)]) ++ List.replicate (4 - (lg_sl ([.ref (G.1 b), .ref (G.1 p1), .int (gI a2)])).length) Slot.unset).toArray = ls at hl ⊢
  have hl : lv_has ls 4 [(0, .ref (G.1 b)), (1, .ref (G.1 p1)), (2, .int (gI a2))] := hl
  unfold DX0_lay at h
  refine lv_aload_n hx hb0 dX0_lay_0 rfl (lv_at hl 0 rfl) ?_
  refine lv_iload_n hx hb0 dX0_lay_1 rfl (lv_at hl 2 rfl) ?_
  refine g_putI hx hb0 hts q_ws_X0 tyX0 tyX0_ok nmX0 hown hX hH (C := RX0) (T := TX0) (N := 8) (k := b) (i := 5) hb.k rfl (by decide) (hts _ q_fl_X0_37) rfl rfl rfl rfl dX0_lay_2 (fun H locs hH => ?_)
  refine lv_aload_n hx hb0 dX0_lay_5 rfl (lv_at hl 0 rfl) ?_
  refine lv_iconst (v := gI (0 : Int)) hx hb0 dX0_lay_6 (by decide) ?_
  refine g_putI hx hb0 hts q_ws_X0 tyX0 tyX0_ok nmX0 hown hX hH (C := RX0) (T := TX0) (N := 8) (k := b) (i := 6) hb.k rfl (by decide) (hts _ q_fl_X0_29) rfl rfl rfl rfl dX0_lay_7 (fun H locs hH => ?_)
  refine lv_aload_n hx hb0 dX0_lay_10 rfl (lv_at hl 0 rfl) ?_
  refine lv_iconst (v := gI (0 : Int)) hx hb0 dX0_lay_11 (by decide) ?_
  refine g_putI hx hb0 hts q_ws_X0 tyX0 tyX0_ok nmX0 hown hX hH (C := RX0) (T := TX0) (N := 8) (k := b) (i := 7) hb.k rfl (by decide) (hts _ q_fl_X0_40) rfl rfl rfl rfl dX0_lay_12 (fun H locs hH => ?_)
  refine lv_iconst (v := gI (0 : Int)) hx hb0 dX0_lay_15 (by decide) ?_
  refine lv_istore_n (lv' := [(3, .int (gI (0 : Int))), (0, .ref (G.1 b)), (1, .ref (G.1 p1)), (2, .int (gI a2))]) hx hb0 dX0_lay_16 rfl hl (by decide) rfl (fun ls hl => ?_)
  have hL17 : ∀ (f17 : Nat) (x3_17 : Int) (σ17 : gSt) (H : Heap) (locs : List Loc) (ls : Array Slot), gH D G s H locs σ17 μ → lv_has ls 4 [(3, .int (gI x3_17)), (0, .ref (G.1 b)), (1, .ref (G.1 p1))] → (DX0_lay_L17 b p1 f17 x3_17 σ17) = some σ' → W p l e (headSpec (gWs yX0_lay cX0_lay 4 none) ({ frames := 4, cells := 0, slots := 0, locals := 88 } : Room)).room s m ([.ref (G.1 b), .ref (G.1 p1), .int (gI a2)] : List Value).toArray below meth c H locs 0 0 (MQ below (gQv D G σ' μ) ([.ref (G.1 b), .ref (G.1 p1), .int (gI a2)] : List Value).toArray s 0 0 (gA G)) (F0 m 17 ls []) := by
    intro f17
    induction f17 with
    | zero => intro x3_17 σ17 H locs ls hH hl h; cases h
    | succ f17 ih17 =>
      intro x3_17 σ17 H locs ls hH hl h
      unfold DX0_lay_L17 at h
      refine lv_iload_n hx hb0 dX0_lay_17 rfl (lv_at hl 0 rfl) ?_
      refine lv_bipush (v := gI (6 : Int)) hx hb0 dX0_lay_18 (by decide) ?_
      refine g_icmp_ge (tgt := 61) hx hb0 dX0_lay_20 (by decide) h (fun h => ?_) (fun h => ?_)
      · exact g_vretS hx hb0 hr hH hlocks dX0_lay_61 h
      · refine lv_aload_n hx hb0 dX0_lay_23 rfl (lv_at hl 1 rfl) ?_
        refine lv_aload_n hx hb0 dX0_lay_24 rfl (lv_at hl 2 rfl) ?_
        refine lv_iload_n hx hb0 dX0_lay_25 rfl (lv_at hl 0 rfl) ?_
        obtain ⟨q26, e26, h⟩ := gBind_some h
        refine g_callVv (k := b) (T := TX0) (N := 8) (As := [.ref (G.1 p1), .int (gI x3_17)]) (rest := []) ⟨hx, hb0, hml, hown, hts⟩ (metX0_gather l D G b p1 hb hp1 σ17 μ x3_17 q26 e26) (g_cwV (C := RX0) 2 hts q_ml_X0_43 q_im_X0_gather q_se_X0_gather q_in_X0 q_co_X0_gather ⟨rfl, rfl⟩ (by decide +kernel) ⟨Nat.le_of_ble_eq_true rfl, Nat.le_of_ble_eq_true rfl⟩) hX hH hb.k rfl rfl hl.1 rfl (Nat.le_of_ble_eq_true rfl) dX0_lay_26 ⟨Nat.zero_le _, Nat.zero_le _⟩ (fun H locs hH => ?_)
        refine lv_aload_n hx hb0 dX0_lay_29 rfl (lv_at hl 1 rfl) ?_
        refine g_getI hx hb0 hts q_ws_X0 hown hX hH (C := RX0) (T := TX0) (N := 8) (k := b) (i := 4) hb.k rfl (by decide) (hts _ q_fl_X0_47) rfl rfl dX0_lay_30 ?_
        have hJ55 : ∀ (σ55 : gSt) (H : Heap) (locs : List Loc) (ls : Array Slot), gH D G s H locs σ55 μ → lv_has ls 4 [(3, .int (gI x3_17)), (0, .ref (G.1 b)), (1, .ref (G.1 p1))] → (DX0_lay_J55 (DX0_lay_L17 b p1 f17) x3_17 σ55) = some σ' → W p l e (headSpec (gWs yX0_lay cX0_lay 4 none) ({ frames := 4, cells := 0, slots := 0, locals := 88 } : Room)).room s m ([.ref (G.1 b), .ref (G.1 p1), .int (gI a2)] : List Value).toArray below meth c H locs 0 0 (MQ below (gQv D G σ' μ) ([.ref (G.1 b), .ref (G.1 p1), .int (gI a2)] : List Value).toArray s 0 0 (gA G)) (F0 m 55 ls []) := by
          intro σ55 H locs ls hH hl h
          unfold DX0_lay_J55 at h
          refine g_iinc (k := 0) (n := (1 : Int)) (lv' := [(3, .int (gI (x3_17 + (1 : Int)))), (0, .ref (G.1 b)), (1, .ref (G.1 p1))]) hx hb0 dX0_lay_55 hl rfl (by decide) rfl (fun ls hl => ?_)
          refine lv_goto (tgt := 17) hx hb0 dX0_lay_58 (by decide) ?_
          exact ih17 _ _ _ _ _ hH (lv_sub hl [0, 1, 2] rfl) h
        refine g_if_le (tgt := 55) hx hb0 dX0_lay_33 (by decide) h (fun h => ?_) (fun h => ?_)
        · exact hJ55 _ _ _ _ hH (lv_sub hl [0, 1, 2] rfl) h
        · refine lv_aload_n hx hb0 dX0_lay_36 rfl (lv_at hl 1 rfl) ?_
          refine lv_iload_n hx hb0 dX0_lay_37 rfl (lv_at hl 0 rfl) ?_
          refine lv_aload_n hx hb0 dX0_lay_38 rfl (lv_at hl 2 rfl) ?_
          refine lv_iconst (v := gI (2 : Int)) hx hb0 dX0_lay_39 (by decide) ?_
          obtain ⟨q40, e40, h⟩ := gBind_some h
          refine g_callVi (k := p1) (T := TX5) (N := 8) (As := [.int (gI (2 : Int))]) (rest := [.int (gI x3_17), .ref (G.1 b)]) ⟨hx, hb0, hml, hown, hts⟩ (metX5_setting l D G p1 hp1 q26 μ (2 : Int) q40 e40) (g_cwV (C := RX5) 1 hts q_ml_X0_50 q_im_X5_setting q_se_X5_setting q_in_X5 q_co_X5_setting ⟨rfl, rfl⟩ (by decide +kernel) ⟨Nat.le_of_ble_eq_true rfl, Nat.le_of_ble_eq_true rfl⟩) hX hH hp1.k rfl rfl hl.1 rfl (Nat.le_of_ble_eq_true rfl) dX0_lay_40 ⟨Nat.zero_le _, Nat.zero_le _⟩ (fun H locs hH => ?_)
          refine lv_iconst (v := gI (1 : Int)) hx hb0 dX0_lay_43 (by decide) ?_
          have hJ52 : ∀ (t0_52 : Int) (H : Heap) (locs : List Loc) (ls : Array Slot), gH D G s H locs q26 μ → lv_has ls 4 [(3, .int (gI x3_17)), (0, .ref (G.1 b)), (1, .ref (G.1 p1))] → (DX0_lay_J52 b (DX0_lay_L17 b p1 f17) x3_17 q26 t0_52) = some σ' → W p l e (headSpec (gWs yX0_lay cX0_lay 4 none) ({ frames := 4, cells := 0, slots := 0, locals := 88 } : Room)).room s m ([.ref (G.1 b), .ref (G.1 p1), .int (gI a2)] : List Value).toArray below meth c H locs 0 0 (MQ below (gQv D G σ' μ) ([.ref (G.1 b), .ref (G.1 p1), .int (gI a2)] : List Value).toArray s 0 0 (gA G)) (F0 m 52 ls [.int (gI t0_52), .int (gI x3_17), .ref (G.1 b)]) := by
            intro t0_52 H locs ls hH hl h
            unfold DX0_lay_J52 at h
            obtain ⟨q52, e52, h⟩ := gBind_some h
            refine g_callVv (k := b) (T := TX0) (N := 8) (As := [.int (gI x3_17), .int (gI t0_52)]) (rest := []) ⟨hx, hb0, hml, hown, hts⟩ (metX0_layGroup l D G b hb q26 μ x3_17 t0_52 q52 e52) (g_cwV (C := RX0) 2 hts q_ml_X0_55 q_im_X0_layGroup q_se_X0_layGroup q_in_X0 q_co_X0_layGroup ⟨rfl, rfl⟩ (by decide +kernel) ⟨Nat.le_of_ble_eq_true rfl, Nat.le_of_ble_eq_true rfl⟩) hX hH hb.k rfl rfl hl.1 rfl (Nat.le_of_ble_eq_true rfl) dX0_lay_52 ⟨Nat.zero_le _, Nat.zero_le _⟩ (fun H locs hH => ?_)
            exact hJ55 _ _ _ _ hH (lv_sub hl [0, 1, 2] rfl) h
          refine g_icmp_ne (tgt := 51) hx hb0 dX0_lay_44 (by decide) h (fun h => ?_) (fun h => ?_)
          · refine lv_iconst (v := gI (0 : Int)) hx hb0 dX0_lay_51 (by decide) ?_
            exact hJ52 _ _ _ _ hH (lv_sub hl [0, 1, 2] rfl) h
          · refine lv_iconst (v := gI (1 : Int)) hx hb0 dX0_lay_47 (by decide) ?_
            refine lv_goto (tgt := 52) hx hb0 dX0_lay_48 (by decide) ?_
            exact hJ52 _ _ _ _ hH (lv_sub hl [0, 1, 2] rfl) h
  exact hL17 gFuel _ _ _ _ _ hH (lv_sub hl [0, 1, 2] rfl) h
def DX0_count (b : Nat) (σ : gSt) : Option (Int) :=
  some (σ b 6)
set_option maxHeartbeats 4000000 in
set_option maxRecDepth 100000 in
theorem metX0_count (l : Launch) (D : va_G) (G : gAd) (b : Nat) (hb : gBands b) (σ : gSt) (μ : gLg) (r : Int) (h : DX0_count b σ = some r) : Met l yX0_count (gWs yX0_count cX0_count 1 (some (Jvm.ClassFile.FieldType.int))) ({ frames := 0, cells := 0, slots := 0, locals := 0 } : Room) (gPc D G [.ref (G.1 b)] σ μ) (gQi D G r σ μ) 0 0 (gA G) := by
  refine Met.ofW (cc := cX0_count) (maxL := 1) (ret := (some (Jvm.ClassFile.FieldType.int))) (by decide) rfl ?_
  intro p e s m args below meth c s₁ B hml hv
  obtain ⟨rfl, hP, hX⟩ := hv
  have hx := B.exec
  have hb0 := B.bytes
  have hr := B.returns
  have hts0 := atoms_spec (ws := (gWs yX0_count cX0_count 1 (some (Jvm.ClassFile.FieldType.int)))) B.pre
  have hts : ∀ w ∈ gLW, w.before _ s = true := fun w hw => hts0 w (List.mem_cons_of_mem _ hw)
  have hown : s.vm.findClass RX0 = some m.cls := findClass_of_methodNamed B.named
  have hlocks := B.notSynchronized
  have hH : gH D G s s.heap [] σ μ := ⟨hP, va_S.rf⟩
  have hl := lv_entry ([.ref (G.1 b)]) (n := 1) (Nat.le_of_ble_eq_true rfl)
  rw [lg_entry_eq]
  generalize (lg_sl ([.ref (G.1 b)]) ++ List.replicate (1 - (lg_sl ([.ref (G.1 b)])).length) Slot.unset).toArray = ls at hl ⊢
  have hl : lv_has ls 1 [(0, .ref (G.1 b))] := hl
  unfold DX0_count at h
  refine lv_aload_n hx hb0 dX0_count_0 rfl (lv_at hl 0 rfl) ?_
  refine g_getI hx hb0 hts q_ws_X0 hown hX hH (C := RX0) (T := TX0) (N := 8) (k := b) (i := 6) hb.k rfl (by decide) (hts _ q_fl_X0_29) rfl rfl dX0_count_1 ?_
  exact g_iretP hx hb0 hr hH hlocks dX0_count_4 h
def DX5_last (b : Nat) (σ : gSt) (a1 : Int) : Option (Int) :=
  (DX4_at (b + 5) 24 σ a1).bind fun q5 => (DX4_at (b + 7) 24 σ a1).bind fun q13 => some ((q5 + q13) - (1 : Int))
set_option maxHeartbeats 4000000 in
set_option maxRecDepth 100000 in
theorem metX5_last (l : Launch) (D : va_G) (G : gAd) (b : Nat) (hb : gPlan b) (σ : gSt) (μ : gLg) (a1 : Int) (r : Int) (h : DX5_last b σ a1 = some r) : Met l yX5_last (gWs yX5_last cX5_last 2 (some (Jvm.ClassFile.FieldType.int))) ({ frames := 1, cells := 0, slots := 0, locals := 21 } : Room) (gPc D G [.ref (G.1 b), .int (gI a1)] σ μ) (gQi D G r σ μ) 0 0 (gA G) := by
  refine Met.ofW (cc := cX5_last) (maxL := 2) (ret := (some (Jvm.ClassFile.FieldType.int))) (by decide) rfl ?_
  intro p e s m args below meth c s₁ B hml hv
  obtain ⟨rfl, hP, hX⟩ := hv
  have hx := B.exec
  have hb0 := B.bytes
  have hr := B.returns
  have hts0 := atoms_spec (ws := (gWs yX5_last cX5_last 2 (some (Jvm.ClassFile.FieldType.int)))) B.pre
  have hts : ∀ w ∈ gLW, w.before _ s = true := fun w hw => hts0 w (List.mem_cons_of_mem _ hw)
  have hown : s.vm.findClass RX5 = some m.cls := findClass_of_methodNamed B.named
  have hlocks := B.notSynchronized
  have hH : gH D G s s.heap [] σ μ := ⟨hP, va_S.rf⟩
  have hl := lv_entry ([.ref (G.1 b), .int (gI a1)]) (n := 2) (Nat.le_of_ble_eq_true rfl)
  rw [lg_entry_eq]
  generalize (lg_sl ([.ref (G.1 b), .int (gI a1)]) ++ List.replicate (2 - (lg_sl ([.ref (G.1 b), .int (gI a1)])).length) Slot.unset).toArray = ls at hl ⊢
  have hl : lv_has ls 2 [(0, .ref (G.1 b)), (1, .int (gI a1))] := hl
  unfold DX5_last at h
  refine lv_aload_n hx hb0 dX5_last_0 rfl (lv_at hl 0 rfl) ?_
  refine g_getR hx hb0 hts q_ws_X5 hown hX hH (C := RX5) (T := TX5) (N := 8) (k := b) (i := 2) (j := (b + 5)) hb.k rfl (by decide) (hts _ q_fl_X5_23) rfl rfl dX5_last_1 ?_
  refine lv_iload_n hx hb0 dX5_last_4 rfl (lv_at hl 1 rfl) ?_
  obtain ⟨q5, e5, h⟩ := gBind_some h
  refine g_callVi (k := (b + 5)) (T := TX4) (N := 1) (As := [.int (gI a1)]) (rest := []) ⟨hx, hb0, hml, hown, hts⟩ (metX4_at l D G (b + 5) 24 (hb.n2) σ μ a1 q5 e5) (g_cwV (C := RX4) 1 hts q_ml_X5_43 q_im_X4_at q_se_X4_at q_in_X4 q_co_X4_at ⟨rfl, rfl⟩ (by decide +kernel) ⟨Nat.le_of_ble_eq_true rfl, Nat.le_of_ble_eq_true rfl⟩) hX hH ((hb.n2)).1 rfl rfl hl.1 rfl (Nat.le_of_ble_eq_true rfl) dX5_last_5 ⟨Nat.zero_le _, Nat.zero_le _⟩ (fun H locs hH => ?_)
  refine lv_aload_n hx hb0 dX5_last_8 rfl (lv_at hl 0 rfl) ?_
  refine g_getR hx hb0 hts q_ws_X5 hown hX hH (C := RX5) (T := TX5) (N := 8) (k := b) (i := 3) (j := (b + 7)) hb.k rfl (by decide) (hts _ q_fl_X5_26) rfl rfl dX5_last_9 ?_
  refine lv_iload_n hx hb0 dX5_last_12 rfl (lv_at hl 1 rfl) ?_
  obtain ⟨q13, e13, h⟩ := gBind_some h
  refine g_callVi (k := (b + 7)) (T := TX4) (N := 1) (As := [.int (gI a1)]) (rest := [.int (gI q5)]) ⟨hx, hb0, hml, hown, hts⟩ (metX4_at l D G (b + 7) 24 (hb.n3) σ μ a1 q13 e13) (g_cwV (C := RX4) 1 hts q_ml_X5_43 q_im_X4_at q_se_X4_at q_in_X4 q_co_X4_at ⟨rfl, rfl⟩ (by decide +kernel) ⟨Nat.le_of_ble_eq_true rfl, Nat.le_of_ble_eq_true rfl⟩) hX hH ((hb.n3)).1 rfl rfl hl.1 rfl (Nat.le_of_ble_eq_true rfl) dX5_last_13 ⟨Nat.zero_le _, Nat.zero_le _⟩ (fun H locs hH => ?_)
  refine g_iadd hx hb0 dX5_last_16 ?_
  refine lv_iconst (v := gI (1 : Int)) hx hb0 dX5_last_17 (by decide) ?_
  refine g_isub hx hb0 dX5_last_18 ?_
  exact g_iretP hx hb0 hr hH hlocks dX5_last_19 h
def DX8_stripOfDay (σ : gSt) (a0 : Int) (a1 : Int) : Option (Int) :=
  gIf ((0 : Int) < a1) a1 (0 : Int) (gDv a0 a1 (some (a0 / a1))) (some (0 : Int))
set_option maxHeartbeats 4000000 in
set_option maxRecDepth 100000 in
theorem metX8_stripOfDay (l : Launch) (D : va_G) (G : gAd) (σ : gSt) (μ : gLg) (a0 : Int) (a1 : Int) (r : Int) (h : DX8_stripOfDay σ a0 a1 = some r) : Met l yX8_stripOfDay (gWs yX8_stripOfDay cX8_stripOfDay 2 (some (Jvm.ClassFile.FieldType.int))) ({ frames := 0, cells := 0, slots := 0, locals := 0 } : Room) (gPc D G [.int (gI a0), .int (gI a1)] σ μ) (gQi D G r σ μ) 0 0 (gA G) := by
  refine Met.ofW (cc := cX8_stripOfDay) (maxL := 2) (ret := (some (Jvm.ClassFile.FieldType.int))) (by decide) rfl ?_
  intro p e s m args below meth c s₁ B hml hv
  obtain ⟨rfl, hP, hX⟩ := hv
  have hx := B.exec
  have hb0 := B.bytes
  have hr := B.returns
  have hts0 := atoms_spec (ws := (gWs yX8_stripOfDay cX8_stripOfDay 2 (some (Jvm.ClassFile.FieldType.int)))) B.pre
  have hts : ∀ w ∈ gLW, w.before _ s = true := fun w hw => hts0 w (List.mem_cons_of_mem _ hw)
  have hown : s.vm.findClass RX8 = some m.cls := findClass_of_methodNamed B.named
  have hlocks := B.notSynchronized
  have hH : gH D G s s.heap [] σ μ := ⟨hP, va_S.rf⟩
  have hl := lv_entry ([.int (gI a0), .int (gI a1)]) (n := 2) (Nat.le_of_ble_eq_true rfl)
  rw [lg_entry_eq]
  generalize (lg_sl ([.int (gI a0), .int (gI a1)]) ++ List.replicate (2 - (lg_sl ([.int (gI a0), .int (gI a1)])).length) Slot.unset).toArray = ls at hl ⊢
  have hl : lv_has ls 2 [(0, .int (gI a0)), (1, .int (gI a1))] := hl
  unfold DX8_stripOfDay at h
  refine lv_iload_n hx hb0 dX8_stripOfDay_0 rfl (lv_at hl 1 rfl) ?_
  refine g_if_le (tgt := 10) hx hb0 dX8_stripOfDay_1 (by decide) h (fun h => ?_) (fun h => ?_)
  · refine lv_iconst (v := gI (0 : Int)) hx hb0 dX8_stripOfDay_10 (by decide) ?_
    exact g_iretP hx hb0 hr hH hlocks dX8_stripOfDay_11 h
  · refine lv_iload_n hx hb0 dX8_stripOfDay_4 rfl (lv_at hl 0 rfl) ?_
    refine lv_iload_n hx hb0 dX8_stripOfDay_5 rfl (lv_at hl 1 rfl) ?_
    refine g_idiv hx hb0 dX8_stripOfDay_6 h (fun h => ?_)
    refine lv_goto (tgt := 11) hx hb0 dX8_stripOfDay_7 (by decide) ?_
    exact g_iretP hx hb0 hr hH hlocks dX8_stripOfDay_11 h
def DX0_bandOf (b : Nat) (σ : gSt) (a1 : Int) : Option (Int) :=
  (DX4_at (b + 3) 24 σ a1).bind fun q5 => some q5
set_option maxHeartbeats 4000000 in
set_option maxRecDepth 100000 in
theorem metX0_bandOf (l : Launch) (D : va_G) (G : gAd) (b : Nat) (hb : gBands b) (σ : gSt) (μ : gLg) (a1 : Int) (r : Int) (h : DX0_bandOf b σ a1 = some r) : Met l yX0_bandOf (gWs yX0_bandOf cX0_bandOf 2 (some (Jvm.ClassFile.FieldType.int))) ({ frames := 1, cells := 0, slots := 0, locals := 21 } : Room) (gPc D G [.ref (G.1 b), .int (gI a1)] σ μ) (gQi D G r σ μ) 0 0 (gA G) := by
  refine Met.ofW (cc := cX0_bandOf) (maxL := 2) (ret := (some (Jvm.ClassFile.FieldType.int))) (by decide) rfl ?_
  intro p e s m args below meth c s₁ B hml hv
  obtain ⟨rfl, hP, hX⟩ := hv
  have hx := B.exec
  have hb0 := B.bytes
  have hr := B.returns
  have hts0 := atoms_spec (ws := (gWs yX0_bandOf cX0_bandOf 2 (some (Jvm.ClassFile.FieldType.int)))) B.pre
  have hts : ∀ w ∈ gLW, w.before _ s = true := fun w hw => hts0 w (List.mem_cons_of_mem _ hw)
  have hown : s.vm.findClass RX0 = some m.cls := findClass_of_methodNamed B.named
  have hlocks := B.notSynchronized
  have hH : gH D G s s.heap [] σ μ := ⟨hP, va_S.rf⟩
  have hl := lv_entry ([.ref (G.1 b), .int (gI a1)]) (n := 2) (Nat.le_of_ble_eq_true rfl)
  rw [lg_entry_eq]
  generalize (lg_sl ([.ref (G.1 b), .int (gI a1)]) ++ List.replicate (2 - (lg_sl ([.ref (G.1 b), .int (gI a1)])).length) Slot.unset).toArray = ls at hl ⊢
  have hl : lv_has ls 2 [(0, .ref (G.1 b)), (1, .int (gI a1))] := hl
  unfold DX0_bandOf at h
  refine lv_aload_n hx hb0 dX0_bandOf_0 rfl (lv_at hl 0 rfl) ?_
  refine g_getR hx hb0 hts q_ws_X0 hown hX hH (C := RX0) (T := TX0) (N := 8) (k := b) (i := 1) (j := (b + 3)) hb.k rfl (by decide) (hts _ q_fl_X0_20) rfl rfl dX0_bandOf_1 ?_
  refine lv_iload_n hx hb0 dX0_bandOf_4 rfl (lv_at hl 1 rfl) ?_
  obtain ⟨q5, e5, h⟩ := gBind_some h
  refine g_callVi (k := (b + 3)) (T := TX4) (N := 1) (As := [.int (gI a1)]) (rest := []) ⟨hx, hb0, hml, hown, hts⟩ (metX4_at l D G (b + 3) 24 (hb.n1) σ μ a1 q5 e5) (g_cwV (C := RX4) 1 hts q_ml_X0_33 q_im_X4_at q_se_X4_at q_in_X4 q_co_X4_at ⟨rfl, rfl⟩ (by decide +kernel) ⟨Nat.le_of_ble_eq_true rfl, Nat.le_of_ble_eq_true rfl⟩) hX hH ((hb.n1)).1 rfl rfl hl.1 rfl (Nat.le_of_ble_eq_true rfl) dX0_bandOf_5 ⟨Nat.zero_le _, Nat.zero_le _⟩ (fun H locs hH => ?_)
  exact g_iretP hx hb0 hr hH hlocks dX0_bandOf_8 h
def DX6_spot_J25 (a0 : Int) (a1 : Int) (t0_25 : Int) : Option (Int) :=
  gIf (t0_25 = (0 : Int)) t0_25 (0 : Int) (some (-1 : Int)) (some ((a0 * (52 : Int)) + a1))
def DX6_spot_J24 (a0 : Int) (a1 : Int) : Option (Int) :=
  (DX6_spot_J25 a0 a1 (0 : Int))
def DX6_spot (σ : gSt) (a0 : Int) (a1 : Int) : Option (Int) :=
  gIf (a0 < (0 : Int)) a0 (0 : Int) ((DX6_spot_J24 a0 a1)) (gIf (a0 < (24 : Int)) a0 (24 : Int) (gIf (a1 < (0 : Int)) a1 (0 : Int) ((DX6_spot_J24 a0 a1)) (gIf (a1 < (52 : Int)) a1 (52 : Int) ((DX6_spot_J25 a0 a1 (1 : Int))) ((DX6_spot_J24 a0 a1)))) ((DX6_spot_J24 a0 a1)))
set_option maxHeartbeats 4000000 in
set_option maxRecDepth 100000 in
theorem metX6_spot (l : Launch) (D : va_G) (G : gAd) (σ : gSt) (μ : gLg) (a0 : Int) (a1 : Int) (r : Int) (h : DX6_spot σ a0 a1 = some r) : Met l yX6_spot (gWs yX6_spot cX6_spot 3 (some (Jvm.ClassFile.FieldType.int))) ({ frames := 0, cells := 0, slots := 0, locals := 0 } : Room) (gPc D G [.int (gI a0), .int (gI a1)] σ μ) (gQi D G r σ μ) 0 0 (gA G) := by
  refine Met.ofW (cc := cX6_spot) (maxL := 3) (ret := (some (Jvm.ClassFile.FieldType.int))) (by decide) rfl ?_
  intro p e s m args below meth c s₁ B hml hv
  obtain ⟨rfl, hP, hX⟩ := hv
  have hx := B.exec
  have hb0 := B.bytes
  have hr := B.returns
  have hts0 := atoms_spec (ws := (gWs yX6_spot cX6_spot 3 (some (Jvm.ClassFile.FieldType.int)))) B.pre
  have hts : ∀ w ∈ gLW, w.before _ s = true := fun w hw => hts0 w (List.mem_cons_of_mem _ hw)
  have hown : s.vm.findClass RX6 = some m.cls := findClass_of_methodNamed B.named
  have hlocks := B.notSynchronized
  have hH : gH D G s s.heap [] σ μ := ⟨hP, va_S.rf⟩
  have hl := lv_entry ([.int (gI a0), .int (gI a1)]) (n := 3) (Nat.le_of_ble_eq_true rfl)
  rw [lg_entry_eq]
  generalize (lg_sl ([.int (gI a0), .int (gI a1)]) ++ List.replicate (3 - (lg_sl ([.int (gI a0), .int (gI a1)])).length) Slot.unset).toArray = ls at hl ⊢
  have hl : lv_has ls 3 [(0, .int (gI a0)), (1, .int (gI a1))] := hl
  unfold DX6_spot at h
  refine lv_iload_n hx hb0 dX6_spot_0 rfl (lv_at hl 0 rfl) ?_
  have hJ25 : ∀ (t0_25 : Int) (H : Heap) (locs : List Loc) (ls : Array Slot), gH D G s H locs σ μ → lv_has ls 3 [(0, .int (gI a0)), (1, .int (gI a1))] → (DX6_spot_J25 a0 a1 t0_25) = some r → W p l e (headSpec (gWs yX6_spot cX6_spot 3 (some (Jvm.ClassFile.FieldType.int))) ({ frames := 0, cells := 0, slots := 0, locals := 0 } : Room)).room s m ([.int (gI a0), .int (gI a1)] : List Value).toArray below meth c H locs 0 0 (MQ below (gQi D G r σ μ) ([.int (gI a0), .int (gI a1)] : List Value).toArray s 0 0 (gA G)) (F0 m 25 ls [.int (gI t0_25)]) := by
    intro t0_25 H locs ls hH hl h
    unfold DX6_spot_J25 at h
    refine lv_istore_n (lv' := [(2, .int (gI t0_25)), (0, .int (gI a0)), (1, .int (gI a1))]) hx hb0 dX6_spot_25 rfl hl (by decide) rfl (fun ls hl => ?_)
    refine lv_iload_n hx hb0 dX6_spot_26 rfl (lv_at hl 0 rfl) ?_
    refine g_if_eq (tgt := 39) hx hb0 dX6_spot_27 (by decide) h (fun h => ?_) (fun h => ?_)
    · refine lv_iconst (v := gI (-1 : Int)) hx hb0 dX6_spot_39 (by decide) ?_
      exact g_iretP hx hb0 hr hH hlocks dX6_spot_40 h
    · refine lv_iload_n hx hb0 dX6_spot_30 rfl (lv_at hl 1 rfl) ?_
      refine lv_bipush (v := gI (52 : Int)) hx hb0 dX6_spot_31 (by decide) ?_
      refine g_imul hx hb0 dX6_spot_33 ?_
      refine lv_iload_n hx hb0 dX6_spot_34 rfl (lv_at hl 2 rfl) ?_
      refine g_iadd hx hb0 dX6_spot_35 ?_
      refine lv_goto (tgt := 40) hx hb0 dX6_spot_36 (by decide) ?_
      exact g_iretP hx hb0 hr hH hlocks dX6_spot_40 h
  have hJ24 : ∀  (H : Heap) (locs : List Loc) (ls : Array Slot), gH D G s H locs σ μ → lv_has ls 3 [(0, .int (gI a0)), (1, .int (gI a1))] → (DX6_spot_J24 a0 a1) = some r → W p l e (headSpec (gWs yX6_spot cX6_spot 3 (some (Jvm.ClassFile.FieldType.int))) ({ frames := 0, cells := 0, slots := 0, locals := 0 } : Room)).room s m ([.int (gI a0), .int (gI a1)] : List Value).toArray below meth c H locs 0 0 (MQ below (gQi D G r σ μ) ([.int (gI a0), .int (gI a1)] : List Value).toArray s 0 0 (gA G)) (F0 m 24 ls []) := by
    intro H locs ls hH hl h
    unfold DX6_spot_J24 at h
    refine lv_iconst (v := gI (0 : Int)) hx hb0 dX6_spot_24 (by decide) ?_
    exact hJ25 _ _ _ _ hH (lv_sub hl [0, 1] rfl) h
  refine g_if_lt (tgt := 24) hx hb0 dX6_spot_1 (by decide) h (fun h => ?_) (fun h => ?_)
  · exact hJ24  _ _ _ hH (lv_sub hl [0, 1] rfl) h
  · refine lv_iload_n hx hb0 dX6_spot_4 rfl (lv_at hl 0 rfl) ?_
    refine lv_bipush (v := gI (24 : Int)) hx hb0 dX6_spot_5 (by decide) ?_
    refine g_icmp_ge (tgt := 24) hx hb0 dX6_spot_7 (by decide) h (fun h => ?_) (fun h => ?_)
    · exact hJ24  _ _ _ hH (lv_sub hl [0, 1] rfl) h
    · refine lv_iload_n hx hb0 dX6_spot_10 rfl (lv_at hl 1 rfl) ?_
      refine g_if_lt (tgt := 24) hx hb0 dX6_spot_11 (by decide) h (fun h => ?_) (fun h => ?_)
      · exact hJ24  _ _ _ hH (lv_sub hl [0, 1] rfl) h
      · refine lv_iload_n hx hb0 dX6_spot_14 rfl (lv_at hl 1 rfl) ?_
        refine lv_bipush (v := gI (52 : Int)) hx hb0 dX6_spot_15 (by decide) ?_
        refine g_icmp_ge (tgt := 24) hx hb0 dX6_spot_17 (by decide) h (fun h => ?_) (fun h => ?_)
        · exact hJ24  _ _ _ hH (lv_sub hl [0, 1] rfl) h
        · refine lv_iconst (v := gI (1 : Int)) hx hb0 dX6_spot_20 (by decide) ?_
          refine lv_goto (tgt := 25) hx hb0 dX6_spot_21 (by decide) ?_
          exact hJ25 _ _ _ _ hH (lv_sub hl [0, 1] rfl) h
def DX4_increase (n : Nat) (len : Nat) (σ : gSt) (a1 : Int) : Option (gSt) :=
  (DX4_at n len σ a1).bind fun q4 => (DX4_put n len σ a1 (q4 + (1 : Int))).bind fun q9 => some q9
set_option maxHeartbeats 4000000 in
set_option maxRecDepth 100000 in
theorem metX4_increase (l : Launch) (D : va_G) (G : gAd) (n : Nat) (len : Nat) (hk : gNum n len) (σ : gSt) (μ : gLg) (a1 : Int) (σ' : gSt) (h : DX4_increase n len σ a1 = some σ') : Met l yX4_increase (gWs yX4_increase cX4_increase 2 none) ({ frames := 1, cells := 0, slots := 0, locals := 22 } : Room) (gPc D G [.ref (G.1 n), .int (gI a1)] σ μ) (gQv D G σ' μ) 0 0 (gA G) := by
  refine Met.ofW (cc := cX4_increase) (maxL := 2) (ret := none) (by decide) rfl ?_
  intro p e s m args below meth c s₁ B hml hv
  obtain ⟨rfl, hP, hX⟩ := hv
  have hx := B.exec
  have hb0 := B.bytes
  have hr := B.returns
  have hts0 := atoms_spec (ws := (gWs yX4_increase cX4_increase 2 none)) B.pre
  have hts : ∀ w ∈ gLW, w.before _ s = true := fun w hw => hts0 w (List.mem_cons_of_mem _ hw)
  have hown : s.vm.findClass RX4 = some m.cls := findClass_of_methodNamed B.named
  have hlocks := B.notSynchronized
  have hH : gH D G s s.heap [] σ μ := ⟨hP, va_S.rf⟩
  have hl := lv_entry ([.ref (G.1 n), .int (gI a1)]) (n := 2) (Nat.le_of_ble_eq_true rfl)
  rw [lg_entry_eq]
  generalize (lg_sl ([.ref (G.1 n), .int (gI a1)]) ++ List.replicate (2 - (lg_sl ([.ref (G.1 n), .int (gI a1)])).length) Slot.unset).toArray = ls at hl ⊢
  have hl : lv_has ls 2 [(0, .ref (G.1 n)), (1, .int (gI a1))] := hl
  unfold DX4_increase at h
  refine lv_aload_n hx hb0 dX4_increase_0 rfl (lv_at hl 0 rfl) ?_
  refine lv_iload_n hx hb0 dX4_increase_1 rfl (lv_at hl 1 rfl) ?_
  refine lv_aload_n hx hb0 dX4_increase_2 rfl (lv_at hl 0 rfl) ?_
  refine lv_iload_n hx hb0 dX4_increase_3 rfl (lv_at hl 1 rfl) ?_
  obtain ⟨q4, e4, h⟩ := gBind_some h
  refine g_callVi (k := n) (T := TX4) (N := 1) (As := [.int (gI a1)]) (rest := [.int (gI a1), .ref (G.1 n)]) ⟨hx, hb0, hml, hown, hts⟩ (metX4_at l D G n len hk σ μ a1 q4 e4) (g_cwV (C := RX4) 1 hts q_ml_X4_15 q_im_X4_at q_se_X4_at q_in_X4 q_co_X4_at ⟨rfl, rfl⟩ (by decide +kernel) ⟨Nat.le_of_ble_eq_true rfl, Nat.le_of_ble_eq_true rfl⟩) hX hH (hk).1 rfl rfl hl.1 rfl (Nat.le_of_ble_eq_true rfl) dX4_increase_4 ⟨Nat.zero_le _, Nat.zero_le _⟩ (fun H locs hH => ?_)
  refine lv_iconst (v := gI (1 : Int)) hx hb0 dX4_increase_7 (by decide) ?_
  refine g_iadd hx hb0 dX4_increase_8 ?_
  obtain ⟨q9, e9, h⟩ := gBind_some h
  refine g_callVv (k := n) (T := TX4) (N := 1) (As := [.int (gI a1), .int (gI (q4 + (1 : Int)))]) (rest := []) ⟨hx, hb0, hml, hown, hts⟩ (metX4_put l D G n len hk σ μ a1 (q4 + (1 : Int)) q9 e9) (g_cwV (C := RX4) 2 hts q_ml_X4_19 q_im_X4_put q_se_X4_put q_in_X4 q_co_X4_put ⟨rfl, rfl⟩ (by decide +kernel) ⟨Nat.le_of_ble_eq_true rfl, Nat.le_of_ble_eq_true rfl⟩) hX hH (hk).1 rfl rfl hl.1 rfl (Nat.le_of_ble_eq_true rfl) dX4_increase_9 ⟨Nat.zero_le _, Nat.zero_le _⟩ (fun H locs hH => ?_)
  exact g_vretS hx hb0 hr hH hlocks dX4_increase_12 h
def DX6_number (b : Nat) (σ : gSt) (a1 : Int) (a2 : Int) : Option (gSt) :=
  (DX6_spot σ a1 a2).bind fun q2 => (DX4_at (b + 1) 1248 σ q2).bind fun q11 => gIf ((0 : Int) < q11) q11 (0 : Int) ((DX4_put (b + 3) 1248 σ q2 (σ b 4)).bind fun q26 => (DX4_put (b + 5) 312 q26 (q26 b 4) a1).bind fun q38 => (DX4_put (b + 7) 312 q38 (q38 b 4) a2).bind fun q50 => some (gUp q50 b 4 ((q50 b 4) + (1 : Int)))) (some σ)
set_option maxHeartbeats 4000000 in
set_option maxRecDepth 100000 in
theorem metX6_number (l : Launch) (D : va_G) (G : gAd) (b : Nat) (hb : gSheets b) (σ : gSt) (μ : gLg) (a1 : Int) (a2 : Int) (σ' : gSt) (h : DX6_number b σ a1 a2 = some σ') : Met l yX6_number (gWs yX6_number cX6_number 4 none) ({ frames := 1, cells := 0, slots := 0, locals := 22 } : Room) (gPc D G [.ref (G.1 b), .int (gI a1), .int (gI a2)] σ μ) (gQv D G σ' μ) 0 0 (gA G) := by
  refine Met.ofW (cc := cX6_number) (maxL := 4) (ret := none) (by decide) rfl ?_
  intro p e s m args below meth c s₁ B hml hv
  obtain ⟨rfl, hP, hX⟩ := hv
  have hx := B.exec
  have hb0 := B.bytes
  have hr := B.returns
  have hts0 := atoms_spec (ws := (gWs yX6_number cX6_number 4 none)) B.pre
  have hts : ∀ w ∈ gLW, w.before _ s = true := fun w hw => hts0 w (List.mem_cons_of_mem _ hw)
  have hown : s.vm.findClass RX6 = some m.cls := findClass_of_methodNamed B.named
  have hlocks := B.notSynchronized
  have hH : gH D G s s.heap [] σ μ := ⟨hP, va_S.rf⟩
  have hl := lv_entry ([.ref (G.1 b), .int (gI a1), .int (gI a2)]) (n := 4) (Nat.le_of_ble_eq_true rfl)
  rw [lg_entry_eq]
  generalize (lg_sl ([.ref (G.1 b), .int (gI a1), .int (gI a2)]) ++ List.replicate (4 - (lg_sl ([.ref (G.1 b), .int (gI a1), .int (gI a2)])).length) Slot.unset).toArray = ls at hl ⊢
  have hl : lv_has ls 4 [(0, .ref (G.1 b)), (1, .int (gI a1)), (2, .int (gI a2))] := hl
  unfold DX6_number at h
  refine lv_iload_n hx hb0 dX6_number_0 rfl (lv_at hl 1 rfl) ?_
  refine lv_iload_n hx hb0 dX6_number_1 rfl (lv_at hl 2 rfl) ?_
  obtain ⟨q2, e2, h⟩ := gBind_some h
  refine g_callSi (As := [.int (gI a1), .int (gI a2)]) (rest := []) ⟨hx, hb0, hml, hown, hts⟩ (metX6_spot l D G σ μ a1 a2 q2 e2) (g_cwS 2 hts q_ml_X6_43 q_st_X6_spot q_in_X6 q_co_X6_spot ⟨rfl, rfl⟩ (by decide +kernel) ⟨Nat.le_of_ble_eq_true rfl, Nat.le_of_ble_eq_true rfl⟩) hX hH rfl hl.1 rfl (Nat.le_of_ble_eq_true rfl) dX6_number_2 ⟨Nat.zero_le _, Nat.zero_le _⟩ (fun H locs hH => ?_)
  refine lv_istore_n (lv' := [(3, .int (gI q2)), (0, .ref (G.1 b)), (1, .int (gI a1)), (2, .int (gI a2))]) hx hb0 dX6_number_5 rfl hl (by decide) rfl (fun ls hl => ?_)
  refine lv_aload_n hx hb0 dX6_number_6 rfl (lv_at hl 1 rfl) ?_
  refine g_getR hx hb0 hts q_ws_X6 hown hX hH (C := RX6) (T := TX6) (N := 5) (k := b) (i := 0) (j := (b + 1)) hb.k rfl (by decide) (hts _ q_fl_X6_14) rfl rfl dX6_number_7 ?_
  refine lv_iload_n hx hb0 dX6_number_10 rfl (lv_at hl 0 rfl) ?_
  obtain ⟨q11, e11, h⟩ := gBind_some h
  refine g_callVi (k := (b + 1)) (T := TX4) (N := 1) (As := [.int (gI q2)]) (rest := []) ⟨hx, hb0, hml, hown, hts⟩ (metX4_at l D G (b + 1) 1248 (hb.n0) σ μ q2 q11 e11) (g_cwV (C := RX4) 1 hts q_ml_X6_33 q_im_X4_at q_se_X4_at q_in_X4 q_co_X4_at ⟨rfl, rfl⟩ (by decide +kernel) ⟨Nat.le_of_ble_eq_true rfl, Nat.le_of_ble_eq_true rfl⟩) hX hH ((hb.n0)).1 rfl rfl hl.1 rfl (Nat.le_of_ble_eq_true rfl) dX6_number_11 ⟨Nat.zero_le _, Nat.zero_le _⟩ (fun H locs hH => ?_)
  refine g_if_le (tgt := 63) hx hb0 dX6_number_14 (by decide) h (fun h => ?_) (fun h => ?_)
  · exact g_vretS hx hb0 hr hH hlocks dX6_number_63 h
  · refine lv_aload_n hx hb0 dX6_number_17 rfl (lv_at hl 1 rfl) ?_
    refine g_getR hx hb0 hts q_ws_X6 hown hX hH (C := RX6) (T := TX6) (N := 5) (k := b) (i := 1) (j := (b + 3)) hb.k rfl (by decide) (hts _ q_fl_X6_20) rfl rfl dX6_number_18 ?_
    refine lv_iload_n hx hb0 dX6_number_21 rfl (lv_at hl 0 rfl) ?_
    refine lv_aload_n hx hb0 dX6_number_22 rfl (lv_at hl 1 rfl) ?_
    refine g_getI hx hb0 hts q_ws_X6 hown hX hH (C := RX6) (T := TX6) (N := 5) (k := b) (i := 4) hb.k rfl (by decide) (hts _ q_fl_X6_29) rfl rfl dX6_number_23 ?_
    obtain ⟨q26, e26, h⟩ := gBind_some h
    refine g_callVv (k := (b + 3)) (T := TX4) (N := 1) (As := [.int (gI q2), .int (gI (σ b 4))]) (rest := []) ⟨hx, hb0, hml, hown, hts⟩ (metX4_put l D G (b + 3) 1248 (hb.n1) σ μ q2 (σ b 4) q26 e26) (g_cwV (C := RX4) 2 hts q_ml_X6_87 q_im_X4_put q_se_X4_put q_in_X4 q_co_X4_put ⟨rfl, rfl⟩ (by decide +kernel) ⟨Nat.le_of_ble_eq_true rfl, Nat.le_of_ble_eq_true rfl⟩) hX hH ((hb.n1)).1 rfl rfl hl.1 rfl (Nat.le_of_ble_eq_true rfl) dX6_number_26 ⟨Nat.zero_le _, Nat.zero_le _⟩ (fun H locs hH => ?_)
    refine lv_aload_n hx hb0 dX6_number_29 rfl (lv_at hl 1 rfl) ?_
    refine g_getR hx hb0 hts q_ws_X6 hown hX hH (C := RX6) (T := TX6) (N := 5) (k := b) (i := 2) (j := (b + 5)) hb.k rfl (by decide) (hts _ q_fl_X6_23) rfl rfl dX6_number_30 ?_
    refine lv_aload_n hx hb0 dX6_number_33 rfl (lv_at hl 1 rfl) ?_
    refine g_getI hx hb0 hts q_ws_X6 hown hX hH (C := RX6) (T := TX6) (N := 5) (k := b) (i := 4) hb.k rfl (by decide) (hts _ q_fl_X6_29) rfl rfl dX6_number_34 ?_
    refine lv_iload_n hx hb0 dX6_number_37 rfl (lv_at hl 2 rfl) ?_
    obtain ⟨q38, e38, h⟩ := gBind_some h
    refine g_callVv (k := (b + 5)) (T := TX4) (N := 1) (As := [.int (gI (q26 b 4)), .int (gI a1)]) (rest := []) ⟨hx, hb0, hml, hown, hts⟩ (metX4_put l D G (b + 5) 312 (hb.n2) q26 μ (q26 b 4) a1 q38 e38) (g_cwV (C := RX4) 2 hts q_ml_X6_87 q_im_X4_put q_se_X4_put q_in_X4 q_co_X4_put ⟨rfl, rfl⟩ (by decide +kernel) ⟨Nat.le_of_ble_eq_true rfl, Nat.le_of_ble_eq_true rfl⟩) hX hH ((hb.n2)).1 rfl rfl hl.1 rfl (Nat.le_of_ble_eq_true rfl) dX6_number_38 ⟨Nat.zero_le _, Nat.zero_le _⟩ (fun H locs hH => ?_)
    refine lv_aload_n hx hb0 dX6_number_41 rfl (lv_at hl 1 rfl) ?_
    refine g_getR hx hb0 hts q_ws_X6 hown hX hH (C := RX6) (T := TX6) (N := 5) (k := b) (i := 3) (j := (b + 7)) hb.k rfl (by decide) (hts _ q_fl_X6_26) rfl rfl dX6_number_42 ?_
    refine lv_aload_n hx hb0 dX6_number_45 rfl (lv_at hl 1 rfl) ?_
    refine g_getI hx hb0 hts q_ws_X6 hown hX hH (C := RX6) (T := TX6) (N := 5) (k := b) (i := 4) hb.k rfl (by decide) (hts _ q_fl_X6_29) rfl rfl dX6_number_46 ?_
    refine lv_iload_n hx hb0 dX6_number_49 rfl (lv_at hl 3 rfl) ?_
    obtain ⟨q50, e50, h⟩ := gBind_some h
    refine g_callVv (k := (b + 7)) (T := TX4) (N := 1) (As := [.int (gI (q38 b 4)), .int (gI a2)]) (rest := []) ⟨hx, hb0, hml, hown, hts⟩ (metX4_put l D G (b + 7) 312 (hb.n3) q38 μ (q38 b 4) a2 q50 e50) (g_cwV (C := RX4) 2 hts q_ml_X6_87 q_im_X4_put q_se_X4_put q_in_X4 q_co_X4_put ⟨rfl, rfl⟩ (by decide +kernel) ⟨Nat.le_of_ble_eq_true rfl, Nat.le_of_ble_eq_true rfl⟩) hX hH ((hb.n3)).1 rfl rfl hl.1 rfl (Nat.le_of_ble_eq_true rfl) dX6_number_50 ⟨Nat.zero_le _, Nat.zero_le _⟩ (fun H locs hH => ?_)
    refine lv_aload_n hx hb0 dX6_number_53 rfl (lv_at hl 1 rfl) ?_
    refine lv_dup hx hb0 dX6_number_54 rfl ?_
    refine g_getI hx hb0 hts q_ws_X6 hown hX hH (C := RX6) (T := TX6) (N := 5) (k := b) (i := 4) hb.k rfl (by decide) (hts _ q_fl_X6_29) rfl rfl dX6_number_55 ?_
    refine lv_iconst (v := gI (1 : Int)) hx hb0 dX6_number_58 (by decide) ?_
    refine g_iadd hx hb0 dX6_number_59 ?_
    refine g_putI hx hb0 hts q_ws_X6 tyX6 tyX6_ok nmX6 hown hX hH (C := RX6) (T := TX6) (N := 5) (k := b) (i := 4) hb.k rfl (by decide) (hts _ q_fl_X6_29) rfl rfl rfl rfl dX6_number_60 (fun H locs hH => ?_)
    exact g_vretS hx hb0 hr hH hlocks dX6_number_63 h
def DX6_numberByBands_K29 (R2 : Int → gSt → Option (gSt)) (x3_2 : Int) (σ29 : gSt) : Option (gSt) :=
  (R2 (x3_2 + (1 : Int)) σ29)
def DX6_numberByBands_L10 (K29 : gSt → Option (gSt)) (b : Nat) (a2 : Int) (x3_2 : Int) : Nat → Int → gSt → Option (gSt)
  | 0, _, _ => none
  | f10 + 1, x4_10, σ10 => gIf (x4_10 < a2) x4_10 a2 ((DX6_number b σ10 x3_2 x4_10).bind fun q20 => ((DX6_numberByBands_L10 K29 b a2 x3_2 f10) (x4_10 + (1 : Int)) q20)) ((K29 σ10))
def DX6_numberByBands_L2 (b : Nat) (a1 : Int) (a2 : Int) : Nat → Int → gSt → Option (gSt)
  | 0, _, _ => none
  | f2 + 1, x3_2, σ2 => gIf (x3_2 < a1) x3_2 a1 ((DX6_numberByBands_L10 (DX6_numberByBands_K29 (DX6_numberByBands_L2 b a1 a2 f2) x3_2) b a2 x3_2 gFuel (0 : Int) σ2)) (some σ2)
def DX6_numberByBands (b : Nat) (σ : gSt) (a1 : Int) (a2 : Int) : Option (gSt) :=
  (DX6_numberByBands_L2 b a1 a2 gFuel (0 : Int) σ)
set_option maxHeartbeats 4000000 in
set_option maxRecDepth 100000 in
theorem metX6_numberByBands (l : Launch) (D : va_G) (G : gAd) (b : Nat) (hb : gSheets b) (σ : gSt) (μ : gLg) (a1 : Int) (a2 : Int) (σ' : gSt) (h : DX6_numberByBands b σ a1 a2 = some σ') : Met l yX6_numberByBands (gWs yX6_numberByBands cX6_numberByBands 5 none) ({ frames := 2, cells := 0, slots := 0, locals := 45 } : Room) (gPc D G [.ref (G.1 b), .int (gI a1), .int (gI a2)] σ μ) (gQv D G σ' μ) 0 0 (gA G) := by
  refine Met.ofW (cc := cX6_numberByBands) (maxL := 5) (ret := none) (by decide) rfl ?_
  intro p e s m args below meth c s₁ B hml hv
  obtain ⟨rfl, hP, hX⟩ := hv
  have hx := B.exec
  have hb0 := B.bytes
  have hr := B.returns
  have hts0 := atoms_spec (ws := (gWs yX6_numberByBands cX6_numberByBands 5 none)) B.pre
  have hts : ∀ w ∈ gLW, w.before _ s = true := fun w hw => hts0 w (List.mem_cons_of_mem _ hw)
  have hown : s.vm.findClass RX6 = some m.cls := findClass_of_methodNamed B.named
  have hlocks := B.notSynchronized
  have hH : gH D G s s.heap [] σ μ := ⟨hP, va_S.rf⟩
  have hl := lv_entry ([.ref (G.1 b), .int (gI a1), .int (gI a2)]) (n := 5) (Nat.le_of_ble_eq_true rfl)
  rw [lg_entry_eq]
  generalize (lg_sl ([.ref (G.1 b), .int (gI a1), .int (gI a2)]) ++ List.replicate (5 - (lg_sl ([.ref (G.1 b), .int (gI a1), .int (gI a2)])).length) Slot.unset).toArray = ls at hl ⊢
  have hl : lv_has ls 5 [(0, .ref (G.1 b)), (1, .int (gI a1)), (2, .int (gI a2))] := hl
  unfold DX6_numberByBands at h
  refine lv_iconst (v := gI (0 : Int)) hx hb0 dX6_numberByBands_0 (by decide) ?_
  refine lv_istore_n (lv' := [(3, .int (gI (0 : Int))), (0, .ref (G.1 b)), (1, .int (gI a1)), (2, .int (gI a2))]) hx hb0 dX6_numberByBands_1 rfl hl (by decide) rfl (fun ls hl => ?_)
  have hL2 : ∀ (f2 : Nat) (x3_2 : Int) (σ2 : gSt) (H : Heap) (locs : List Loc) (ls : Array Slot), gH D G s H locs σ2 μ → lv_has ls 5 [(3, .int (gI x3_2)), (0, .ref (G.1 b)), (1, .int (gI a1)), (2, .int (gI a2))] → (DX6_numberByBands_L2 b a1 a2 f2 x3_2 σ2) = some σ' → W p l e (headSpec (gWs yX6_numberByBands cX6_numberByBands 5 none) ({ frames := 2, cells := 0, slots := 0, locals := 45 } : Room)).room s m ([.ref (G.1 b), .int (gI a1), .int (gI a2)] : List Value).toArray below meth c H locs 0 0 (MQ below (gQv D G σ' μ) ([.ref (G.1 b), .int (gI a1), .int (gI a2)] : List Value).toArray s 0 0 (gA G)) (F0 m 2 ls []) := by
    intro f2
    induction f2 with
    | zero => intro x3_2 σ2 H locs ls hH hl h; cases h
    | succ f2 ih2 =>
      intro x3_2 σ2 H locs ls hH hl h
      unfold DX6_numberByBands_L2 at h
      refine lv_iload_n hx hb0 dX6_numberByBands_2 rfl (lv_at hl 0 rfl) ?_
      refine lv_iload_n hx hb0 dX6_numberByBands_3 rfl (lv_at hl 2 rfl) ?_
      refine g_icmp_ge (tgt := 35) hx hb0 dX6_numberByBands_4 (by decide) h (fun h => ?_) (fun h => ?_)
      · exact g_vretS hx hb0 hr hH hlocks dX6_numberByBands_35 h
      · refine lv_iconst (v := gI (0 : Int)) hx hb0 dX6_numberByBands_7 (by decide) ?_
        refine lv_istore (lv' := [(4, .int (gI (0 : Int))), (3, .int (gI x3_2)), (0, .ref (G.1 b)), (1, .int (gI a1)), (2, .int (gI a2))]) hx hb0 dX6_numberByBands_8 hl (by decide) rfl (fun ls hl => ?_)
        have hK29 : ∀ (σ29 : gSt) (H : Heap) (locs : List Loc) (ls : Array Slot), gH D G s H locs σ29 μ → lv_has ls 5 [(3, .int (gI x3_2)), (0, .ref (G.1 b)), (1, .int (gI a1)), (2, .int (gI a2))] → (DX6_numberByBands_K29 (DX6_numberByBands_L2 b a1 a2 f2) x3_2 σ29) = some σ' → W p l e (headSpec (gWs yX6_numberByBands cX6_numberByBands 5 none) ({ frames := 2, cells := 0, slots := 0, locals := 45 } : Room)).room s m ([.ref (G.1 b), .int (gI a1), .int (gI a2)] : List Value).toArray below meth c H locs 0 0 (MQ below (gQv D G σ' μ) ([.ref (G.1 b), .int (gI a1), .int (gI a2)] : List Value).toArray s 0 0 (gA G)) (F0 m 29 ls []) := by
          intro σ29 H locs ls hH hl h
          unfold DX6_numberByBands_K29 at h
          refine g_iinc (k := 0) (n := (1 : Int)) (lv' := [(3, .int (gI (x3_2 + (1 : Int)))), (0, .ref (G.1 b)), (1, .int (gI a1)), (2, .int (gI a2))]) hx hb0 dX6_numberByBands_29 hl rfl (by decide) rfl (fun ls hl => ?_)
          refine lv_goto (tgt := 2) hx hb0 dX6_numberByBands_32 (by decide) ?_
          exact ih2 _ _ _ _ _ hH (lv_sub hl [0, 1, 2, 3] rfl) h
        have hL10 : ∀ (f10 : Nat) (x4_10 : Int) (σ10 : gSt) (H : Heap) (locs : List Loc) (ls : Array Slot), gH D G s H locs σ10 μ → lv_has ls 5 [(4, .int (gI x4_10)), (3, .int (gI x3_2)), (0, .ref (G.1 b)), (1, .int (gI a1)), (2, .int (gI a2))] → (DX6_numberByBands_L10 (DX6_numberByBands_K29 (DX6_numberByBands_L2 b a1 a2 f2) x3_2) b a2 x3_2 f10 x4_10 σ10) = some σ' → W p l e (headSpec (gWs yX6_numberByBands cX6_numberByBands 5 none) ({ frames := 2, cells := 0, slots := 0, locals := 45 } : Room)).room s m ([.ref (G.1 b), .int (gI a1), .int (gI a2)] : List Value).toArray below meth c H locs 0 0 (MQ below (gQv D G σ' μ) ([.ref (G.1 b), .int (gI a1), .int (gI a2)] : List Value).toArray s 0 0 (gA G)) (F0 m 10 ls []) := by
          intro f10
          induction f10 with
          | zero => intro x4_10 σ10 H locs ls hH hl h; cases h
          | succ f10 ih10 =>
            intro x4_10 σ10 H locs ls hH hl h
            unfold DX6_numberByBands_L10 at h
            refine lv_iload hx hb0 dX6_numberByBands_10 (lv_at hl 0 rfl) ?_
            refine lv_iload_n hx hb0 dX6_numberByBands_12 rfl (lv_at hl 4 rfl) ?_
            refine g_icmp_ge (tgt := 29) hx hb0 dX6_numberByBands_13 (by decide) h (fun h => ?_) (fun h => ?_)
            · exact hK29 _ _ _ _ hH (lv_sub hl [1, 2, 3, 4] rfl) h
            · refine lv_aload_n hx hb0 dX6_numberByBands_16 rfl (lv_at hl 2 rfl) ?_
              refine lv_iload_n hx hb0 dX6_numberByBands_17 rfl (lv_at hl 1 rfl) ?_
              refine lv_iload hx hb0 dX6_numberByBands_18 (lv_at hl 0 rfl) ?_
              obtain ⟨q20, e20, h⟩ := gBind_some h
              refine g_callVv (k := b) (T := TX6) (N := 5) (As := [.int (gI x3_2), .int (gI x4_10)]) (rest := []) ⟨hx, hb0, hml, hown, hts⟩ (metX6_number l D G b hb σ10 μ x3_2 x4_10 q20 e20) (g_cwV (C := RX6) 2 hts q_ml_X6_84 q_im_X6_number q_se_X6_number q_in_X6 q_co_X6_number ⟨rfl, rfl⟩ (by decide +kernel) ⟨Nat.le_of_ble_eq_true rfl, Nat.le_of_ble_eq_true rfl⟩) hX hH hb.k rfl rfl hl.1 rfl (Nat.le_of_ble_eq_true rfl) dX6_numberByBands_20 ⟨Nat.zero_le _, Nat.zero_le _⟩ (fun H locs hH => ?_)
              refine g_iinc (k := 0) (n := (1 : Int)) (lv' := [(4, .int (gI (x4_10 + (1 : Int)))), (3, .int (gI x3_2)), (0, .ref (G.1 b)), (1, .int (gI a1)), (2, .int (gI a2))]) hx hb0 dX6_numberByBands_23 hl rfl (by decide) rfl (fun ls hl => ?_)
              refine lv_goto (tgt := 10) hx hb0 dX6_numberByBands_26 (by decide) ?_
              exact ih10 _ _ _ _ _ hH (lv_sub hl [0, 1, 2, 3, 4] rfl) h
        exact hL10 gFuel _ _ _ _ _ hH (lv_sub hl [0, 1, 2, 3, 4] rfl) h
  exact hL2 gFuel _ _ _ _ _ hH (lv_sub hl [0, 1, 2, 3] rfl) h
def DX6_numberByStrips_K29 (R2 : Int → gSt → Option (gSt)) (x3_2 : Int) (σ29 : gSt) : Option (gSt) :=
  (R2 (x3_2 + (1 : Int)) σ29)
def DX6_numberByStrips_L10 (K29 : gSt → Option (gSt)) (b : Nat) (a1 : Int) (x3_2 : Int) : Nat → Int → gSt → Option (gSt)
  | 0, _, _ => none
  | f10 + 1, x4_10, σ10 => gIf (x4_10 < a1) x4_10 a1 ((DX6_number b σ10 x4_10 x3_2).bind fun q20 => ((DX6_numberByStrips_L10 K29 b a1 x3_2 f10) (x4_10 + (1 : Int)) q20)) ((K29 σ10))
def DX6_numberByStrips_L2 (b : Nat) (a1 : Int) (a2 : Int) : Nat → Int → gSt → Option (gSt)
  | 0, _, _ => none
  | f2 + 1, x3_2, σ2 => gIf (x3_2 < a2) x3_2 a2 ((DX6_numberByStrips_L10 (DX6_numberByStrips_K29 (DX6_numberByStrips_L2 b a1 a2 f2) x3_2) b a1 x3_2 gFuel (0 : Int) σ2)) (some σ2)
def DX6_numberByStrips (b : Nat) (σ : gSt) (a1 : Int) (a2 : Int) : Option (gSt) :=
  (DX6_numberByStrips_L2 b a1 a2 gFuel (0 : Int) σ)
set_option maxHeartbeats 4000000 in
set_option maxRecDepth 100000 in
theorem metX6_numberByStrips (l : Launch) (D : va_G) (G : gAd) (b : Nat) (hb : gSheets b) (σ : gSt) (μ : gLg) (a1 : Int) (a2 : Int) (σ' : gSt) (h : DX6_numberByStrips b σ a1 a2 = some σ') : Met l yX6_numberByStrips (gWs yX6_numberByStrips cX6_numberByStrips 5 none) ({ frames := 2, cells := 0, slots := 0, locals := 45 } : Room) (gPc D G [.ref (G.1 b), .int (gI a1), .int (gI a2)] σ μ) (gQv D G σ' μ) 0 0 (gA G) := by
  refine Met.ofW (cc := cX6_numberByStrips) (maxL := 5) (ret := none) (by decide) rfl ?_
  intro p e s m args below meth c s₁ B hml hv
  obtain ⟨rfl, hP, hX⟩ := hv
  have hx := B.exec
  have hb0 := B.bytes
  have hr := B.returns
  have hts0 := atoms_spec (ws := (gWs yX6_numberByStrips cX6_numberByStrips 5 none)) B.pre
  have hts : ∀ w ∈ gLW, w.before _ s = true := fun w hw => hts0 w (List.mem_cons_of_mem _ hw)
  have hown : s.vm.findClass RX6 = some m.cls := findClass_of_methodNamed B.named
  have hlocks := B.notSynchronized
  have hH : gH D G s s.heap [] σ μ := ⟨hP, va_S.rf⟩
  have hl := lv_entry ([.ref (G.1 b), .int (gI a1), .int (gI a2)]) (n := 5) (Nat.le_of_ble_eq_true rfl)
  rw [lg_entry_eq]
  generalize (lg_sl ([.ref (G.1 b), .int (gI a1), .int (gI a2)]) ++ List.replicate (5 - (lg_sl ([.ref (G.1 b), .int (gI a1), .int (gI a2)])).length) Slot.unset).toArray = ls at hl ⊢
  have hl : lv_has ls 5 [(0, .ref (G.1 b)), (1, .int (gI a1)), (2, .int (gI a2))] := hl
  unfold DX6_numberByStrips at h
  refine lv_iconst (v := gI (0 : Int)) hx hb0 dX6_numberByStrips_0 (by decide) ?_
  refine lv_istore_n (lv' := [(3, .int (gI (0 : Int))), (0, .ref (G.1 b)), (1, .int (gI a1)), (2, .int (gI a2))]) hx hb0 dX6_numberByStrips_1 rfl hl (by decide) rfl (fun ls hl => ?_)
  have hL2 : ∀ (f2 : Nat) (x3_2 : Int) (σ2 : gSt) (H : Heap) (locs : List Loc) (ls : Array Slot), gH D G s H locs σ2 μ → lv_has ls 5 [(3, .int (gI x3_2)), (0, .ref (G.1 b)), (1, .int (gI a1)), (2, .int (gI a2))] → (DX6_numberByStrips_L2 b a1 a2 f2 x3_2 σ2) = some σ' → W p l e (headSpec (gWs yX6_numberByStrips cX6_numberByStrips 5 none) ({ frames := 2, cells := 0, slots := 0, locals := 45 } : Room)).room s m ([.ref (G.1 b), .int (gI a1), .int (gI a2)] : List Value).toArray below meth c H locs 0 0 (MQ below (gQv D G σ' μ) ([.ref (G.1 b), .int (gI a1), .int (gI a2)] : List Value).toArray s 0 0 (gA G)) (F0 m 2 ls []) := by
    intro f2
    induction f2 with
    | zero => intro x3_2 σ2 H locs ls hH hl h; cases h
    | succ f2 ih2 =>
      intro x3_2 σ2 H locs ls hH hl h
      unfold DX6_numberByStrips_L2 at h
      refine lv_iload_n hx hb0 dX6_numberByStrips_2 rfl (lv_at hl 0 rfl) ?_
      refine lv_iload_n hx hb0 dX6_numberByStrips_3 rfl (lv_at hl 3 rfl) ?_
      refine g_icmp_ge (tgt := 35) hx hb0 dX6_numberByStrips_4 (by decide) h (fun h => ?_) (fun h => ?_)
      · exact g_vretS hx hb0 hr hH hlocks dX6_numberByStrips_35 h
      · refine lv_iconst (v := gI (0 : Int)) hx hb0 dX6_numberByStrips_7 (by decide) ?_
        refine lv_istore (lv' := [(4, .int (gI (0 : Int))), (3, .int (gI x3_2)), (0, .ref (G.1 b)), (1, .int (gI a1)), (2, .int (gI a2))]) hx hb0 dX6_numberByStrips_8 hl (by decide) rfl (fun ls hl => ?_)
        have hK29 : ∀ (σ29 : gSt) (H : Heap) (locs : List Loc) (ls : Array Slot), gH D G s H locs σ29 μ → lv_has ls 5 [(3, .int (gI x3_2)), (0, .ref (G.1 b)), (1, .int (gI a1)), (2, .int (gI a2))] → (DX6_numberByStrips_K29 (DX6_numberByStrips_L2 b a1 a2 f2) x3_2 σ29) = some σ' → W p l e (headSpec (gWs yX6_numberByStrips cX6_numberByStrips 5 none) ({ frames := 2, cells := 0, slots := 0, locals := 45 } : Room)).room s m ([.ref (G.1 b), .int (gI a1), .int (gI a2)] : List Value).toArray below meth c H locs 0 0 (MQ below (gQv D G σ' μ) ([.ref (G.1 b), .int (gI a1), .int (gI a2)] : List Value).toArray s 0 0 (gA G)) (F0 m 29 ls []) := by
          intro σ29 H locs ls hH hl h
          unfold DX6_numberByStrips_K29 at h
          refine g_iinc (k := 0) (n := (1 : Int)) (lv' := [(3, .int (gI (x3_2 + (1 : Int)))), (0, .ref (G.1 b)), (1, .int (gI a1)), (2, .int (gI a2))]) hx hb0 dX6_numberByStrips_29 hl rfl (by decide) rfl (fun ls hl => ?_)
          refine lv_goto (tgt := 2) hx hb0 dX6_numberByStrips_32 (by decide) ?_
          exact ih2 _ _ _ _ _ hH (lv_sub hl [0, 1, 2, 3] rfl) h
        have hL10 : ∀ (f10 : Nat) (x4_10 : Int) (σ10 : gSt) (H : Heap) (locs : List Loc) (ls : Array Slot), gH D G s H locs σ10 μ → lv_has ls 5 [(4, .int (gI x4_10)), (3, .int (gI x3_2)), (0, .ref (G.1 b)), (1, .int (gI a1)), (2, .int (gI a2))] → (DX6_numberByStrips_L10 (DX6_numberByStrips_K29 (DX6_numberByStrips_L2 b a1 a2 f2) x3_2) b a1 x3_2 f10 x4_10 σ10) = some σ' → W p l e (headSpec (gWs yX6_numberByStrips cX6_numberByStrips 5 none) ({ frames := 2, cells := 0, slots := 0, locals := 45 } : Room)).room s m ([.ref (G.1 b), .int (gI a1), .int (gI a2)] : List Value).toArray below meth c H locs 0 0 (MQ below (gQv D G σ' μ) ([.ref (G.1 b), .int (gI a1), .int (gI a2)] : List Value).toArray s 0 0 (gA G)) (F0 m 10 ls []) := by
          intro f10
          induction f10 with
          | zero => intro x4_10 σ10 H locs ls hH hl h; cases h
          | succ f10 ih10 =>
            intro x4_10 σ10 H locs ls hH hl h
            unfold DX6_numberByStrips_L10 at h
            refine lv_iload hx hb0 dX6_numberByStrips_10 (lv_at hl 0 rfl) ?_
            refine lv_iload_n hx hb0 dX6_numberByStrips_12 rfl (lv_at hl 3 rfl) ?_
            refine g_icmp_ge (tgt := 29) hx hb0 dX6_numberByStrips_13 (by decide) h (fun h => ?_) (fun h => ?_)
            · exact hK29 _ _ _ _ hH (lv_sub hl [1, 2, 3, 4] rfl) h
            · refine lv_aload_n hx hb0 dX6_numberByStrips_16 rfl (lv_at hl 2 rfl) ?_
              refine lv_iload hx hb0 dX6_numberByStrips_17 (lv_at hl 0 rfl) ?_
              refine lv_iload_n hx hb0 dX6_numberByStrips_19 rfl (lv_at hl 1 rfl) ?_
              obtain ⟨q20, e20, h⟩ := gBind_some h
              refine g_callVv (k := b) (T := TX6) (N := 5) (As := [.int (gI x4_10), .int (gI x3_2)]) (rest := []) ⟨hx, hb0, hml, hown, hts⟩ (metX6_number l D G b hb σ10 μ x4_10 x3_2 q20 e20) (g_cwV (C := RX6) 2 hts q_ml_X6_84 q_im_X6_number q_se_X6_number q_in_X6 q_co_X6_number ⟨rfl, rfl⟩ (by decide +kernel) ⟨Nat.le_of_ble_eq_true rfl, Nat.le_of_ble_eq_true rfl⟩) hX hH hb.k rfl rfl hl.1 rfl (Nat.le_of_ble_eq_true rfl) dX6_numberByStrips_20 ⟨Nat.zero_le _, Nat.zero_le _⟩ (fun H locs hH => ?_)
              refine g_iinc (k := 0) (n := (1 : Int)) (lv' := [(4, .int (gI (x4_10 + (1 : Int)))), (3, .int (gI x3_2)), (0, .ref (G.1 b)), (1, .int (gI a1)), (2, .int (gI a2))]) hx hb0 dX6_numberByStrips_23 hl rfl (by decide) rfl (fun ls hl => ?_)
              refine lv_goto (tgt := 10) hx hb0 dX6_numberByStrips_26 (by decide) ?_
              exact ih10 _ _ _ _ _ hH (lv_sub hl [0, 1, 2, 3, 4] rfl) h
        exact hL10 gFuel _ _ _ _ _ hH (lv_sub hl [0, 1, 2, 3, 4] rfl) h
  exact hL2 gFuel _ _ _ _ _ hH (lv_sub hl [0, 1, 2, 3] rfl) h
