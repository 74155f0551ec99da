def DX5_isLate (b : Nat) (σ : gSt) (a1 : Int) : Option (Int) :=
  (DX5_to b σ a1).bind fun q3 => (DX5_first b σ q3).bind fun q6 => (DX5_from b σ a1).bind fun q12 => (DX5_last b σ q12).bind fun q15 => gIf (q15 < q6) q6 q15 (gBo (0 : Int) (some (0 : Int))) (gBo (1 : Int) (some (1 : Int)))
set_option maxHeartbeats 4000000 in
set_option maxRecDepth 100000 in
theorem metX5_isLate (l : Launch) (D : va_G) (G : gAd) (b : Nat) (hb : gPlan b) (σ : gSt) (μ : gLg) (a1 : Int) (r : Int) (h : DX5_isLate b σ a1 = some r) : Met l yX5_isLate (gWs yX5_isLate cX5_isLate 2 (some (Jvm.ClassFile.FieldType.boolean))) ({ frames := 2, cells := 0, slots := 0, locals := 42 } : Room) (gPc D G [.ref (G.1 b), .int (gI a1)] σ μ) (gQi D G r σ μ) 0 0 (gA G) := by
  refine Met.ofW (cc := cX5_isLate) (maxL := 2) (ret := (some (Jvm.ClassFile.FieldType.boolean))) (by decide) rfl ?_
  intro p e s m args below meth c s₁ B hml hv
  obtain ⟨rfl, hP, hX⟩ := hv
  have hx := B.exec
  have hb0 := B.bytes
  have hr := B.returns
  have hts0 := atoms_spec (ws := (gWs yX5_isLate cX5_isLate 2 (some (Jvm.ClassFile.FieldType.boolean)))) B.pre
  have hts : ∀ w ∈ gLW, w.before _ s = true := fun w hw => hts0 w (List.mem_cons_of_mem _ hw)
  have hown : s.vm.findClass RX5 = some m.cls := findClass_of_methodNamed B.named
  have hlocks := B.notSynchronized
  have hH : gH D G s s.heap [] σ μ := ⟨hP, va_S.rf⟩
  have hl := lv_entry ([.ref (G.1 b), .int (gI a1)]) (n := 2) (Nat.le_of_ble_eq_true rfl)
  rw [lg_entry_eq]
  generalize (lg_sl ([.ref (G.1 b), .int (gI a1)]) ++ List.replicate (2 - (lg_sl ([.ref (G.1 b), .int (gI a1)])).length) Slot.unset).toArray = ls at hl ⊢
  have hl : lv_has ls 2 [(0, .ref (G.1 b)), (1, .int (gI a1))] := hl
  unfold DX5_isLate at h
  refine lv_aload_n hx hb0 dX5_isLate_0 rfl (lv_at hl 0 rfl) ?_
  refine lv_aload_n hx hb0 dX5_isLate_1 rfl (lv_at hl 0 rfl) ?_
  refine lv_iload_n hx hb0 dX5_isLate_2 rfl (lv_at hl 1 rfl) ?_
  obtain ⟨q3, e3, h⟩ := gBind_some h
  refine g_callVi (k := b) (T := TX5) (N := 8) (As := [.int (gI a1)]) (rest := [.ref (G.1 b)]) ⟨hx, hb0, hml, hown, hts⟩ (metX5_to l D G b hb σ μ a1 q3 e3) (g_cwV (C := RX5) 1 hts q_ml_X5_54 q_im_X5_to q_se_X5_to q_in_X5 q_co_X5_to ⟨rfl, rfl⟩ (by decide +kernel) ⟨Nat.le_of_ble_eq_true rfl, Nat.le_of_ble_eq_true rfl⟩) hX hH hb.k rfl rfl hl.1 rfl (Nat.le_of_ble_eq_true rfl) dX5_isLate_3 ⟨Nat.zero_le _, Nat.zero_le _⟩ (fun H locs hH => ?_)
  obtain ⟨q6, e6, h⟩ := gBind_some h
  refine g_callVi (k := b) (T := TX5) (N := 8) (As := [.int (gI q3)]) (rest := []) ⟨hx, hb0, hml, hown, hts⟩ (metX5_first l D G b hb σ μ q3 q6 e6) (g_cwV (C := RX5) 1 hts q_ml_X5_57 q_im_X5_first q_se_X5_first q_in_X5 q_co_X5_first ⟨rfl, rfl⟩ (by decide +kernel) ⟨Nat.le_of_ble_eq_true rfl, Nat.le_of_ble_eq_true rfl⟩) hX hH hb.k rfl rfl hl.1 rfl (Nat.le_of_ble_eq_true rfl) dX5_isLate_6 ⟨Nat.zero_le _, Nat.zero_le _⟩ (fun H locs hH => ?_)
  refine lv_aload_n hx hb0 dX5_isLate_9 rfl (lv_at hl 0 rfl) ?_
  refine lv_aload_n hx hb0 dX5_isLate_10 rfl (lv_at hl 0 rfl) ?_
  refine lv_iload_n hx hb0 dX5_isLate_11 rfl (lv_at hl 1 rfl) ?_
  obtain ⟨q12, e12, h⟩ := gBind_some h
  refine g_callVi (k := b) (T := TX5) (N := 8) (As := [.int (gI a1)]) (rest := [.ref (G.1 b), .int (gI q6)]) ⟨hx, hb0, hml, hown, hts⟩ (metX5_from l D G b hb σ μ a1 q12 e12) (g_cwV (C := RX5) 1 hts q_ml_X5_60 q_im_X5_from q_se_X5_from q_in_X5 q_co_X5_from ⟨rfl, rfl⟩ (by decide +kernel) ⟨Nat.le_of_ble_eq_true rfl, Nat.le_of_ble_eq_true rfl⟩) hX hH hb.k rfl rfl hl.1 rfl (Nat.le_of_ble_eq_true rfl) dX5_isLate_12 ⟨Nat.zero_le _, Nat.zero_le _⟩ (fun H locs hH => ?_)
  obtain ⟨q15, e15, h⟩ := gBind_some h
  refine g_callVi (k := b) (T := TX5) (N := 8) (As := [.int (gI q12)]) (rest := [.int (gI q6)]) ⟨hx, hb0, hml, hown, hts⟩ (metX5_last l D G b hb σ μ q12 q15 e15) (g_cwV (C := RX5) 1 hts q_ml_X5_63 q_im_X5_last q_se_X5_last q_in_X5 q_co_X5_last ⟨rfl, rfl⟩ (by decide +kernel) ⟨Nat.le_of_ble_eq_true rfl, Nat.le_of_ble_eq_true rfl⟩) hX hH hb.k rfl rfl hl.1 rfl (Nat.le_of_ble_eq_true rfl) dX5_isLate_15 ⟨Nat.zero_le _, Nat.zero_le _⟩ (fun H locs hH => ?_)
  refine g_icmp_gt (tgt := 25) hx hb0 dX5_isLate_18 (by decide) h (fun h => ?_) (fun h => ?_)
  · refine lv_iconst (v := gI (0 : Int)) hx hb0 dX5_isLate_25 (by decide) ?_
    exact g_zretP hx hb0 hr hH hlocks dX5_isLate_26 h
  · refine lv_iconst (v := gI (1 : Int)) hx hb0 dX5_isLate_21 (by decide) ?_
    refine lv_goto (tgt := 26) hx hb0 dX5_isLate_22 (by decide) ?_
    exact g_zretP hx hb0 hr hH hlocks dX5_isLate_26 h
def DX8_numberOfArrow (σ : gSt) (a1 : Int) (a2 : Int) : Option (Int) :=
  gIf (a2 = (0 : Int)) a2 (0 : Int) ((DX5_from 1 σ a1).bind fun q41 => some q41) (gIf (a2 = (1 : Int)) a2 (1 : Int) ((DX5_to 1 σ a1).bind fun q50 => some q50) (gIf (a2 = (2 : Int)) a2 (2 : Int) ((DX2_leavesOn 105 σ a1).bind fun q59 => some q59) (gIf (a2 = (3 : Int)) a2 (3 : Int) ((DX2_arrivesOn 105 σ a1).bind fun q68 => some q68) (gIf (a2 = (4 : Int)) a2 (4 : Int) ((DX2_exitOf 105 σ a1).bind fun q77 => some q77) ((DX5_isLate 1 σ a1).bind fun q86 => gIf (q86 = (0 : Int)) q86 (0 : Int) (some (0 : Int)) (some (1 : Int)))))))
set_option maxHeartbeats 4000000 in
set_option maxRecDepth 100000 in
theorem metX8_numberOfArrow (l : Launch) (D : va_G) (G : gAd) (σ : gSt) (μ : gLg) (a1 : Int) (a2 : Int) (r : Int) (h : DX8_numberOfArrow σ a1 a2 = some r) : Met l yX8_numberOfArrow (gWs yX8_numberOfArrow cX8_numberOfArrow 3 (some (Jvm.ClassFile.FieldType.int))) ({ frames := 3, cells := 0, slots := 0, locals := 63 } : Room) (gPc D G [.ref (G.1 0), .int (gI a1), .int (gI a2)] σ μ) (gQi D G r σ μ) 0 0 (gA G) := by
  refine Met.ofW (cc := cX8_numberOfArrow) (maxL := 3) (ret := (some (Jvm.ClassFile.FieldType.int))) (by decide) rfl ?_
  intro p e s m args below meth c s₁ B hml hv
  obtain ⟨rfl, hP, hX⟩ := hv
  have hx := B.exec
  have hb0 := B.bytes
  have hr := B.returns
  have hts0 := atoms_spec (ws := (gWs yX8_numberOfArrow cX8_numberOfArrow 3 (some (Jvm.ClassFile.FieldType.int)))) B.pre
  have hts : ∀ w ∈ gLW, w.before _ s = true := fun w hw => hts0 w (List.mem_cons_of_mem _ hw)
  have hown : s.vm.findClass RX8 = some m.cls := findClass_of_methodNamed B.named
  have hlocks := B.notSynchronized
  have hH : gH D G s s.heap [] σ μ := ⟨hP, va_S.rf⟩
  have hl := lv_entry ([.ref (G.1 0), .int (gI a1), .int (gI a2)]) (n := 3) (Nat.le_of_ble_eq_true rfl)
  rw [lg_entry_eq]
  generalize (lg_sl ([.ref (G.1 0), .int (gI a1), .int (gI a2)]) ++ List.replicate (3 - (lg_sl ([.ref (G.1 0), .int (gI a1), .int (gI a2)])).length) Slot.unset).toArray = ls at hl ⊢
  have hl : lv_has ls 3 [(0, .ref (G.1 0)), (1, .int (gI a1)), (2, .int (gI a2))] := hl
  unfold DX8_numberOfArrow at h
  refine lv_iload_n hx hb0 dX8_numberOfArrow_0 rfl (lv_at hl 2 rfl) ?_
  obtain ⟨hgr, -, h⟩ := gIf_some h
  rcases h with ⟨hc0, h⟩ | ⟨hc0, h⟩
  · refine g_tabIn (i := (0 : Int)) (tgt := 36) hx hb0 dX8_numberOfArrow_1 hc0 (by decide) (by decide) (by decide) rfl (by decide) ?_
    refine lv_aload_n hx hb0 dX8_numberOfArrow_36 rfl (lv_at hl 0 rfl) ?_
    refine g_getR hx hb0 hts q_ws_X8 hown hX hH (C := RX8) (T := TX8) (N := 10) (k := 0) (i := 0) (j := 1) (rfl : gKinds[0]? = _) rfl (by decide) (hts _ q_fl_X8_12) rfl rfl dX8_numberOfArrow_37 ?_
    refine lv_iload_n hx hb0 dX8_numberOfArrow_40 rfl (lv_at hl 1 rfl) ?_
    obtain ⟨q41, e41, h⟩ := gBind_some h
    refine g_callVi (k := 1) (T := TX5) (N := 8) (As := [.int (gI a1)]) (rest := []) ⟨hx, hb0, hml, hown, hts⟩ (metX5_from l D G 1 gPlan_1 σ μ a1 q41 e41) (g_cwV (C := RX5) 1 hts q_ml_X8_237 q_im_X5_from q_se_X5_from q_in_X5 q_co_X5_from ⟨rfl, rfl⟩ (by decide +kernel) ⟨Nat.le_of_ble_eq_true rfl, Nat.le_of_ble_eq_true rfl⟩) hX hH gPlan_1.k rfl rfl hl.1 rfl (Nat.le_of_ble_eq_true rfl) dX8_numberOfArrow_41 ⟨Nat.zero_le _, Nat.zero_le _⟩ (fun H locs hH => ?_)
    exact g_iretP hx hb0 hr hH hlocks dX8_numberOfArrow_44 h
  · obtain ⟨hgr, -, h⟩ := gIf_some h
    rcases h with ⟨hc1, h⟩ | ⟨hc1, h⟩
    · refine g_tabIn (i := (1 : Int)) (tgt := 45) hx hb0 dX8_numberOfArrow_1 hc1 (by decide) (by decide) (by decide) rfl (by decide) ?_
      refine lv_aload_n hx hb0 dX8_numberOfArrow_45 rfl (lv_at hl 0 rfl) ?_
      refine g_getR hx hb0 hts q_ws_X8 hown hX hH (C := RX8) (T := TX8) (N := 10) (k := 0) (i := 0) (j := 1) (rfl : gKinds[0]? = _) rfl (by decide) (hts _ q_fl_X8_12) rfl rfl dX8_numberOfArrow_46 ?_
      refine lv_iload_n hx hb0 dX8_numberOfArrow_49 rfl (lv_at hl 1 rfl) ?_
      obtain ⟨q50, e50, h⟩ := gBind_some h
      refine g_callVi (k := 1) (T := TX5) (N := 8) (As := [.int (gI a1)]) (rest := []) ⟨hx, hb0, hml, hown, hts⟩ (metX5_to l D G 1 gPlan_1 σ μ a1 q50 e50) (g_cwV (C := RX5) 1 hts q_ml_X8_234 q_im_X5_to q_se_X5_to q_in_X5 q_co_X5_to ⟨rfl, rfl⟩ (by decide +kernel) ⟨Nat.le_of_ble_eq_true rfl, Nat.le_of_ble_eq_true rfl⟩) hX hH gPlan_1.k rfl rfl hl.1 rfl (Nat.le_of_ble_eq_true rfl) dX8_numberOfArrow_50 ⟨Nat.zero_le _, Nat.zero_le _⟩ (fun H locs hH => ?_)
      exact g_iretP hx hb0 hr hH hlocks dX8_numberOfArrow_53 h
    · obtain ⟨hgr, -, h⟩ := gIf_some h
      rcases h with ⟨hc2, h⟩ | ⟨hc2, h⟩
      · refine g_tabIn (i := (2 : Int)) (tgt := 54) hx hb0 dX8_numberOfArrow_1 hc2 (by decide) (by decide) (by decide) rfl (by decide) ?_
        refine lv_aload_n hx hb0 dX8_numberOfArrow_54 rfl (lv_at hl 0 rfl) ?_
        refine g_getR hx hb0 hts q_ws_X8 hown hX hH (C := RX8) (T := TX8) (N := 10) (k := 0) (i := 7) (j := 105) (rfl : gKinds[0]? = _) rfl (by decide) (hts _ q_fl_X8_57) rfl rfl dX8_numberOfArrow_55 ?_
        refine lv_iload_n hx hb0 dX8_numberOfArrow_58 rfl (lv_at hl 1 rfl) ?_
        obtain ⟨q59, e59, h⟩ := gBind_some h
        refine g_callVi (k := 105) (T := TX2) (N := 7) (As := [.int (gI a1)]) (rest := []) ⟨hx, hb0, hml, hown, hts⟩ (metX2_leavesOn l D G 105 gExits_105 σ μ a1 q59 e59) (g_cwV (C := RX2) 1 hts q_ml_X8_346 q_im_X2_leavesOn q_se_X2_leavesOn q_in_X2 q_co_X2_leavesOn ⟨rfl, rfl⟩ (by decide +kernel) ⟨Nat.le_of_ble_eq_true rfl, Nat.le_of_ble_eq_true rfl⟩) hX hH gExits_105.k rfl rfl hl.1 rfl (Nat.le_of_ble_eq_true rfl) dX8_numberOfArrow_59 ⟨Nat.zero_le _, Nat.zero_le _⟩ (fun H locs hH => ?_)
        exact g_iretP hx hb0 hr hH hlocks dX8_numberOfArrow_62 h
      · obtain ⟨hgr, -, h⟩ := gIf_some h
        rcases h with ⟨hc3, h⟩ | ⟨hc3, h⟩
        · refine g_tabIn (i := (3 : Int)) (tgt := 63) hx hb0 dX8_numberOfArrow_1 hc3 (by decide) (by decide) (by decide) rfl (by decide) ?_
          refine lv_aload_n hx hb0 dX8_numberOfArrow_63 rfl (lv_at hl 0 rfl) ?_
          refine g_getR hx hb0 hts q_ws_X8 hown hX hH (C := RX8) (T := TX8) (N := 10) (k := 0) (i := 7) (j := 105) (rfl : gKinds[0]? = _) rfl (by decide) (hts _ q_fl_X8_57) rfl rfl dX8_numberOfArrow_64 ?_
          refine lv_iload_n hx hb0 dX8_numberOfArrow_67 rfl (lv_at hl 1 rfl) ?_
          obtain ⟨q68, e68, h⟩ := gBind_some h
          refine g_callVi (k := 105) (T := TX2) (N := 7) (As := [.int (gI a1)]) (rest := []) ⟨hx, hb0, hml, hown, hts⟩ (metX2_arrivesOn l D G 105 gExits_105 σ μ a1 q68 e68) (g_cwV (C := RX2) 1 hts q_ml_X8_349 q_im_X2_arrivesOn q_se_X2_arrivesOn q_in_X2 q_co_X2_arrivesOn ⟨rfl, rfl⟩ (by decide +kernel) ⟨Nat.le_of_ble_eq_true rfl, Nat.le_of_ble_eq_true rfl⟩) hX hH gExits_105.k rfl rfl hl.1 rfl (Nat.le_of_ble_eq_true rfl) dX8_numberOfArrow_68 ⟨Nat.zero_le _, Nat.zero_le _⟩ (fun H locs hH => ?_)
          exact g_iretP hx hb0 hr hH hlocks dX8_numberOfArrow_71 h
        · obtain ⟨hgr, -, h⟩ := gIf_some h
          rcases h with ⟨hc4, h⟩ | ⟨hc4, h⟩
          · refine g_tabIn (i := (4 : Int)) (tgt := 72) hx hb0 dX8_numberOfArrow_1 hc4 (by decide) (by decide) (by decide) rfl (by decide) ?_
            refine lv_aload_n hx hb0 dX8_numberOfArrow_72 rfl (lv_at hl 0 rfl) ?_
            refine g_getR hx hb0 hts q_ws_X8 hown hX hH (C := RX8) (T := TX8) (N := 10) (k := 0) (i := 7) (j := 105) (rfl : gKinds[0]? = _) rfl (by decide) (hts _ q_fl_X8_57) rfl rfl dX8_numberOfArrow_73 ?_
            refine lv_iload_n hx hb0 dX8_numberOfArrow_76 rfl (lv_at hl 1 rfl) ?_
            obtain ⟨q77, e77, h⟩ := gBind_some h
            refine g_callVi (k := 105) (T := TX2) (N := 7) (As := [.int (gI a1)]) (rest := []) ⟨hx, hb0, hml, hown, hts⟩ (metX2_exitOf l D G 105 gExits_105 σ μ a1 q77 e77) (g_cwV (C := RX2) 1 hts q_ml_X8_352 q_im_X2_exitOf q_se_X2_exitOf q_in_X2 q_co_X2_exitOf ⟨rfl, rfl⟩ (by decide +kernel) ⟨Nat.le_of_ble_eq_true rfl, Nat.le_of_ble_eq_true rfl⟩) hX hH gExits_105.k rfl rfl hl.1 rfl (Nat.le_of_ble_eq_true rfl) dX8_numberOfArrow_77 ⟨Nat.zero_le _, Nat.zero_le _⟩ (fun H locs hH => ?_)
            exact g_iretP hx hb0 hr hH hlocks dX8_numberOfArrow_80 h
          · refine g_tabOut (tgt := 81) hx hb0 dX8_numberOfArrow_1 hgr (by omega) (by decide) ?_
            refine lv_aload_n hx hb0 dX8_numberOfArrow_81 rfl (lv_at hl 0 rfl) ?_
            refine g_getR hx hb0 hts q_ws_X8 hown hX hH (C := RX8) (T := TX8) (N := 10) (k := 0) (i := 0) (j := 1) (rfl : gKinds[0]? = _) rfl (by decide) (hts _ q_fl_X8_12) rfl rfl dX8_numberOfArrow_82 ?_
            refine lv_iload_n hx hb0 dX8_numberOfArrow_85 rfl (lv_at hl 1 rfl) ?_
            obtain ⟨q86, e86, h⟩ := gBind_some h
            refine g_callVi (k := 1) (T := TX5) (N := 8) (As := [.int (gI a1)]) (rest := []) ⟨hx, hb0, hml, hown, hts⟩ (metX5_isLate l D G 1 gPlan_1 σ μ a1 q86 e86) (g_cwV (C := RX5) 1 hts q_ml_X8_355 q_im_X5_isLate q_se_X5_isLate q_in_X5 q_co_X5_isLate ⟨rfl, rfl⟩ (by decide +kernel) ⟨Nat.le_of_ble_eq_true rfl, Nat.le_of_ble_eq_true rfl⟩) hX hH gPlan_1.k rfl rfl hl.1 rfl (Nat.le_of_ble_eq_true rfl) dX8_numberOfArrow_86 ⟨Nat.zero_le _, Nat.zero_le _⟩ (fun H locs hH => ?_)
            refine g_if_eq (tgt := 96) hx hb0 dX8_numberOfArrow_89 (by decide) h (fun h => ?_) (fun h => ?_)
            · refine lv_iconst (v := gI (0 : Int)) hx hb0 dX8_numberOfArrow_96 (by decide) ?_
              exact g_iretP hx hb0 hr hH hlocks dX8_numberOfArrow_97 h
            · refine lv_iconst (v := gI (1 : Int)) hx hb0 dX8_numberOfArrow_92 (by decide) ?_
              refine lv_goto (tgt := 97) hx hb0 dX8_numberOfArrow_93 (by decide) ?_
              exact g_iretP hx hb0 hr hH hlocks dX8_numberOfArrow_97 h
def DX8_arrow_J15  : Option (Nat ⊕ Int) :=
  some (.inl 1)
def DX8_arrow (σ : gSt) (a1 : Int) (a2 : Int) : Option (Nat ⊕ Int) :=
  gXb (DX8_requireArrow σ a1) fun _ => gIf (a2 < (0 : Int)) a2 (0 : Int) ((DX8_arrow_J15)) (gIf (a2 < (6 : Int)) a2 (6 : Int) ((DX8_numberOfArrow σ a1 a2).bind fun q28 => some (.inr q28)) ((DX8_arrow_J15)))
set_option maxHeartbeats 4000000 in
set_option maxRecDepth 100000 in
theorem metX8_arrow (l : Launch) (hlt : l.stackTraces = false) (D : va_G) (G : gAd) (σ : gSt) (μ : gLg) (a1 : Int) (a2 : Int) (r : Nat ⊕ Int) (h : DX8_arrow σ a1 a2 = some r) : vx_Met l yX8_arrow (gWs yX8_arrow cX8_arrow 3 (some (Jvm.ClassFile.FieldType.int))) ({ frames := 7, cells := 2, slots := 12, locals := 103 } : Room) (gPc D G [.ref (G.1 0), .int (gI a1), .int (gI a2)] σ μ) (gXp D G r σ μ) (gXC D G r σ μ) 2 12 (gA G) := by
  refine vx_ofW (cc := cX8_arrow) (maxL := 3) (ret := (some (Jvm.ClassFile.FieldType.int))) (by decide) rfl ?_
  intro p e s m args below meth c s₁ B hml hxt hv
  obtain ⟨rfl, hP, hX⟩ := hv
  have hx := B.exec
  have hb0 := B.bytes
  have hr := B.returns
  have hts0 := atoms_spec (ws := (gWs yX8_arrow cX8_arrow 3 (some (Jvm.ClassFile.FieldType.int)))) B.pre
  have hts : ∀ w ∈ gLW, w.before _ s = true := fun w hw => hts0 w (List.mem_cons_of_mem _ hw)
  have hown : s.vm.findClass RX8 = some m.cls := findClass_of_methodNamed B.named
  have hlocks := B.notSynchronized
  have hH : gH D G s s.heap [] σ μ := ⟨hP, va_S.rf⟩
  have hl := lv_entry ([.ref (G.1 0), .int (gI a1), .int (gI a2)]) (n := 3) (Nat.le_of_ble_eq_true rfl)
  rw [lg_entry_eq]
  generalize (lg_sl ([.ref (G.1 0), .int (gI a1), .int (gI a2)]) ++ List.replicate (3 - (lg_sl ([.ref (G.1 0), .int (gI a1), .int (gI a2)])).length) Slot.unset).toArray = ls at hl ⊢
  have hl : lv_has ls 3 [(0, .ref (G.1 0)), (1, .int (gI a1)), (2, .int (gI a2))] := hl
  unfold DX8_arrow at h
  refine lv_aload_n hx hb0 dX8_arrow_0 rfl (lv_at hl 0 rfl) ?_
  refine lv_iload_n hx hb0 dX8_arrow_1 rfl (lv_at hl 1 rfl) ?_
  obtain ⟨q2, e2, h⟩ := gXb_some h
  refine g_xcallVv (k := 0) (T := TX8) (N := 10) (As := [.int (gI a1)]) (rest := []) (x := q2) ⟨hx, hb0, hml, hown, hts⟩ (metX8_requireArrow l hlt D G σ μ a1 q2 e2) (g_cwX (C := RX8) 1 hts q_ml_X8_146 q_im_X8_requireArrow q_se_X8_requireArrow q_in_X8 q_co_X8_requireArrow ⟨rfl, rfl⟩ (by decide +kernel) ⟨Nat.le_of_ble_eq_true rfl, Nat.le_of_ble_eq_true rfl⟩) hX hH (rfl : gKinds[0]? = _) rfl rfl hl.1 rfl (Nat.le_of_ble_eq_true rfl) dX8_arrow_2 ⟨Nat.le_of_ble_eq_true rfl, Nat.le_of_ble_eq_true rfl⟩ (fun k9 E9 ce9 q9 H locs hk9 hE9 hH h1 h2 h3 => ?_) (fun hk9 H locs hH => ?_)
  · rcases h with ⟨k8, h8, h⟩ | ⟨a8, h8, h⟩
    · rw [h8] at hk9
      cases hk9
      exact g_xout hxt hlocks hE9 hH h1 h2 h3 (Nat.le_of_ble_eq_true rfl) (Nat.le_of_ble_eq_true rfl) h
    · rw [h8] at hk9
      cases hk9
  · rcases h with ⟨k8, h8, h⟩ | ⟨a8, h8, h⟩
    · rw [h8] at hk9
      cases hk9
    · refine lv_iload_n hx hb0 dX8_arrow_5 rfl (lv_at hl 2 rfl) ?_
      have hJ15 : ∀  (H : Heap) (locs : List Loc) (ls : Array Slot), gH D G s H locs σ μ → lv_has ls 3 [] → (DX8_arrow_J15) = some r → W p l e (headSpec (gWs yX8_arrow cX8_arrow 3 (some (Jvm.ClassFile.FieldType.int))) ({ frames := 7, cells := 2, slots := 12, locals := 103 } : Room)).room s m ([.ref (G.1 0), .int (gI a1), .int (gI a2)] : List Value).toArray below meth c H locs 1 6 (vx_MQ below (gXp D G r σ μ) (gXC D G r σ μ) ([.ref (G.1 0), .int (gI a1), .int (gI a2)] : List Value).toArray s 2 12 (gA G)) (F0 m 15 ls []) := by
        intro H locs ls hH hl h
        unfold DX8_arrow_J15 at h
        exact g_throwS (text := "no such thing about an arrow") (k := 1) hx hb0 hlt hown hts hX hH rfl q_cl_X8_71 q_in_java_lang_IllegalArgumentException g_bad1 g_ok1 g_ot1 (by decide +kernel) (by decide +kernel) (hl.1.trans hml.symm) dX8_arrow_15 dX8_arrow_18 dX8_arrow_19 dX8_arrow_21 dX8_arrow_24 hxt ⟨⟨Nat.le_of_ble_eq_true rfl, Nat.le_of_ble_eq_true rfl⟩, Nat.le_of_ble_eq_true rfl, Nat.le_of_ble_eq_true rfl⟩ hlocks ⟨Nat.le_of_ble_eq_true rfl, Nat.le_of_ble_eq_true rfl⟩ h
      refine g_if_lt (tgt := 15) hx hb0 dX8_arrow_6 (by decide) h (fun h => ?_) (fun h => ?_)
      · exact hJ15  _ _ _ hH (lv_sub hl [] rfl) h
      · refine lv_iload_n hx hb0 dX8_arrow_9 rfl (lv_at hl 2 rfl) ?_
        refine lv_bipush (v := gI (6 : Int)) hx hb0 dX8_arrow_10 (by decide) ?_
        refine g_icmp_lt (tgt := 25) hx hb0 dX8_arrow_12 (by decide) h (fun h => ?_) (fun h => ?_)
        · refine lv_aload_n hx hb0 dX8_arrow_25 rfl (lv_at hl 0 rfl) ?_
          refine lv_iload_n hx hb0 dX8_arrow_26 rfl (lv_at hl 1 rfl) ?_
          refine lv_iload_n hx hb0 dX8_arrow_27 rfl (lv_at hl 2 rfl) ?_
          obtain ⟨q28, e28, h⟩ := gBind_some h
          refine g_callVi (k := 0) (T := TX8) (N := 10) (As := [.int (gI a1), .int (gI a2)]) (rest := []) ⟨hx, hb0, hml, hown, hts⟩ (metX8_numberOfArrow l D G σ μ a1 a2 q28 e28) (g_cwV (C := RX8) 2 hts q_ml_X8_198 q_im_X8_numberOfArrow q_se_X8_numberOfArrow q_in_X8 q_co_X8_numberOfArrow ⟨rfl, rfl⟩ (by decide +kernel) ⟨Nat.le_of_ble_eq_true rfl, Nat.le_of_ble_eq_true rfl⟩) hX hH (rfl : gKinds[0]? = _) rfl rfl hl.1 rfl (Nat.le_of_ble_eq_true rfl) dX8_arrow_28 ⟨Nat.le_of_ble_eq_true rfl, Nat.le_of_ble_eq_true rfl⟩ (fun H locs hH => ?_)
          exact g_xpret hx hb0 hr hH hlocks (Nat.le_of_ble_eq_true rfl) (Nat.le_of_ble_eq_true rfl) dX8_arrow_31 h
        · exact hJ15  _ _ _ hH (lv_sub hl [] rfl) h
def DX2_count (b : Nat) (σ : gSt) : Option (Int) :=
  some (σ b 6)
set_option maxHeartbeats 4000000 in
set_option maxRecDepth 100000 in
theorem metX2_count (l : Launch) (D : va_G) (G : gAd) (b : Nat) (hb : gExits b) (σ : gSt) (μ : gLg) (r : Int) (h : DX2_count b σ = some r) : Met l yX2_count (gWs yX2_count cX2_count 1 (some (Jvm.ClassFile.FieldType.int))) ({ frames := 0, cells := 0, slots := 0, locals := 0 } : Room) (gPc D G [.ref (G.1 b)] σ μ) (gQi D G r σ μ) 0 0 (gA G) := by
  refine Met.ofW (cc := cX2_count) (maxL := 1) (ret := (some (Jvm.ClassFile.FieldType.int))) (by decide) rfl ?_
  intro p e s m args below meth c s₁ B hml hv
  obtain ⟨rfl, hP, hX⟩ := hv
  have hx := B.exec
  have hb0 := B.bytes
  have hr := B.returns
  have hts0 := atoms_spec (ws := (gWs yX2_count cX2_count 1 (some (Jvm.ClassFile.FieldType.int)))) B.pre
  have hts : ∀ w ∈ gLW, w.before _ s = true := fun w hw => hts0 w (List.mem_cons_of_mem _ hw)
  have hown : s.vm.findClass RX2 = some m.cls := findClass_of_methodNamed B.named
  have hlocks := B.notSynchronized
  have hH : gH D G s s.heap [] σ μ := ⟨hP, va_S.rf⟩
  have hl := lv_entry ([.ref (G.1 b)]) (n := 1) (Nat.le_of_ble_eq_true rfl)
  rw [lg_entry_eq]
  generalize (lg_sl ([.ref (G.1 b)]) ++ List.replicate (1 - (lg_sl ([.ref (G.1 b)])).length) Slot.unset).toArray = ls at hl ⊢
  have hl : lv_has ls 1 [(0, .ref (G.1 b))] := hl
  unfold DX2_count at h
  refine lv_aload_n hx hb0 dX2_count_0 rfl (lv_at hl 0 rfl) ?_
  refine g_getI hx hb0 hts q_ws_X2 hown hX hH (C := RX2) (T := TX2) (N := 7) (k := b) (i := 6) hb.k rfl (by decide) (hts _ q_fl_X2_35) rfl rfl dX2_count_1 ?_
  exact g_iretP hx hb0 hr hH hlocks dX2_count_4 h
def DX2_arrowBehind (b : Nat) (σ : gSt) (a1 : Int) : Option (Int) :=
  (DX4_at (b + 7) 31 σ a1).bind fun q5 => some q5
set_option maxHeartbeats 4000000 in
set_option maxRecDepth 100000 in
theorem metX2_arrowBehind (l : Launch) (D : va_G) (G : gAd) (b : Nat) (hb : gExits b) (σ : gSt) (μ : gLg) (a1 : Int) (r : Int) (h : DX2_arrowBehind b σ a1 = some r) : Met l yX2_arrowBehind (gWs yX2_arrowBehind cX2_arrowBehind 2 (some (Jvm.ClassFile.FieldType.int))) ({ frames := 1, cells := 0, slots := 0, locals := 21 } : Room) (gPc D G [.ref (G.1 b), .int (gI a1)] σ μ) (gQi D G r σ μ) 0 0 (gA G) := by
  refine Met.ofW (cc := cX2_arrowBehind) (maxL := 2) (ret := (some (Jvm.ClassFile.FieldType.int))) (by decide) rfl ?_
  intro p e s m args below meth c s₁ B hml hv
  obtain ⟨rfl, hP, hX⟩ := hv
  have hx := B.exec
  have hb0 := B.bytes
  have hr := B.returns
  have hts0 := atoms_spec (ws := (gWs yX2_arrowBehind cX2_arrowBehind 2 (some (Jvm.ClassFile.FieldType.int)))) B.pre
  have hts : ∀ w ∈ gLW, w.before _ s = true := fun w hw => hts0 w (List.mem_cons_of_mem _ hw)
  have hown : s.vm.findClass RX2 = some m.cls := findClass_of_methodNamed B.named
  have hlocks := B.notSynchronized
  have hH : gH D G s s.heap [] σ μ := ⟨hP, va_S.rf⟩
  have hl := lv_entry ([.ref (G.1 b), .int (gI a1)]) (n := 2) (Nat.le_of_ble_eq_true rfl)
  rw [lg_entry_eq]
  generalize (lg_sl ([.ref (G.1 b), .int (gI a1)]) ++ List.replicate (2 - (lg_sl ([.ref (G.1 b), .int (gI a1)])).length) Slot.unset).toArray = ls at hl ⊢
  have hl : lv_has ls 2 [(0, .ref (G.1 b)), (1, .int (gI a1))] := hl
  unfold DX2_arrowBehind at h
  refine lv_aload_n hx hb0 dX2_arrowBehind_0 rfl (lv_at hl 0 rfl) ?_
  refine g_getR hx hb0 hts q_ws_X2 hown hX hH (C := RX2) (T := TX2) (N := 7) (k := b) (i := 3) (j := (b + 7)) hb.k rfl (by decide) (hts _ q_fl_X2_26) rfl rfl dX2_arrowBehind_1 ?_
  refine lv_iload_n hx hb0 dX2_arrowBehind_4 rfl (lv_at hl 1 rfl) ?_
  obtain ⟨q5, e5, h⟩ := gBind_some h
  refine g_callVi (k := (b + 7)) (T := TX4) (N := 1) (As := [.int (gI a1)]) (rest := []) ⟨hx, hb0, hml, hown, hts⟩ (metX4_at l D G (b + 7) 31 (hb.n3) σ μ a1 q5 e5) (g_cwV (C := RX4) 1 hts q_ml_X2_39 q_im_X4_at q_se_X4_at q_in_X4 q_co_X4_at ⟨rfl, rfl⟩ (by decide +kernel) ⟨Nat.le_of_ble_eq_true rfl, Nat.le_of_ble_eq_true rfl⟩) hX hH ((hb.n3)).1 rfl rfl hl.1 rfl (Nat.le_of_ble_eq_true rfl) dX2_arrowBehind_5 ⟨Nat.zero_le _, Nat.zero_le _⟩ (fun H locs hH => ?_)
  exact g_iretP hx hb0 hr hH hlocks dX2_arrowBehind_8 h
def DX8_arrowOf_J16  : Option (Nat ⊕ Int) :=
  some (.inl 3)
def DX8_arrowOf (σ : gSt) (a1 : Int) : Option (Nat ⊕ Int) :=
  gIf (a1 < (1 : Int)) a1 (1 : Int) ((DX8_arrowOf_J16)) ((DX2_count 105 σ).bind fun q10 => gIf (q10 < a1) a1 q10 ((DX8_arrowOf_J16)) ((DX2_arrowBehind 105 σ a1).bind fun q31 => some (.inr q31)))
set_option maxHeartbeats 4000000 in
set_option maxRecDepth 100000 in
theorem metX8_arrowOf (l : Launch) (hlt : l.stackTraces = false) (D : va_G) (G : gAd) (σ : gSt) (μ : gLg) (a1 : Int) (r : Nat ⊕ Int) (h : DX8_arrowOf σ a1 = some r) : vx_Met l yX8_arrowOf (gWs yX8_arrowOf cX8_arrowOf 2 (some (Jvm.ClassFile.FieldType.int))) ({ frames := 6, cells := 1, slots := 6, locals := 82 } : Room) (gPc D G [.ref (G.1 0), .int (gI a1)] σ μ) (gXp D G r σ μ) (gXC D G r σ μ) 1 6 (gA G) := by
  refine vx_ofW (cc := cX8_arrowOf) (maxL := 2) (ret := (some (Jvm.ClassFile.FieldType.int))) (by decide) rfl ?_
  intro p e s m args below meth c s₁ B hml hxt hv
  obtain ⟨rfl, hP, hX⟩ := hv
  have hx := B.exec
  have hb0 := B.bytes
  have hr := B.returns
  have hts0 := atoms_spec (ws := (gWs yX8_arrowOf cX8_arrowOf 2 (some (Jvm.ClassFile.FieldType.int)))) B.pre
  have hts : ∀ w ∈ gLW, w.before _ s = true := fun w hw => hts0 w (List.mem_cons_of_mem _ hw)
  have hown : s.vm.findClass RX8 = some m.cls := findClass_of_methodNamed B.named
  have hlocks := B.notSynchronized
  have hH : gH D G s s.heap [] σ μ := ⟨hP, va_S.rf⟩
  have hl := lv_entry ([.ref (G.1 0), .int (gI a1)]) (n := 2) (Nat.le_of_ble_eq_true rfl)
  rw [lg_entry_eq]
  generalize (lg_sl ([.ref (G.1 0), .int (gI a1)]) ++ List.replicate (2 - (lg_sl ([.ref (G.1 0), .int (gI a1)])).length) Slot.unset).toArray = ls at hl ⊢
  have hl : lv_has ls 2 [(0, .ref (G.1 0)), (1, .int (gI a1))] := hl
  unfold DX8_arrowOf at h
  refine lv_iload_n hx hb0 dX8_arrowOf_0 rfl (lv_at hl 1 rfl) ?_
  refine lv_iconst (v := gI (1 : Int)) hx hb0 dX8_arrowOf_1 (by decide) ?_
  have hJ16 : ∀  (H : Heap) (locs : List Loc) (ls : Array Slot), gH D G s H locs σ μ → lv_has ls 2 [] → (DX8_arrowOf_J16) = some r → W p l e (headSpec (gWs yX8_arrowOf cX8_arrowOf 2 (some (Jvm.ClassFile.FieldType.int))) ({ frames := 6, cells := 1, slots := 6, locals := 82 } : Room)).room s m ([.ref (G.1 0), .int (gI a1)] : List Value).toArray below meth c H locs 0 0 (vx_MQ below (gXp D G r σ μ) (gXC D G r σ μ) ([.ref (G.1 0), .int (gI a1)] : List Value).toArray s 1 6 (gA G)) (F0 m 16 ls []) := by
    intro H locs ls hH hl h
    unfold DX8_arrowOf_J16 at h
    exact g_throwS (text := "no such exit") (k := 3) hx hb0 hlt hown hts hX hH rfl q_cl_X8_186 q_in_java_lang_IndexOutOfBoundsException g_bad3 g_ok3 g_ot3 (by decide +kernel) (by decide +kernel) (hl.1.trans hml.symm) dX8_arrowOf_16 dX8_arrowOf_19 dX8_arrowOf_20 dX8_arrowOf_22 dX8_arrowOf_25 hxt ⟨⟨Nat.le_of_ble_eq_true rfl, Nat.le_of_ble_eq_true rfl⟩, Nat.le_of_ble_eq_true rfl, Nat.le_of_ble_eq_true rfl⟩ hlocks ⟨Nat.le_of_ble_eq_true rfl, Nat.le_of_ble_eq_true rfl⟩ h
  refine g_icmp_lt (tgt := 16) hx hb0 dX8_arrowOf_2 (by decide) h (fun h => ?_) (fun h => ?_)
  · exact hJ16  _ _ _ hH (lv_sub hl [] rfl) h
  · refine lv_iload_n hx hb0 dX8_arrowOf_5 rfl (lv_at hl 1 rfl) ?_
    refine lv_aload_n hx hb0 dX8_arrowOf_6 rfl (lv_at hl 0 rfl) ?_
    refine g_getR hx hb0 hts q_ws_X8 hown hX hH (C := RX8) (T := TX8) (N := 10) (k := 0) (i := 7) (j := 105) (rfl : gKinds[0]? = _) rfl (by decide) (hts _ q_fl_X8_57) rfl rfl dX8_arrowOf_7 ?_
    obtain ⟨q10, e10, h⟩ := gBind_some h
    refine g_callVi (k := 105) (T := TX2) (N := 7) (As := []) (rest := [.int (gI a1)]) ⟨hx, hb0, hml, hown, hts⟩ (metX2_count l D G 105 gExits_105 σ μ q10 e10) (g_cwV (C := RX2) 0 hts q_ml_X8_201 q_im_X2_count q_se_X2_count q_in_X2 q_co_X2_count ⟨rfl, rfl⟩ (by decide +kernel) ⟨Nat.le_of_ble_eq_true rfl, Nat.le_of_ble_eq_true rfl⟩) hX hH gExits_105.k rfl rfl hl.1 rfl (Nat.le_of_ble_eq_true rfl) dX8_arrowOf_10 ⟨Nat.le_of_ble_eq_true rfl, Nat.le_of_ble_eq_true rfl⟩ (fun H locs hH => ?_)
    refine g_icmp_le (tgt := 26) hx hb0 dX8_arrowOf_13 (by decide) h (fun h => ?_) (fun h => ?_)
    · refine lv_aload_n hx hb0 dX8_arrowOf_26 rfl (lv_at hl 0 rfl) ?_
      refine g_getR hx hb0 hts q_ws_X8 hown hX hH (C := RX8) (T := TX8) (N := 10) (k := 0) (i := 7) (j := 105) (rfl : gKinds[0]? = _) rfl (by decide) (hts _ q_fl_X8_57) rfl rfl dX8_arrowOf_27 ?_
      refine lv_iload_n hx hb0 dX8_arrowOf_30 rfl (lv_at hl 1 rfl) ?_
      obtain ⟨q31, e31, h⟩ := gBind_some h
      refine g_callVi (k := 105) (T := TX2) (N := 7) (As := [.int (gI a1)]) (rest := []) ⟨hx, hb0, hml, hown, hts⟩ (metX2_arrowBehind l D G 105 gExits_105 σ μ a1 q31 e31) (g_cwV (C := RX2) 1 hts q_ml_X8_204 q_im_X2_arrowBehind q_se_X2_arrowBehind q_in_X2 q_co_X2_arrowBehind ⟨rfl, rfl⟩ (by decide +kernel) ⟨Nat.le_of_ble_eq_true rfl, Nat.le_of_ble_eq_true rfl⟩) hX hH gExits_105.k rfl rfl hl.1 rfl (Nat.le_of_ble_eq_true rfl) dX8_arrowOf_31 ⟨Nat.le_of_ble_eq_true rfl, Nat.le_of_ble_eq_true rfl⟩ (fun H locs hH => ?_)
      exact g_xpret hx hb0 hr hH hlocks (Nat.le_of_ble_eq_true rfl) (Nat.le_of_ble_eq_true rfl) dX8_arrowOf_34 h
    · exact hJ16  _ _ _ hH (lv_sub hl [] rfl) h
def DX5_covers (b : Nat) (σ : gSt) (a1 : Int) (a2 : Int) : Option (Int) :=
  (DX5_hasTask b σ a1).bind fun q2 => gIf (q2 = (0 : Int)) q2 (0 : Int) (gBo (0 : Int) (some (0 : Int))) ((DX5_first b σ a1).bind fun q11 => gIf (a2 < q11) a2 q11 (gBo (0 : Int) (some (0 : Int))) ((DX5_last b σ a1).bind fun q20 => gIf (q20 < a2) a2 q20 (gBo (0 : Int) (some (0 : Int))) (gBo (1 : Int) (some (1 : Int)))))
set_option maxHeartbeats 4000000 in
set_option maxRecDepth 100000 in
theorem metX5_covers (l : Launch) (D : va_G) (G : gAd) (b : Nat) (hb : gPlan b) (σ : gSt) (μ : gLg) (a1 : Int) (a2 : Int) (r : Int) (h : DX5_covers b σ a1 a2 = some r) : Met l yX5_covers (gWs yX5_covers cX5_covers 3 (some (Jvm.ClassFile.FieldType.boolean))) ({ frames := 2, cells := 0, slots := 0, locals := 42 } : Room) (gPc D G [.ref (G.1 b), .int (gI a1), .int (gI a2)] σ μ) (gQi D G r σ μ) 0 0 (gA G) := by
  refine Met.ofW (cc := cX5_covers) (maxL := 3) (ret := (some (Jvm.ClassFile.FieldType.boolean))) (by decide) rfl ?_
  intro p e s m args below meth c s₁ B hml hv
  obtain ⟨rfl, hP, hX⟩ := hv
  have hx := B.exec
  have hb0 := B.bytes
  have hr := B.returns
  have hts0 := atoms_spec (ws := (gWs yX5_covers cX5_covers 3 (some (Jvm.ClassFile.FieldType.boolean)))) B.pre
  have hts : ∀ w ∈ gLW, w.before _ s = true := fun w hw => hts0 w (List.mem_cons_of_mem _ hw)
  have hown : s.vm.findClass RX5 = some m.cls := findClass_of_methodNamed B.named
  have hlocks := B.notSynchronized
  have hH : gH D G s s.heap [] σ μ := ⟨hP, va_S.rf⟩
  have hl := lv_entry ([.ref (G.1 b), .int (gI a1), .int (gI a2)]) (n := 3) (Nat.le_of_ble_eq_true rfl)
  rw [lg_entry_eq]
  generalize (lg_sl ([.ref (G.1 b), .int (gI a1), .int (gI a2)]) ++ List.replicate (3 - (lg_sl ([.ref (G.1 b), .int (gI a1), .int (gI a2)])).length) Slot.unset).toArray = ls at hl ⊢
  have hl : lv_has ls 3 [(0, .ref (G.1 b)), (1, .int (gI a1)), (2, .int (gI a2))] := hl
  unfold DX5_covers at h
  refine lv_aload_n hx hb0 dX5_covers_0 rfl (lv_at hl 0 rfl) ?_
  refine lv_iload_n hx hb0 dX5_covers_1 rfl (lv_at hl 1 rfl) ?_
  obtain ⟨q2, e2, h⟩ := gBind_some h
  refine g_callVi (k := b) (T := TX5) (N := 8) (As := [.int (gI a1)]) (rest := []) ⟨hx, hb0, hml, hown, hts⟩ (metX5_hasTask l D G b hb σ μ a1 q2 e2) (g_cwV (C := RX5) 1 hts q_ml_X5_66 q_im_X5_hasTask q_se_X5_hasTask q_in_X5 q_co_X5_hasTask ⟨rfl, rfl⟩ (by decide +kernel) ⟨Nat.le_of_ble_eq_true rfl, Nat.le_of_ble_eq_true rfl⟩) hX hH hb.k rfl rfl hl.1 rfl (Nat.le_of_ble_eq_true rfl) dX5_covers_2 ⟨Nat.zero_le _, Nat.zero_le _⟩ (fun H locs hH => ?_)
  refine g_if_eq (tgt := 30) hx hb0 dX5_covers_5 (by decide) h (fun h => ?_) (fun h => ?_)
  · refine lv_iconst (v := gI (0 : Int)) hx hb0 dX5_covers_30 (by decide) ?_
    exact g_zretP hx hb0 hr hH hlocks dX5_covers_31 h
  · refine lv_iload_n hx hb0 dX5_covers_8 rfl (lv_at hl 2 rfl) ?_
    refine lv_aload_n hx hb0 dX5_covers_9 rfl (lv_at hl 0 rfl) ?_
    refine lv_iload_n hx hb0 dX5_covers_10 rfl (lv_at hl 1 rfl) ?_
    obtain ⟨q11, e11, h⟩ := gBind_some h
    refine g_callVi (k := b) (T := TX5) (N := 8) (As := [.int (gI a1)]) (rest := [.int (gI a2)]) ⟨hx, hb0, hml, hown, hts⟩ (metX5_first l D G b hb σ μ a1 q11 e11) (g_cwV (C := RX5) 1 hts q_ml_X5_57 q_im_X5_first q_se_X5_first q_in_X5 q_co_X5_first ⟨rfl, rfl⟩ (by decide +kernel) ⟨Nat.le_of_ble_eq_true rfl, Nat.le_of_ble_eq_true rfl⟩) hX hH hb.k rfl rfl hl.1 rfl (Nat.le_of_ble_eq_true rfl) dX5_covers_11 ⟨Nat.zero_le _, Nat.zero_le _⟩ (fun H locs hH => ?_)
    refine g_icmp_lt (tgt := 30) hx hb0 dX5_covers_14 (by decide) h (fun h => ?_) (fun h => ?_)
    · refine lv_iconst (v := gI (0 : Int)) hx hb0 dX5_covers_30 (by decide) ?_
      exact g_zretP hx hb0 hr hH hlocks dX5_covers_31 h
    · refine lv_iload_n hx hb0 dX5_covers_17 rfl (lv_at hl 2 rfl) ?_
      refine lv_aload_n hx hb0 dX5_covers_18 rfl (lv_at hl 0 rfl) ?_
      refine lv_iload_n hx hb0 dX5_covers_19 rfl (lv_at hl 1 rfl) ?_
      obtain ⟨q20, e20, h⟩ := gBind_some h
      refine g_callVi (k := b) (T := TX5) (N := 8) (As := [.int (gI a1)]) (rest := [.int (gI a2)]) ⟨hx, hb0, hml, hown, hts⟩ (metX5_last l D G b hb σ μ a1 q20 e20) (g_cwV (C := RX5) 1 hts q_ml_X5_63 q_im_X5_last q_se_X5_last q_in_X5 q_co_X5_last ⟨rfl, rfl⟩ (by decide +kernel) ⟨Nat.le_of_ble_eq_true rfl, Nat.le_of_ble_eq_true rfl⟩) hX hH hb.k rfl rfl hl.1 rfl (Nat.le_of_ble_eq_true rfl) dX5_covers_20 ⟨Nat.zero_le _, Nat.zero_le _⟩ (fun H locs hH => ?_)
      refine g_icmp_gt (tgt := 30) hx hb0 dX5_covers_23 (by decide) h (fun h => ?_) (fun h => ?_)
      · refine lv_iconst (v := gI (0 : Int)) hx hb0 dX5_covers_30 (by decide) ?_
        exact g_zretP hx hb0 hr hH hlocks dX5_covers_31 h
      · refine lv_iconst (v := gI (1 : Int)) hx hb0 dX5_covers_26 (by decide) ?_
        refine lv_goto (tgt := 31) hx hb0 dX5_covers_27 (by decide) ?_
        exact g_zretP hx hb0 hr hH hlocks dX5_covers_31 h
def DX8_taskAt_J26  : Option (Nat ⊕ Int) :=
  some (.inl 3)
def DX8_taskAt (σ : gSt) (a1 : Int) (a2 : Int) (a3 : Int) : Option (Nat ⊕ Int) :=
  gXb (DX8_requireSheet σ a1) fun _ => gXb (DX8_requireRow σ a2) fun _ => gIf (a3 < (0 : Int)) a3 (0 : Int) ((DX8_taskAt_J26)) ((DX5_setting 1 σ (1 : Int)).bind fun q20 => gIf (a3 < q20) a3 q20 ((DX6_bandOf 96 σ a1).bind fun q45 => (DX0_content 87 σ q45 a2).bind fun q49 => (DX6_stripOf 96 σ a1).bind fun q59 => (DX5_setting 1 σ (1 : Int)).bind fun q67 => (DX5_covers 1 σ q49 ((q59 * q67) + a3)).bind fun q83 => gIf (q83 = (0 : Int)) q83 (0 : Int) (some (.inr (-1 : Int))) (some (.inr q49))) ((DX8_taskAt_J26)))
set_option maxHeartbeats 4000000 in
set_option maxRecDepth 100000 in
theorem metX8_taskAt (l : Launch) (hlt : l.stackTraces = false) (D : va_G) (G : gAd) (σ : gSt) (μ : gLg) (a1 : Int) (a2 : Int) (a3 : Int) (r : Nat ⊕ Int) (h : DX8_taskAt σ a1 a2 a3 = some r) : vx_Met l yX8_taskAt (gWs yX8_taskAt cX8_taskAt 6 (some (Jvm.ClassFile.FieldType.int))) ({ frames := 7, cells := 3, slots := 18, locals := 103 } : Room) (gPc D G [.ref (G.1 0), .int (gI a1), .int (gI a2), .int (gI a3)] σ μ) (gXp D G r σ μ) (gXC D G r σ μ) 3 18 (gA G) := by
  refine vx_ofW (cc := cX8_taskAt) (maxL := 6) (ret := (some (Jvm.ClassFile.FieldType.int))) (by decide) rfl ?_
  intro p e s m args below meth c s₁ B hml hxt hv
  obtain ⟨rfl, hP, hX⟩ := hv
  have hx := B.exec
  have hb0 := B.bytes
  have hr := B.returns
  have hts0 := atoms_spec (ws := (gWs yX8_taskAt cX8_taskAt 6 (some (Jvm.ClassFile.FieldType.int)))) B.pre
  have hts : ∀ w ∈ gLW, w.before _ s = true := fun w hw => hts0 w (List.mem_cons_of_mem _ hw)
  have hown : s.vm.findClass RX8 = some m.cls := findClass_of_methodNamed B.named
  have hlocks := B.notSynchronized
  have hH : gH D G s s.heap [] σ μ := ⟨hP, va_S.rf⟩
  have hl := lv_entry ([.ref (G.1 0), .int (gI a1), .int (gI a2), .int (gI a3)]) (n := 6) (Nat.le_of_ble_eq_true rfl)
  rw [lg_entry_eq]
  generalize (lg_sl ([.ref (G.1 0), .int (gI a1), .int (gI a2), .int (gI a3)]) ++ List.replicate (6 - (lg_sl ([.ref (G.1 0), .int (gI a1), .int (gI a2), .int (gI a3)])).length) Slot.unset).toArray = ls at hl ⊢
  have hl : lv_has ls 6 [(0, .ref (G.1 0)), (1, .int (gI a1)), (2, .int (gI a2)), (3, .int (gI a3))] := hl
  unfold DX8_taskAt at h
  refine lv_aload_n hx hb0 dX8_taskAt_0 rfl (lv_at hl 0 rfl) ?_
  refine lv_iload_n hx hb0 dX8_taskAt_1 rfl (lv_at hl 1 rfl) ?_
  obtain ⟨q2, e2, h⟩ := gXb_some h
  refine g_xcallVv (k := 0) (T := TX8) (N := 10) (As := [.int (gI a1)]) (rest := []) (x := q2) ⟨hx, hb0, hml, hown, hts⟩ (metX8_requireSheet l hlt D G σ μ a1 q2 e2) (g_cwX (C := RX8) 1 hts q_ml_X8_170 q_im_X8_requireSheet q_se_X8_requireSheet q_in_X8 q_co_X8_requireSheet ⟨rfl, rfl⟩ (by decide +kernel) ⟨Nat.le_of_ble_eq_true rfl, Nat.le_of_ble_eq_true rfl⟩) hX hH (rfl : gKinds[0]? = _) rfl rfl hl.1 rfl (Nat.le_of_ble_eq_true rfl) dX8_taskAt_2 ⟨Nat.le_of_ble_eq_true rfl, Nat.le_of_ble_eq_true rfl⟩ (fun k9 E9 ce9 q9 H locs hk9 hE9 hH h1 h2 h3 => ?_) (fun hk9 H locs hH => ?_)
  · rcases h with ⟨k8, h8, h⟩ | ⟨a8, h8, h⟩
    · rw [h8] at hk9
      cases hk9
      exact g_xout hxt hlocks hE9 hH h1 h2 h3 (Nat.le_of_ble_eq_true rfl) (Nat.le_of_ble_eq_true rfl) h
    · rw [h8] at hk9
      cases hk9
  · rcases h with ⟨k8, h8, h⟩ | ⟨a8, h8, h⟩
    · rw [h8] at hk9
      cases hk9
    · refine lv_aload_n hx hb0 dX8_taskAt_5 rfl (lv_at hl 0 rfl) ?_
      refine lv_iload_n hx hb0 dX8_taskAt_6 rfl (lv_at hl 2 rfl) ?_
      obtain ⟨q7, e7, h⟩ := gXb_some h
      refine g_xcallVv (k := 0) (T := TX8) (N := 10) (As := [.int (gI a2)]) (rest := []) (x := q7) ⟨hx, hb0, hml, hown, hts⟩ (metX8_requireRow l hlt D G σ μ a2 q7 e7) (g_cwX (C := RX8) 1 hts q_ml_X8_163 q_im_X8_requireRow q_se_X8_requireRow q_in_X8 q_co_X8_requireRow ⟨rfl, rfl⟩ (by decide +kernel) ⟨Nat.le_of_ble_eq_true rfl, Nat.le_of_ble_eq_true rfl⟩) hX hH (rfl : gKinds[0]? = _) rfl rfl hl.1 rfl (Nat.le_of_ble_eq_true rfl) dX8_taskAt_7 ⟨Nat.le_of_ble_eq_true rfl, Nat.le_of_ble_eq_true rfl⟩ (fun k9 E9 ce9 q9 H locs hk9 hE9 hH h1 h2 h3 => ?_) (fun hk9 H locs hH => ?_)
      · rcases h with ⟨k8, h8, h⟩ | ⟨a8, h8, h⟩
        · rw [h8] at hk9
          cases hk9
          exact g_xout hxt hlocks hE9 hH h1 h2 h3 (Nat.le_of_ble_eq_true rfl) (Nat.le_of_ble_eq_true rfl) h
        · rw [h8] at hk9
          cases hk9
      · rcases h with ⟨k8, h8, h⟩ | ⟨a8, h8, h⟩
        · rw [h8] at hk9
          cases hk9
        · refine lv_iload_n hx hb0 dX8_taskAt_10 rfl (lv_at hl 3 rfl) ?_
          have hJ26 : ∀  (H : Heap) (locs : List Loc) (ls : Array Slot), gH D G s H locs σ μ → lv_has ls 6 [] → (DX8_taskAt_J26) = some r → W p l e (headSpec (gWs yX8_taskAt cX8_taskAt 6 (some (Jvm.ClassFile.FieldType.int))) ({ frames := 7, cells := 3, slots := 18, locals := 103 } : Room)).room s m ([.ref (G.1 0), .int (gI a1), .int (gI a2), .int (gI a3)] : List Value).toArray below meth c H locs 2 12 (vx_MQ below (gXp D G r σ μ) (gXC D G r σ μ) ([.ref (G.1 0), .int (gI a1), .int (gI a2), .int (gI a3)] : List Value).toArray s 3 18 (gA G)) (F0 m 26 ls []) := by
            intro H locs ls hH hl h
            unfold DX8_taskAt_J26 at h
            exact g_throwS (text := "no such place") (k := 3) hx hb0 hlt hown hts hX hH rfl q_cl_X8_186 q_in_java_lang_IndexOutOfBoundsException g_bad3 g_ok3 g_ot3 (by decide +kernel) (by decide +kernel) (hl.1.trans hml.symm) dX8_taskAt_26 dX8_taskAt_29 dX8_taskAt_30 dX8_taskAt_32 dX8_taskAt_35 hxt ⟨⟨Nat.le_of_ble_eq_true rfl, Nat.le_of_ble_eq_true rfl⟩, Nat.le_of_ble_eq_true rfl, Nat.le_of_ble_eq_true rfl⟩ hlocks ⟨Nat.le_of_ble_eq_true rfl, Nat.le_of_ble_eq_true rfl⟩ h
          refine g_if_lt (tgt := 26) hx hb0 dX8_taskAt_11 (by decide) h (fun h => ?_) (fun h => ?_)
          · exact hJ26  _ _ _ hH (lv_sub hl [] rfl) h
          · refine lv_iload_n hx hb0 dX8_taskAt_14 rfl (lv_at hl 3 rfl) ?_
            refine lv_aload_n hx hb0 dX8_taskAt_15 rfl (lv_at hl 0 rfl) ?_
            refine g_getR hx hb0 hts q_ws_X8 hown hX hH (C := RX8) (T := TX8) (N := 10) (k := 0) (i := 0) (j := 1) (rfl : gKinds[0]? = _) rfl (by decide) (hts _ q_fl_X8_12) rfl rfl dX8_taskAt_16 ?_
            refine lv_iconst (v := gI (1 : Int)) hx hb0 dX8_taskAt_19 (by decide) ?_
            obtain ⟨q20, e20, h⟩ := gBind_some h
            refine g_callVi (k := 1) (T := TX5) (N := 8) (As := [.int (gI (1 : Int))]) (rest := [.int (gI a3)]) ⟨hx, hb0, hml, hown, hts⟩ (metX5_setting l D G 1 gPlan_1 σ μ (1 : Int) q20 e20) (g_cwV (C := RX5) 1 hts q_ml_X8_82 q_im_X5_setting q_se_X5_setting q_in_X5 q_co_X5_setting ⟨rfl, rfl⟩ (by decide +kernel) ⟨Nat.le_of_ble_eq_true rfl, Nat.le_of_ble_eq_true rfl⟩) hX hH gPlan_1.k rfl rfl hl.1 rfl (Nat.le_of_ble_eq_true rfl) dX8_taskAt_20 ⟨Nat.le_of_ble_eq_true rfl, Nat.le_of_ble_eq_true rfl⟩ (fun H locs hH => ?_)
            refine g_icmp_lt (tgt := 36) hx hb0 dX8_taskAt_23 (by decide) h (fun h => ?_) (fun h => ?_)
            · refine lv_aload_n hx hb0 dX8_taskAt_36 rfl (lv_at hl 0 rfl) ?_
              refine g_getR hx hb0 hts q_ws_X8 hown hX hH (C := RX8) (T := TX8) (N := 10) (k := 0) (i := 5) (j := 87) (rfl : gKinds[0]? = _) rfl (by decide) (hts _ q_fl_X8_43) rfl rfl dX8_taskAt_37 ?_
              refine lv_aload_n hx hb0 dX8_taskAt_40 rfl (lv_at hl 0 rfl) ?_
              refine g_getR hx hb0 hts q_ws_X8 hown hX hH (C := RX8) (T := TX8) (N := 10) (k := 0) (i := 6) (j := 96) (rfl : gKinds[0]? = _) rfl (by decide) (hts _ q_fl_X8_50) rfl rfl dX8_taskAt_41 ?_
              refine lv_iload_n hx hb0 dX8_taskAt_44 rfl (lv_at hl 1 rfl) ?_
              obtain ⟨q45, e45, h⟩ := gBind_some h
              refine g_callVi (k := 96) (T := TX6) (N := 5) (As := [.int (gI a1)]) (rest := [.ref (G.1 87)]) ⟨hx, hb0, hml, hown, hts⟩ (metX6_bandOf l D G 96 gSheets_96 σ μ a1 q45 e45) (g_cwV (C := RX6) 1 hts q_ml_X8_209 q_im_X6_bandOf q_se_X6_bandOf q_in_X6 q_co_X6_bandOf ⟨rfl, rfl⟩ (by decide +kernel) ⟨Nat.le_of_ble_eq_true rfl, Nat.le_of_ble_eq_true rfl⟩) hX hH gSheets_96.k rfl rfl hl.1 rfl (Nat.le_of_ble_eq_true rfl) dX8_taskAt_45 ⟨Nat.le_of_ble_eq_true rfl, Nat.le_of_ble_eq_true rfl⟩ (fun H locs hH => ?_)
              refine lv_iload_n hx hb0 dX8_taskAt_48 rfl (lv_at hl 2 rfl) ?_
              obtain ⟨q49, e49, h⟩ := gBind_some h
              refine g_callVi (k := 87) (T := TX0) (N := 8) (As := [.int (gI q45), .int (gI a2)]) (rest := []) ⟨hx, hb0, hml, hown, hts⟩ (metX0_content l D G 87 gBands_87 σ μ q45 a2 q49 e49) (g_cwV (C := RX0) 2 hts q_ml_X8_166 q_im_X0_content q_se_X0_content q_in_X0 q_co_X0_content ⟨rfl, rfl⟩ (by decide +kernel) ⟨Nat.le_of_ble_eq_true rfl, Nat.le_of_ble_eq_true rfl⟩) hX hH gBands_87.k rfl rfl hl.1 rfl (Nat.le_of_ble_eq_true rfl) dX8_taskAt_49 ⟨Nat.le_of_ble_eq_true rfl, Nat.le_of_ble_eq_true rfl⟩ (fun H locs hH => ?_)
              refine lv_istore (lv' := [(4, .int (gI q49)), (0, .ref (G.1 0)), (1, .int (gI a1)), (2, .int (gI a2)), (3, .int (gI a3))]) hx hb0 dX8_taskAt_52 hl (by decide) rfl (fun ls hl => ?_)
              refine lv_aload_n hx hb0 dX8_taskAt_54 rfl (lv_at hl 1 rfl) ?_
              refine g_getR hx hb0 hts q_ws_X8 hown hX hH (C := RX8) (T := TX8) (N := 10) (k := 0) (i := 6) (j := 96) (rfl : gKinds[0]? = _) rfl (by decide) (hts _ q_fl_X8_50) rfl rfl dX8_taskAt_55 ?_
              refine lv_iload_n hx hb0 dX8_taskAt_58 rfl (lv_at hl 2 rfl) ?_
              obtain ⟨q59, e59, h⟩ := gBind_some h
              refine g_callVi (k := 96) (T := TX6) (N := 5) (As := [.int (gI a1)]) (rest := []) ⟨hx, hb0, hml, hown, hts⟩ (metX6_stripOf l D G 96 gSheets_96 σ μ a1 q59 e59) (g_cwV (C := RX6) 1 hts q_ml_X8_212 q_im_X6_stripOf q_se_X6_stripOf q_in_X6 q_co_X6_stripOf ⟨rfl, rfl⟩ (by decide +kernel) ⟨Nat.le_of_ble_eq_true rfl, Nat.le_of_ble_eq_true rfl⟩) hX hH gSheets_96.k rfl rfl hl.1 rfl (Nat.le_of_ble_eq_true rfl) dX8_taskAt_59 ⟨Nat.le_of_ble_eq_true rfl, Nat.le_of_ble_eq_true rfl⟩ (fun H locs hH => ?_)
              refine lv_aload_n hx hb0 dX8_taskAt_62 rfl (lv_at hl 1 rfl) ?_
              refine g_getR hx hb0 hts q_ws_X8 hown hX hH (C := RX8) (T := TX8) (N := 10) (k := 0) (i := 0) (j := 1) (rfl : gKinds[0]? = _) rfl (by decide) (hts _ q_fl_X8_12) rfl rfl dX8_taskAt_63 ?_
              refine lv_iconst (v := gI (1 : Int)) hx hb0 dX8_taskAt_66 (by decide) ?_
              obtain ⟨q67, e67, h⟩ := gBind_some h
              refine g_callVi (k := 1) (T := TX5) (N := 8) (As := [.int (gI (1 : Int))]) (rest := [.int (gI q59)]) ⟨hx, hb0, hml, hown, hts⟩ (metX5_setting l D G 1 gPlan_1 σ μ (1 : Int) q67 e67) (g_cwV (C := RX5) 1 hts q_ml_X8_82 q_im_X5_setting q_se_X5_setting q_in_X5 q_co_X5_setting ⟨rfl, rfl⟩ (by decide +kernel) ⟨Nat.le_of_ble_eq_true rfl, Nat.le_of_ble_eq_true rfl⟩) hX hH gPlan_1.k rfl rfl hl.1 rfl (Nat.le_of_ble_eq_true rfl) dX8_taskAt_67 ⟨Nat.le_of_ble_eq_true rfl, Nat.le_of_ble_eq_true rfl⟩ (fun H locs hH => ?_)
              refine g_imul hx hb0 dX8_taskAt_70 ?_
              refine lv_iload_n hx hb0 dX8_taskAt_71 rfl (lv_at hl 4 rfl) ?_
              refine g_iadd hx hb0 dX8_taskAt_72 ?_
              refine lv_istore (lv' := [(5, .int (gI ((q59 * q67) + a3))), (4, .int (gI q49)), (0, .ref (G.1 0)), (1, .int (gI a1)), (2, .int (gI a2)), (3, .int (gI a3))]) hx hb0 dX8_taskAt_73 hl (by decide) rfl (fun ls hl => ?_)
              refine lv_aload_n hx hb0 dX8_taskAt_75 rfl (lv_at hl 2 rfl) ?_
              refine g_getR hx hb0 hts q_ws_X8 hown hX hH (C := RX8) (T := TX8) (N := 10) (k := 0) (i := 0) (j := 1) (rfl : gKinds[0]? = _) rfl (by decide) (hts _ q_fl_X8_12) rfl rfl dX8_taskAt_76 ?_
              refine lv_iload hx hb0 dX8_taskAt_79 (lv_at hl 1 rfl) ?_
              refine lv_iload hx hb0 dX8_taskAt_81 (lv_at hl 0 rfl) ?_
              obtain ⟨q83, e83, h⟩ := gBind_some h
              refine g_callVi (k := 1) (T := TX5) (N := 8) (As := [.int (gI q49), .int (gI ((q59 * q67) + a3))]) (rest := []) ⟨hx, hb0, hml, hown, hts⟩ (metX5_covers l D G 1 gPlan_1 σ μ q49 ((q59 * q67) + a3) q83 e83) (g_cwV (C := RX5) 2 hts q_ml_X8_215 q_im_X5_covers q_se_X5_covers q_in_X5 q_co_X5_covers ⟨rfl, rfl⟩ (by decide +kernel) ⟨Nat.le_of_ble_eq_true rfl, Nat.le_of_ble_eq_true rfl⟩) hX hH gPlan_1.k rfl rfl hl.1 rfl (Nat.le_of_ble_eq_true rfl) dX8_taskAt_83 ⟨Nat.le_of_ble_eq_true rfl, Nat.le_of_ble_eq_true rfl⟩ (fun H locs hH => ?_)
              refine g_if_eq (tgt := 94) hx hb0 dX8_taskAt_86 (by decide) h (fun h => ?_) (fun h => ?_)
              · refine lv_iconst (v := gI (-1 : Int)) hx hb0 dX8_taskAt_94 (by decide) ?_
                exact g_xpret hx hb0 hr hH hlocks (Nat.le_of_ble_eq_true rfl) (Nat.le_of_ble_eq_true rfl) dX8_taskAt_95 h
              · refine lv_iload hx hb0 dX8_taskAt_89 (lv_at hl 1 rfl) ?_
                refine lv_goto (tgt := 95) hx hb0 dX8_taskAt_91 (by decide) ?_
                exact g_xpret hx hb0 hr hH hlocks (Nat.le_of_ble_eq_true rfl) (Nat.le_of_ble_eq_true rfl) dX8_taskAt_95 h
            · exact hJ26  _ _ _ hH (lv_sub hl [] rfl) h
def DX5_daysOfBars_L4 (b : Nat) (σ : gSt) : Nat → Int → Int → Option (Int)
  | 0, _, _ => none
  | f4 + 1, x2_4, x1_4 => gIf (x2_4 < (σ b 6)) x2_4 (σ b 6) ((DX5_length b σ x2_4).bind fun q15 => ((DX5_daysOfBars_L4 b σ f4) (x2_4 + (1 : Int)) (x1_4 + q15))) (some x1_4)
def DX5_daysOfBars (b : Nat) (σ : gSt) : Option (Int) :=
  (DX5_daysOfBars_L4 b σ gFuel (0 : Int) (0 : Int))
set_option maxHeartbeats 4000000 in
set_option maxRecDepth 100000 in
theorem metX5_daysOfBars (l : Launch) (D : va_G) (G : gAd) (b : Nat) (hb : gPlan b) (σ : gSt) (μ : gLg) (r : Int) (h : DX5_daysOfBars b σ = some r) : Met l yX5_daysOfBars (gWs yX5_daysOfBars cX5_daysOfBars 3 (some (Jvm.ClassFile.FieldType.int))) ({ frames := 2, cells := 0, slots := 0, locals := 42 } : Room) (gPc D G [.ref (G.1 b)] σ μ) (gQi D G r σ μ) 0 0 (gA G) := by
  refine Met.ofW (cc := cX5_daysOfBars) (maxL := 3) (ret := (some (Jvm.ClassFile.FieldType.int))) (by decide) rfl ?_
  intro p e s m args below meth c s₁ B hml hv
  obtain ⟨rfl, hP, hX⟩ := hv
  have hx := B.exec
  have hb0 := B.bytes
  have hr := B.returns
  have hts0 := atoms_spec (ws := (gWs yX5_daysOfBars cX5_daysOfBars 3 (some (Jvm.ClassFile.FieldType.int)))) B.pre
  have hts : ∀ w ∈ gLW, w.before _ s = true := fun w hw => hts0 w (List.mem_cons_of_mem _ hw)
  have hown : s.vm.findClass RX5 = some m.cls := findClass_of_methodNamed B.named
  have hlocks := B.notSynchronized
  have hH : gH D G s s.heap [] σ μ := ⟨hP, va_S.rf⟩
  have hl := lv_entry ([.ref (G.1 b)]) (n := 3) (Nat.le_of_ble_eq_true rfl)
  rw [lg_entry_eq]
  generalize (lg_sl ([.ref (G.1 b)]) ++ List.replicate (3 - (lg_sl ([.ref (G.1 b)])).length) Slot.unset).toArray = ls at hl ⊢
  have hl : lv_has ls 3 [(0, .ref (G.1 b))] := hl
  unfold DX5_daysOfBars at h
  refine lv_iconst (v := gI (0 : Int)) hx hb0 dX5_daysOfBars_0 (by decide) ?_
  refine lv_istore_n (lv' := [(1, .int (gI (0 : Int))), (0, .ref (G.1 b))]) hx hb0 dX5_daysOfBars_1 rfl hl (by decide) rfl (fun ls hl => ?_)
  refine lv_iconst (v := gI (0 : Int)) hx hb0 dX5_daysOfBars_2 (by decide) ?_
  refine lv_istore_n (lv' := [(2, .int (gI (0 : Int))), (1, .int (gI (0 : Int))), (0, .ref (G.1 b))]) hx hb0 dX5_daysOfBars_3 rfl hl (by decide) rfl (fun ls hl => ?_)
  have hL4 : ∀ (f4 : Nat) (x2_4 : Int) (x1_4 : Int) (H : Heap) (locs : List Loc) (ls : Array Slot), gH D G s H locs σ μ → lv_has ls 3 [(2, .int (gI x2_4)), (1, .int (gI x1_4)), (0, .ref (G.1 b))] → (DX5_daysOfBars_L4 b σ f4 x2_4 x1_4) = some r → W p l e (headSpec (gWs yX5_daysOfBars cX5_daysOfBars 3 (some (Jvm.ClassFile.FieldType.int))) ({ frames := 2, cells := 0, slots := 0, locals := 42 } : Room)).room s m ([.ref (G.1 b)] : List Value).toArray below meth c H locs 0 0 (MQ below (gQi D G r σ μ) ([.ref (G.1 b)] : List Value).toArray s 0 0 (gA G)) (F0 m 4 ls []) := by
    intro f4
    induction f4 with
    | zero => intro x2_4 x1_4 H locs ls hH hl h; cases h
    | succ f4 ih4 =>
      intro x2_4 x1_4 H locs ls hH hl h
      unfold DX5_daysOfBars_L4 at h
      refine lv_iload_n hx hb0 dX5_daysOfBars_4 rfl (lv_at hl 0 rfl) ?_
      refine lv_aload_n hx hb0 dX5_daysOfBars_5 rfl (lv_at hl 2 rfl) ?_
      refine g_getI hx hb0 hts q_ws_X5 hown hX hH (C := RX5) (T := TX5) (N := 8) (k := b) (i := 6) hb.k rfl (by decide) (hts _ q_fl_X5_47) rfl rfl dX5_daysOfBars_6 ?_
      refine g_icmp_ge (tgt := 26) hx hb0 dX5_daysOfBars_9 (by decide) h (fun h => ?_) (fun h => ?_)
      · refine lv_iload_n hx hb0 dX5_daysOfBars_26 rfl (lv_at hl 1 rfl) ?_
        exact g_iretP hx hb0 hr hH hlocks dX5_daysOfBars_27 h
      · refine lv_iload_n hx hb0 dX5_daysOfBars_12 rfl (lv_at hl 1 rfl) ?_
        refine lv_aload_n hx hb0 dX5_daysOfBars_13 rfl (lv_at hl 2 rfl) ?_
        refine lv_iload_n hx hb0 dX5_daysOfBars_14 rfl (lv_at hl 0 rfl) ?_
        obtain ⟨q15, e15, h⟩ := gBind_some h
        refine g_callVi (k := b) (T := TX5) (N := 8) (As := [.int (gI x2_4)]) (rest := [.int (gI x1_4)]) ⟨hx, hb0, hml, hown, hts⟩ (metX5_length l D G b hb σ μ x2_4 q15 e15) (g_cwV (C := RX5) 1 hts q_ml_X5_70 q_im_X5_length q_se_X5_length q_in_X5 q_co_X5_length ⟨rfl, rfl⟩ (by decide +kernel) ⟨Nat.le_of_ble_eq_true rfl, Nat.le_of_ble_eq_true rfl⟩) hX hH hb.k rfl rfl hl.1 rfl (Nat.le_of_ble_eq_true rfl) dX5_daysOfBars_15 ⟨Nat.zero_le _, Nat.zero_le _⟩ (fun H locs hH => ?_)
        refine g_iadd hx hb0 dX5_daysOfBars_18 ?_
        refine lv_istore_n (lv' := [(1, .int (gI (x1_4 + q15))), (2, .int (gI x2_4)), (0, .ref (G.1 b))]) hx hb0 dX5_daysOfBars_19 rfl hl (by decide) rfl (fun ls hl => ?_)
        refine g_iinc (k := 1) (n := (1 : Int)) (lv' := [(2, .int (gI (x2_4 + (1 : Int)))), (1, .int (gI (x1_4 + q15))), (0, .ref (G.1 b))]) hx hb0 dX5_daysOfBars_20 hl rfl (by decide) rfl (fun ls hl => ?_)
        refine lv_goto (tgt := 4) hx hb0 dX5_daysOfBars_23 (by decide) ?_
        exact ih4 _ _ _ _ _ hH (lv_sub hl [0, 1, 2] rfl) h
  exact hL4 gFuel _ _ _ _ _ hH (lv_sub hl [0, 1, 2] rfl) h
def DX8_sheetsWith_J16  : Option (Nat ⊕ (Int × gSt)) :=
  some (.inl 1)
def DX8_sheetsWith (σ : gSt) (a1 : Int) (a2 : Int) : Option (Nat ⊕ (Int × gSt)) :=
  (DX8_isSetting σ (0 : Int) a1).bind fun q2 => gIf (q2 = (0 : Int)) q2 (0 : Int) ((DX8_sheetsWith_J16)) ((DX8_isSetting σ (1 : Int) a2).bind fun q10 => gIf (q10 = (0 : Int)) q10 (0 : Int) ((DX8_sheetsWith_J16)) ((DX0_lay 118 1 σ a1).bind fun q35 => (DX6_print 127 1 118 q35 a2).bind fun q51 => (DX6_count 127 q51).bind fun q58 => some (.inr (q58, q51))))
set_option maxHeartbeats 4000000 in
set_option maxRecDepth 100000 in
theorem metX8_sheetsWith (l : Launch) (hlt : l.stackTraces = false) (D : va_G) (G : gAd) (σ : gSt) (μ : gLg) (a1 : Int) (a2 : Int) (r : Nat ⊕ (Int × gSt)) (h : DX8_sheetsWith σ a1 a2 = some r) : vx_Met l yX8_sheetsWith (gWs yX8_sheetsWith cX8_sheetsWith 3 (some (Jvm.ClassFile.FieldType.int))) ({ frames := 6, cells := 1, slots := 6, locals := 111 } : Room) (gPc D G [.ref (G.1 0), .int (gI a1), .int (gI a2)] σ μ) (gXs D G r μ) (gXC D G r σ μ) 1 6 (gA G) := by
  refine vx_ofW (cc := cX8_sheetsWith) (maxL := 3) (ret := (some (Jvm.ClassFile.FieldType.int))) (by decide) rfl ?_
  intro p e s m args below meth c s₁ B hml hxt hv
  obtain ⟨rfl, hP, hX⟩ := hv
  have hx := B.exec
  have hb0 := B.bytes
  have hr := B.returns
  have hts0 := atoms_spec (ws := (gWs yX8_sheetsWith cX8_sheetsWith 3 (some (Jvm.ClassFile.FieldType.int)))) B.pre
  have hts : ∀ w ∈ gLW, w.before _ s = true := fun w hw => hts0 w (List.mem_cons_of_mem _ hw)
  have hown : s.vm.findClass RX8 = some m.cls := findClass_of_methodNamed B.named
  have hlocks := B.notSynchronized
  have hH : gH D G s s.heap [] σ μ := ⟨hP, va_S.rf⟩
  have hl := lv_entry ([.ref (G.1 0), .int (gI a1), .int (gI a2)]) (n := 3) (Nat.le_of_ble_eq_true rfl)
  rw [lg_entry_eq]
  generalize (lg_sl ([.ref (G.1 0), .int (gI a1), .int (gI a2)]) ++ List.replicate (3 - (lg_sl ([.ref (G.1 0), .int (gI a1), .int (gI a2)])).length) Slot.unset).toArray = ls at hl ⊢
  have hl : lv_has ls 3 [(0, .ref (G.1 0)), (1, .int (gI a1)), (2, .int (gI a2))] := hl
  unfold DX8_sheetsWith at h
  refine lv_iconst (v := gI (0 : Int)) hx hb0 dX8_sheetsWith_0 (by decide) ?_
  refine lv_iload_n hx hb0 dX8_sheetsWith_1 rfl (lv_at hl 1 rfl) ?_
  obtain ⟨q2, e2, h⟩ := gBind_some h
  refine g_callSi (As := [.int (gI (0 : Int)), .int (gI a1)]) (rest := []) ⟨hx, hb0, hml, hown, hts⟩ (metX8_isSetting l D G σ μ (0 : Int) a1 q2 e2) (g_cwS 2 hts q_ml_X8_67 q_st_X8_isSetting q_in_X8 q_co_X8_isSetting ⟨rfl, rfl⟩ (by decide +kernel) ⟨Nat.le_of_ble_eq_true rfl, Nat.le_of_ble_eq_true rfl⟩) hX hH rfl hl.1 rfl (Nat.le_of_ble_eq_true rfl) dX8_sheetsWith_2 ⟨Nat.le_of_ble_eq_true rfl, Nat.le_of_ble_eq_true rfl⟩ (fun H locs hH => ?_)
  have hJ16 : ∀  (H : Heap) (locs : List Loc) (ls : Array Slot), gH D G s H locs σ μ → lv_has ls 3 [] → (DX8_sheetsWith_J16) = some r → W p l e (headSpec (gWs yX8_sheetsWith cX8_sheetsWith 3 (some (Jvm.ClassFile.FieldType.int))) ({ frames := 6, cells := 1, slots := 6, locals := 111 } : Room)).room s m ([.ref (G.1 0), .int (gI a1), .int (gI a2)] : List Value).toArray below meth c H locs 0 0 (vx_MQ below (gXs D G r μ) (gXC D G r σ μ) ([.ref (G.1 0), .int (gI a1), .int (gI a2)] : List Value).toArray s 1 6 (gA G)) (F0 m 16 ls []) := by
    intro H locs ls hH hl h
    unfold DX8_sheetsWith_J16 at h
    exact g_throwS (text := "rows or days out of range") (k := 1) hx hb0 hlt hown hts hX hH rfl q_cl_X8_71 q_in_java_lang_IllegalArgumentException g_bad1 g_ok1 g_ot1 (by decide +kernel) (by decide +kernel) (hl.1.trans hml.symm) dX8_sheetsWith_16 dX8_sheetsWith_19 dX8_sheetsWith_20 dX8_sheetsWith_22 dX8_sheetsWith_25 hxt ⟨⟨Nat.le_of_ble_eq_true rfl, Nat.le_of_ble_eq_true rfl⟩, Nat.le_of_ble_eq_true rfl, Nat.le_of_ble_eq_true rfl⟩ hlocks ⟨Nat.le_of_ble_eq_true rfl, Nat.le_of_ble_eq_true rfl⟩ h
  refine g_if_eq (tgt := 16) hx hb0 dX8_sheetsWith_5 (by decide) h (fun h => ?_) (fun h => ?_)
  · exact hJ16  _ _ _ hH (lv_sub hl [] rfl) h
  · refine lv_iconst (v := gI (1 : Int)) hx hb0 dX8_sheetsWith_8 (by decide) ?_
    refine lv_iload_n hx hb0 dX8_sheetsWith_9 rfl (lv_at hl 2 rfl) ?_
    obtain ⟨q10, e10, h⟩ := gBind_some h
    refine g_callSi (As := [.int (gI (1 : Int)), .int (gI a2)]) (rest := []) ⟨hx, hb0, hml, hown, hts⟩ (metX8_isSetting l D G σ μ (1 : Int) a2 q10 e10) (g_cwS 2 hts q_ml_X8_67 q_st_X8_isSetting q_in_X8 q_co_X8_isSetting ⟨rfl, rfl⟩ (by decide +kernel) ⟨Nat.le_of_ble_eq_true rfl, Nat.le_of_ble_eq_true rfl⟩) hX hH rfl hl.1 rfl (Nat.le_of_ble_eq_true rfl) dX8_sheetsWith_10 ⟨Nat.le_of_ble_eq_true rfl, Nat.le_of_ble_eq_true rfl⟩ (fun H locs hH => ?_)
    refine g_if_ne (tgt := 26) hx hb0 dX8_sheetsWith_13 (by decide) h (fun h => ?_) (fun h => ?_)
    · refine lv_aload_n hx hb0 dX8_sheetsWith_26 rfl (lv_at hl 0 rfl) ?_
      refine g_getR hx hb0 hts q_ws_X8 hown hX hH (C := RX8) (T := TX8) (N := 10) (k := 0) (i := 8) (j := 118) (rfl : gKinds[0]? = _) rfl (by decide) (hts _ q_fl_X8_61) rfl rfl dX8_sheetsWith_27 ?_
      refine lv_aload_n hx hb0 dX8_sheetsWith_30 rfl (lv_at hl 0 rfl) ?_
      refine g_getR hx hb0 hts q_ws_X8 hown hX hH (C := RX8) (T := TX8) (N := 10) (k := 0) (i := 0) (j := 1) (rfl : gKinds[0]? = _) rfl (by decide) (hts _ q_fl_X8_12) rfl rfl dX8_sheetsWith_31 ?_
      refine lv_iload_n hx hb0 dX8_sheetsWith_34 rfl (lv_at hl 1 rfl) ?_
      obtain ⟨q35, e35, h⟩ := gBind_some h
      refine g_callVv (k := 118) (T := TX0) (N := 8) (As := [.ref (G.1 1), .int (gI a1)]) (rest := []) ⟨hx, hb0, hml, hown, hts⟩ (metX0_lay l D G 118 1 gBands_118 gPlan_1 σ μ a1 q35 e35) (g_cwV (C := RX0) 2 hts q_ml_X8_223 q_im_X0_lay q_se_X0_lay q_in_X0 q_co_X0_lay ⟨rfl, rfl⟩ (by decide +kernel) ⟨Nat.le_of_ble_eq_true rfl, Nat.le_of_ble_eq_true rfl⟩) hX hH gBands_118.k rfl rfl hl.1 rfl (Nat.le_of_ble_eq_true rfl) dX8_sheetsWith_35 ⟨Nat.le_of_ble_eq_true rfl, Nat.le_of_ble_eq_true rfl⟩ (fun H locs hH => ?_)
      refine lv_aload_n hx hb0 dX8_sheetsWith_38 rfl (lv_at hl 0 rfl) ?_
      refine g_getR hx hb0 hts q_ws_X8 hown hX hH (C := RX8) (T := TX8) (N := 10) (k := 0) (i := 9) (j := 127) (rfl : gKinds[0]? = _) rfl (by decide) (hts _ q_fl_X8_64) rfl rfl dX8_sheetsWith_39 ?_
      refine lv_aload_n hx hb0 dX8_sheetsWith_42 rfl (lv_at hl 0 rfl) ?_
      refine g_getR hx hb0 hts q_ws_X8 hown hX hH (C := RX8) (T := TX8) (N := 10) (k := 0) (i := 0) (j := 1) (rfl : gKinds[0]? = _) rfl (by decide) (hts _ q_fl_X8_12) rfl rfl dX8_sheetsWith_43 ?_
      refine lv_aload_n hx hb0 dX8_sheetsWith_46 rfl (lv_at hl 0 rfl) ?_
      refine g_getR hx hb0 hts q_ws_X8 hown hX hH (C := RX8) (T := TX8) (N := 10) (k := 0) (i := 8) (j := 118) (rfl : gKinds[0]? = _) rfl (by decide) (hts _ q_fl_X8_61) rfl rfl dX8_sheetsWith_47 ?_
      refine lv_iload_n hx hb0 dX8_sheetsWith_50 rfl (lv_at hl 2 rfl) ?_
      obtain ⟨q51, e51, h⟩ := gBind_some h
      refine g_callVv (k := 127) (T := TX6) (N := 5) (As := [.ref (G.1 1), .ref (G.1 118), .int (gI a2)]) (rest := []) ⟨hx, hb0, hml, hown, hts⟩ (metX6_print l D G 127 1 118 gSheets_127 gPlan_1 gBands_118 q35 μ a2 q51 e51) (g_cwV (C := RX6) 3 hts q_ml_X8_227 q_im_X6_print q_se_X6_print q_in_X6 q_co_X6_print ⟨rfl, rfl⟩ (by decide +kernel) ⟨Nat.le_of_ble_eq_true rfl, Nat.le_of_ble_eq_true rfl⟩) hX hH gSheets_127.k rfl rfl hl.1 rfl (Nat.le_of_ble_eq_true rfl) dX8_sheetsWith_51 ⟨Nat.le_of_ble_eq_true rfl, Nat.le_of_ble_eq_true rfl⟩ (fun H locs hH => ?_)
      refine lv_aload_n hx hb0 dX8_sheetsWith_54 rfl (lv_at hl 0 rfl) ?_
      refine g_getR hx hb0 hts q_ws_X8 hown hX hH (C := RX8) (T := TX8) (N := 10) (k := 0) (i := 9) (j := 127) (rfl : gKinds[0]? = _) rfl (by decide) (hts _ q_fl_X8_64) rfl rfl dX8_sheetsWith_55 ?_
      obtain ⟨q58, e58, h⟩ := gBind_some h
      refine g_callVi (k := 127) (T := TX6) (N := 5) (As := []) (rest := []) ⟨hx, hb0, hml, hown, hts⟩ (metX6_count l D G 127 gSheets_127 q51 μ q58 e58) (g_cwV (C := RX6) 0 hts q_ml_X8_169 q_im_X6_count q_se_X6_count q_in_X6 q_co_X6_count ⟨rfl, rfl⟩ (by decide +kernel) ⟨Nat.le_of_ble_eq_true rfl, Nat.le_of_ble_eq_true rfl⟩) hX hH gSheets_127.k rfl rfl hl.1 rfl (Nat.le_of_ble_eq_true rfl) dX8_sheetsWith_58 ⟨Nat.le_of_ble_eq_true rfl, Nat.le_of_ble_eq_true rfl⟩ (fun H locs hH => ?_)
      exact g_xsret hx hb0 hr hH hlocks (Nat.le_of_ble_eq_true rfl) (Nat.le_of_ble_eq_true rfl) dX8_sheetsWith_61 h
    · exact hJ16  _ _ _ hH (lv_sub hl [] rfl) h
def DX8_exitsWith_J100 (R4 : Int → Int → Option (Int)) (x3_4 : Int) (x2_100 : Int) : Option (Int) :=
  (R4 (x3_4 + (1 : Int)) x2_100)
def DX8_exitsWith_J97 (R4 : Int → Int → Option (Int)) (x3_4 : Int) (x2_4 : Int) : Option (Int) :=
  (DX8_exitsWith_J100 R4 x3_4 (x2_4 + (1 : Int)))
def DX8_exitsWith_J69 (σ : gSt) (R4 : Int → Int → Option (Int)) (x3_4 : Int) (x2_4 : Int) (q20 : Int) (q30 : Int) (t0_69 : Int) : Option (Int) :=
  gIf (t0_69 = (0 : Int)) t0_69 (0 : Int) ((DX8_exitsWith_J97 R4 x3_4 x2_4)) ((DX0_bandOf 87 σ q20).bind fun q82 => (DX0_bandOf 87 σ q30).bind fun q91 => gIf (q82 = q91) q82 q91 ((DX8_exitsWith_J100 R4 x3_4 x2_4)) ((DX8_exitsWith_J97 R4 x3_4 x2_4)))
def DX8_exitsWith_L4 (σ : gSt) (a1 : Int) : Nat → Int → Int → Option (Int)
  | 0, _, _ => none
  | f4 + 1, x3_4, x2_4 => (DX5_arrowCount 1 σ).bind fun q9 => gIf (x3_4 < q9) x3_4 q9 ((DX5_from 1 σ x3_4).bind fun q20 => (DX5_to 1 σ x3_4).bind fun q30 => (DX5_last 1 σ q20).bind fun q41 => (DX8_stripOfDay σ q41 a1).bind fun q45 => (DX5_first 1 σ q30).bind fun q54 => (DX8_stripOfDay σ q54 a1).bind fun q58 => gIf (q45 = q58) q45 q58 ((DX8_exitsWith_J69 σ (DX8_exitsWith_L4 σ a1 f4) x3_4 x2_4 q20 q30 (1 : Int))) ((DX8_exitsWith_J69 σ (DX8_exitsWith_L4 σ a1 f4) x3_4 x2_4 q20 q30 (0 : Int)))) (some x2_4)
def DX8_exitsWith (σ : gSt) (a1 : Int) : Option (Int) :=
  (DX8_exitsWith_L4 σ a1 gFuel (0 : Int) (0 : Int))
set_option maxHeartbeats 4000000 in
set_option maxRecDepth 100000 in
theorem metX8_exitsWith (l : Launch) (D : va_G) (G : gAd) (σ : gSt) (μ : gLg) (a1 : Int) (r : Int) (h : DX8_exitsWith σ a1 = some r) : Met l yX8_exitsWith (gWs yX8_exitsWith cX8_exitsWith 7 (some (Jvm.ClassFile.FieldType.int))) ({ frames := 2, cells := 0, slots := 0, locals := 42 } : Room) (gPc D G [.ref (G.1 0), .int (gI a1)] σ μ) (gQi D G r σ μ) 0 0 (gA G) := by
  refine Met.ofW (cc := cX8_exitsWith) (maxL := 7) (ret := (some (Jvm.ClassFile.FieldType.int))) (by decide) rfl ?_
  intro p e s m args below meth c s₁ B hml hv
  obtain ⟨rfl, hP, hX⟩ := hv
  have hx := B.exec
  have hb0 := B.bytes
  have hr := B.returns
  have hts0 := atoms_spec (ws := (gWs yX8_exitsWith cX8_exitsWith 7 (some (Jvm.ClassFile.FieldType.int)))) B.pre
  have hts : ∀ w ∈ gLW, w.before _ s = true := fun w hw => hts0 w (List.mem_cons_of_mem _ hw)
  have hown : s.vm.findClass RX8 = some m.cls := findClass_of_methodNamed B.named
  have hlocks := B.notSynchronized
  have hH : gH D G s s.heap [] σ μ := ⟨hP, va_S.rf⟩
  have hl := lv_entry ([.ref (G.1 0), .int (gI a1)]) (n := 7) (Nat.le_of_ble_eq_true rfl)
  rw [lg_entry_eq]
  generalize (lg_sl ([.ref (G.1 0), .int (gI a1)]) ++ List.replicate (7 - (lg_sl ([.ref (G.1 0), .int (gI a1)])).length) Slot.unset).toArray = ls at hl ⊢
  have hl : lv_has ls 7 [(0, .ref (G.1 0)), (1, .int (gI a1))] := hl
  unfold DX8_exitsWith at h
  refine lv_iconst (v := gI (0 : Int)) hx hb0 dX8_exitsWith_0 (by decide) ?_
  refine lv_istore_n (lv' := [(2, .int (gI (0 : Int))), (0, .ref (G.1 0)), (1, .int (gI a1))]) hx hb0 dX8_exitsWith_1 rfl hl (by decide) rfl (fun ls hl => ?_)
  refine lv_iconst (v := gI (0 : Int)) hx hb0 dX8_exitsWith_2 (by decide) ?_
  refine lv_istore_n (lv' := [(3, .int (gI (0 : Int))), (2, .int (gI (0 : Int))), (0, .ref (G.1 0)), (1, .int (gI a1))]) hx hb0 dX8_exitsWith_3 rfl hl (by decide) rfl (fun ls hl => ?_)
  have hL4 : ∀ (f4 : Nat) (x3_4 : Int) (x2_4 : Int) (H : Heap) (locs : List Loc) (ls : Array Slot), gH D G s H locs σ μ → lv_has ls 7 [(3, .int (gI x3_4)), (2, .int (gI x2_4)), (0, .ref (G.1 0)), (1, .int (gI a1))] → (DX8_exitsWith_L4 σ a1 f4 x3_4 x2_4) = some r → W p l e (headSpec (gWs yX8_exitsWith cX8_exitsWith 7 (some (Jvm.ClassFile.FieldType.int))) ({ frames := 2, cells := 0, slots := 0, locals := 42 } : Room)).room s m ([.ref (G.1 0), .int (gI a1)] : List Value).toArray below meth c H locs 0 0 (MQ below (gQi D G r σ μ) ([.ref (G.1 0), .int (gI a1)] : List Value).toArray s 0 0 (gA G)) (F0 m 4 ls []) := by
    intro f4
    induction f4 with
    | zero => intro x3_4 x2_4 H locs ls hH hl h; cases h
    | succ f4 ih4 =>
      intro x3_4 x2_4 H locs ls hH hl h
      unfold DX8_exitsWith_L4 at h
      refine lv_iload_n hx hb0 dX8_exitsWith_4 rfl (lv_at hl 0 rfl) ?_
      refine lv_aload_n hx hb0 dX8_exitsWith_5 rfl (lv_at hl 2 rfl) ?_
      refine g_getR hx hb0 hts q_ws_X8 hown hX hH (C := RX8) (T := TX8) (N := 10) (k := 0) (i := 0) (j := 1) (rfl : gKinds[0]? = _) rfl (by decide) (hts _ q_fl_X8_12) rfl rfl dX8_exitsWith_6 ?_
      obtain ⟨q9, e9, h⟩ := gBind_some h
      refine g_callVi (k := 1) (T := TX5) (N := 8) (As := []) (rest := [.int (gI x3_4)]) ⟨hx, hb0, hml, hown, hts⟩ (metX5_arrowCount l D G 1 gPlan_1 σ μ q9 e9) (g_cwV (C := RX5) 0 hts q_ml_X8_137 q_im_X5_arrowCount q_se_X5_arrowCount q_in_X5 q_co_X5_arrowCount ⟨rfl, rfl⟩ (by decide +kernel) ⟨Nat.le_of_ble_eq_true rfl, Nat.le_of_ble_eq_true rfl⟩) hX hH gPlan_1.k rfl rfl hl.1 rfl (Nat.le_of_ble_eq_true rfl) dX8_exitsWith_9 ⟨Nat.zero_le _, Nat.zero_le _⟩ (fun H locs hH => ?_)
      refine g_icmp_ge (tgt := 106) hx hb0 dX8_exitsWith_12 (by decide) h (fun h => ?_) (fun h => ?_)
      · refine lv_iload_n hx hb0 dX8_exitsWith_106 rfl (lv_at hl 1 rfl) ?_
        exact g_iretP hx hb0 hr hH hlocks dX8_exitsWith_107 h
      · refine lv_aload_n hx hb0 dX8_exitsWith_15 rfl (lv_at hl 2 rfl) ?_
        refine g_getR hx hb0 hts q_ws_X8 hown hX hH (C := RX8) (T := TX8) (N := 10) (k := 0) (i := 0) (j := 1) (rfl : gKinds[0]? = _) rfl (by decide) (hts _ q_fl_X8_12) rfl rfl dX8_exitsWith_16 ?_
        refine lv_iload_n hx hb0 dX8_exitsWith_19 rfl (lv_at hl 0 rfl) ?_
        obtain ⟨q20, e20, h⟩ := gBind_some h
        refine g_callVi (k := 1) (T := TX5) (N := 8) (As := [.int (gI x3_4)]) (rest := []) ⟨hx, hb0, hml, hown, hts⟩ (metX5_from l D G 1 gPlan_1 σ μ x3_4 q20 e20) (g_cwV (C := RX5) 1 hts q_ml_X8_237 q_im_X5_from q_se_X5_from q_in_X5 q_co_X5_from ⟨rfl, rfl⟩ (by decide +kernel) ⟨Nat.le_of_ble_eq_true rfl, Nat.le_of_ble_eq_true rfl⟩) hX hH gPlan_1.k rfl rfl hl.1 rfl (Nat.le_of_ble_eq_true rfl) dX8_exitsWith_20 ⟨Nat.zero_le _, Nat.zero_le _⟩ (fun H locs hH => ?_)
        refine lv_istore (lv' := [(4, .int (gI q20)), (3, .int (gI x3_4)), (2, .int (gI x2_4)), (0, .ref (G.1 0)), (1, .int (gI a1))]) hx hb0 dX8_exitsWith_23 hl (by decide) rfl (fun ls hl => ?_)
        refine lv_aload_n hx hb0 dX8_exitsWith_25 rfl (lv_at hl 3 rfl) ?_
        refine g_getR hx hb0 hts q_ws_X8 hown hX hH (C := RX8) (T := TX8) (N := 10) (k := 0) (i := 0) (j := 1) (rfl : gKinds[0]? = _) rfl (by decide) (hts _ q_fl_X8_12) rfl rfl dX8_exitsWith_26 ?_
        refine lv_iload_n hx hb0 dX8_exitsWith_29 rfl (lv_at hl 1 rfl) ?_
        obtain ⟨q30, e30, h⟩ := gBind_some h
        refine g_callVi (k := 1) (T := TX5) (N := 8) (As := [.int (gI x3_4)]) (rest := []) ⟨hx, hb0, hml, hown, hts⟩ (metX5_to l D G 1 gPlan_1 σ μ x3_4 q30 e30) (g_cwV (C := RX5) 1 hts q_ml_X8_234 q_im_X5_to q_se_X5_to q_in_X5 q_co_X5_to ⟨rfl, rfl⟩ (by decide +kernel) ⟨Nat.le_of_ble_eq_true rfl, Nat.le_of_ble_eq_true rfl⟩) hX hH gPlan_1.k rfl rfl hl.1 rfl (Nat.le_of_ble_eq_true rfl) dX8_exitsWith_30 ⟨Nat.zero_le _, Nat.zero_le _⟩ (fun H locs hH => ?_)
        refine lv_istore (lv' := [(5, .int (gI q30)), (4, .int (gI q20)), (3, .int (gI x3_4)), (2, .int (gI x2_4)), (0, .ref (G.1 0)), (1, .int (gI a1))]) hx hb0 dX8_exitsWith_33 hl (by decide) rfl (fun ls hl => ?_)
        refine lv_aload_n hx hb0 dX8_exitsWith_35 rfl (lv_at hl 4 rfl) ?_
        refine g_getR hx hb0 hts q_ws_X8 hown hX hH (C := RX8) (T := TX8) (N := 10) (k := 0) (i := 0) (j := 1) (rfl : gKinds[0]? = _) rfl (by decide) (hts _ q_fl_X8_12) rfl rfl dX8_exitsWith_36 ?_
        refine lv_iload hx hb0 dX8_exitsWith_39 (lv_at hl 1 rfl) ?_
        obtain ⟨q41, e41, h⟩ := gBind_some h
        refine g_callVi (k := 1) (T := TX5) (N := 8) (As := [.int (gI q20)]) (rest := []) ⟨hx, hb0, hml, hown, hts⟩ (metX5_last l D G 1 gPlan_1 σ μ q20 q41 e41) (g_cwV (C := RX5) 1 hts q_ml_X8_240 q_im_X5_last q_se_X5_last q_in_X5 q_co_X5_last ⟨rfl, rfl⟩ (by decide +kernel) ⟨Nat.le_of_ble_eq_true rfl, Nat.le_of_ble_eq_true rfl⟩) hX hH gPlan_1.k rfl rfl hl.1 rfl (Nat.le_of_ble_eq_true rfl) dX8_exitsWith_41 ⟨Nat.zero_le _, Nat.zero_le _⟩ (fun H locs hH => ?_)
        refine lv_iload_n hx hb0 dX8_exitsWith_44 rfl (lv_at hl 5 rfl) ?_
        obtain ⟨q45, e45, h⟩ := gBind_some h
        refine g_callSi (As := [.int (gI q41), .int (gI a1)]) (rest := []) ⟨hx, hb0, hml, hown, hts⟩ (metX8_stripOfDay l D G σ μ q41 a1 q45 e45) (g_cwS 2 hts q_ml_X8_322 q_st_X8_stripOfDay q_in_X8 q_co_X8_stripOfDay ⟨rfl, rfl⟩ (by decide +kernel) ⟨Nat.le_of_ble_eq_true rfl, Nat.le_of_ble_eq_true rfl⟩) hX hH rfl hl.1 rfl (Nat.le_of_ble_eq_true rfl) dX8_exitsWith_45 ⟨Nat.zero_le _, Nat.zero_le _⟩ (fun H locs hH => ?_)
        refine lv_aload_n hx hb0 dX8_exitsWith_48 rfl (lv_at hl 4 rfl) ?_
        refine g_getR hx hb0 hts q_ws_X8 hown hX hH (C := RX8) (T := TX8) (N := 10) (k := 0) (i := 0) (j := 1) (rfl : gKinds[0]? = _) rfl (by decide) (hts _ q_fl_X8_12) rfl rfl dX8_exitsWith_49 ?_
        refine lv_iload hx hb0 dX8_exitsWith_52 (lv_at hl 0 rfl) ?_
        obtain ⟨q54, e54, h⟩ := gBind_some h
        refine g_callVi (k := 1) (T := TX5) (N := 8) (As := [.int (gI q30)]) (rest := [.int (gI q45)]) ⟨hx, hb0, hml, hown, hts⟩ (metX5_first l D G 1 gPlan_1 σ μ q30 q54 e54) (g_cwV (C := RX5) 1 hts q_ml_X8_122 q_im_X5_first q_se_X5_first q_in_X5 q_co_X5_first ⟨rfl, rfl⟩ (by decide +kernel) ⟨Nat.le_of_ble_eq_true rfl, Nat.le_of_ble_eq_true rfl⟩) hX hH gPlan_1.k rfl rfl hl.1 rfl (Nat.le_of_ble_eq_true rfl) dX8_exitsWith_54 ⟨Nat.zero_le _, Nat.zero_le _⟩ (fun H locs hH => ?_)
        refine lv_iload_n hx hb0 dX8_exitsWith_57 rfl (lv_at hl 5 rfl) ?_
        obtain ⟨q58, e58, h⟩ := gBind_some h
        refine g_callSi (As := [.int (gI q54), .int (gI a1)]) (rest := [.int (gI q45)]) ⟨hx, hb0, hml, hown, hts⟩ (metX8_stripOfDay l D G σ μ q54 a1 q58 e58) (g_cwS 2 hts q_ml_X8_322 q_st_X8_stripOfDay q_in_X8 q_co_X8_stripOfDay ⟨rfl, rfl⟩ (by decide +kernel) ⟨Nat.le_of_ble_eq_true rfl, Nat.le_of_ble_eq_true rfl⟩) hX hH rfl hl.1 rfl (Nat.le_of_ble_eq_true rfl) dX8_exitsWith_58 ⟨Nat.zero_le _, Nat.zero_le _⟩ (fun H locs hH => ?_)
        have hJ69 : ∀ (t0_69 : Int) (H : Heap) (locs : List Loc) (ls : Array Slot), gH D G s H locs σ μ → lv_has ls 7 [(5, .int (gI q30)), (4, .int (gI q20)), (3, .int (gI x3_4)), (2, .int (gI x2_4)), (0, .ref (G.1 0)), (1, .int (gI a1))] → (DX8_exitsWith_J69 σ (DX8_exitsWith_L4 σ a1 f4) x3_4 x2_4 q20 q30 t0_69) = some r → W p l e (headSpec (gWs yX8_exitsWith cX8_exitsWith 7 (some (Jvm.ClassFile.FieldType.int))) ({ frames := 2, cells := 0, slots := 0, locals := 42 } : Room)).room s m ([.ref (G.1 0), .int (gI a1)] : List Value).toArray below meth c H locs 0 0 (MQ below (gQi D G r σ μ) ([.ref (G.1 0), .int (gI a1)] : List Value).toArray s 0 0 (gA G)) (F0 m 69 ls [.int (gI t0_69)]) := by
          intro t0_69 H locs ls hH hl h
          unfold DX8_exitsWith_J69 at h
          refine lv_istore (lv' := [(6, .int (gI t0_69)), (5, .int (gI q30)), (4, .int (gI q20)), (3, .int (gI x3_4)), (2, .int (gI x2_4)), (0, .ref (G.1 0)), (1, .int (gI a1))]) hx hb0 dX8_exitsWith_69 hl (by decide) rfl (fun ls hl => ?_)
          refine lv_iload hx hb0 dX8_exitsWith_71 (lv_at hl 0 rfl) ?_
          have hJ100 : ∀ (x2_100 : Int) (H : Heap) (locs : List Loc) (ls : Array Slot), gH D G s H locs σ μ → lv_has ls 7 [(3, .int (gI x3_4)), (2, .int (gI x2_100)), (0, .ref (G.1 0)), (1, .int (gI a1))] → (DX8_exitsWith_J100 (DX8_exitsWith_L4 σ a1 f4) x3_4 x2_100) = some r → W p l e (headSpec (gWs yX8_exitsWith cX8_exitsWith 7 (some (Jvm.ClassFile.FieldType.int))) ({ frames := 2, cells := 0, slots := 0, locals := 42 } : Room)).room s m ([.ref (G.1 0), .int (gI a1)] : List Value).toArray below meth c H locs 0 0 (MQ below (gQi D G r σ μ) ([.ref (G.1 0), .int (gI a1)] : List Value).toArray s 0 0 (gA G)) (F0 m 100 ls []) := by
            intro x2_100 H locs ls hH hl h
            unfold DX8_exitsWith_J100 at h
            refine g_iinc (k := 0) (n := (1 : Int)) (lv' := [(3, .int (gI (x3_4 + (1 : Int)))), (2, .int (gI x2_100)), (0, .ref (G.1 0)), (1, .int (gI a1))]) hx hb0 dX8_exitsWith_100 hl rfl (by decide) rfl (fun ls hl => ?_)
            refine lv_goto (tgt := 4) hx hb0 dX8_exitsWith_103 (by decide) ?_
            exact ih4 _ _ _ _ _ hH (lv_sub hl [0, 1, 2, 3] rfl) h
          have hJ97 : ∀  (H : Heap) (locs : List Loc) (ls : Array Slot), gH D G s H locs σ μ → lv_has ls 7 [(3, .int (gI x3_4)), (2, .int (gI x2_4)), (0, .ref (G.1 0)), (1, .int (gI a1))] → (DX8_exitsWith_J97 (DX8_exitsWith_L4 σ a1 f4) x3_4 x2_4) = some r → W p l e (headSpec (gWs yX8_exitsWith cX8_exitsWith 7 (some (Jvm.ClassFile.FieldType.int))) ({ frames := 2, cells := 0, slots := 0, locals := 42 } : Room)).room s m ([.ref (G.1 0), .int (gI a1)] : List Value).toArray below meth c H locs 0 0 (MQ below (gQi D G r σ μ) ([.ref (G.1 0), .int (gI a1)] : List Value).toArray s 0 0 (gA G)) (F0 m 97 ls []) := by
            intro H locs ls hH hl h
            unfold DX8_exitsWith_J97 at h
            refine g_iinc (k := 1) (n := (1 : Int)) (lv' := [(2, .int (gI (x2_4 + (1 : Int)))), (3, .int (gI x3_4)), (0, .ref (G.1 0)), (1, .int (gI a1))]) hx hb0 dX8_exitsWith_97 hl rfl (by decide) rfl (fun ls hl => ?_)
            exact hJ100 _ _ _ _ hH (lv_sub hl [1, 0, 2, 3] rfl) h
          refine g_if_eq (tgt := 97) hx hb0 dX8_exitsWith_73 (by decide) h (fun h => ?_) (fun h => ?_)
          · exact hJ97  _ _ _ hH (lv_sub hl [3, 4, 5, 6] rfl) h
          · refine lv_aload_n hx hb0 dX8_exitsWith_76 rfl (lv_at hl 5 rfl) ?_
            refine g_getR hx hb0 hts q_ws_X8 hown hX hH (C := RX8) (T := TX8) (N := 10) (k := 0) (i := 5) (j := 87) (rfl : gKinds[0]? = _) rfl (by decide) (hts _ q_fl_X8_43) rfl rfl dX8_exitsWith_77 ?_
            refine lv_iload hx hb0 dX8_exitsWith_80 (lv_at hl 2 rfl) ?_
            obtain ⟨q82, e82, h⟩ := gBind_some h
            refine g_callVi (k := 87) (T := TX0) (N := 8) (As := [.int (gI q20)]) (rest := []) ⟨hx, hb0, hml, hown, hts⟩ (metX0_bandOf l D G 87 gBands_87 σ μ q20 q82 e82) (g_cwV (C := RX0) 1 hts q_ml_X8_325 q_im_X0_bandOf q_se_X0_bandOf q_in_X0 q_co_X0_bandOf ⟨rfl, rfl⟩ (by decide +kernel) ⟨Nat.le_of_ble_eq_true rfl, Nat.le_of_ble_eq_true rfl⟩) hX hH gBands_87.k rfl rfl hl.1 rfl (Nat.le_of_ble_eq_true rfl) dX8_exitsWith_82 ⟨Nat.zero_le _, Nat.zero_le _⟩ (fun H locs hH => ?_)
            refine lv_aload_n hx hb0 dX8_exitsWith_85 rfl (lv_at hl 5 rfl) ?_
            refine g_getR hx hb0 hts q_ws_X8 hown hX hH (C := RX8) (T := TX8) (N := 10) (k := 0) (i := 5) (j := 87) (rfl : gKinds[0]? = _) rfl (by decide) (hts _ q_fl_X8_43) rfl rfl dX8_exitsWith_86 ?_
            refine lv_iload hx hb0 dX8_exitsWith_89 (lv_at hl 1 rfl) ?_
            obtain ⟨q91, e91, h⟩ := gBind_some h
            refine g_callVi (k := 87) (T := TX0) (N := 8) (As := [.int (gI q30)]) (rest := [.int (gI q82)]) ⟨hx, hb0, hml, hown, hts⟩ (metX0_bandOf l D G 87 gBands_87 σ μ q30 q91 e91) (g_cwV (C := RX0) 1 hts q_ml_X8_325 q_im_X0_bandOf q_se_X0_bandOf q_in_X0 q_co_X0_bandOf ⟨rfl, rfl⟩ (by decide +kernel) ⟨Nat.le_of_ble_eq_true rfl, Nat.le_of_ble_eq_true rfl⟩) hX hH gBands_87.k rfl rfl hl.1 rfl (Nat.le_of_ble_eq_true rfl) dX8_exitsWith_91 ⟨Nat.zero_le _, Nat.zero_le _⟩ (fun H locs hH => ?_)
            refine g_icmp_eq (tgt := 100) hx hb0 dX8_exitsWith_94 (by decide) h (fun h => ?_) (fun h => ?_)
            · exact hJ100 _ _ _ _ hH (lv_sub hl [3, 4, 5, 6] rfl) h
            · exact hJ97  _ _ _ hH (lv_sub hl [3, 4, 5, 6] rfl) h
        refine g_icmp_ne (tgt := 68) hx hb0 dX8_exitsWith_61 (by decide) h (fun h => ?_) (fun h => ?_)
        · refine lv_iconst (v := gI (0 : Int)) hx hb0 dX8_exitsWith_68 (by decide) ?_
          exact hJ69 _ _ _ _ hH (lv_sub hl [0, 1, 2, 3, 4, 5] rfl) h
        · refine lv_iconst (v := gI (1 : Int)) hx hb0 dX8_exitsWith_64 (by decide) ?_
          refine lv_goto (tgt := 69) hx hb0 dX8_exitsWith_65 (by decide) ?_
          exact hJ69 _ _ _ _ hH (lv_sub hl [0, 1, 2, 3, 4, 5] rfl) h
  exact hL4 gFuel _ _ _ _ _ hH (lv_sub hl [0, 1, 2, 3] rfl) h
def DX8_fewestExits_J31 (R7 : Int → Int → Int → Option (Int)) (x3_7 : Int) (x2_31 : Int) (x1_31 : Int) : Option (Int) :=
  (R7 (x3_7 + (1 : Int)) x2_31 x1_31)
def DX8_fewestExits_L7 (σ : gSt) : Nat → Int → Int → Int → Option (Int)
  | 0, _, _, _ => none
  | f7 + 1, x3_7, x2_7, x1_7 => gIf ((60 : Int) < x3_7) x3_7 (60 : Int) (some x1_7) ((DX8_exitsWith σ x3_7).bind fun q15 => gIf (q15 < x2_7) q15 x2_7 ((DX8_fewestExits_J31 (DX8_fewestExits_L7 σ f7) x3_7 q15 x3_7)) ((DX8_fewestExits_J31 (DX8_fewestExits_L7 σ f7) x3_7 x2_7 x1_7)))
def DX8_fewestExits (σ : gSt) : Option (Int) :=
  (DX8_fewestExits_L7 σ gFuel (5 : Int) (31 : Int) (5 : Int))
set_option maxHeartbeats 4000000 in
set_option maxRecDepth 100000 in
theorem metX8_fewestExits (l : Launch) (D : va_G) (G : gAd) (σ : gSt) (μ : gLg) (r : Int) (h : DX8_fewestExits σ = some r) : Met l yX8_fewestExits (gWs yX8_fewestExits cX8_fewestExits 5 (some (Jvm.ClassFile.FieldType.int))) ({ frames := 3, cells := 0, slots := 0, locals := 68 } : Room) (gPc D G [.ref (G.1 0)] σ μ) (gQi D G r σ μ) 0 0 (gA G) := by
  refine Met.ofW (cc := cX8_fewestExits) (maxL := 5) (ret := (some (Jvm.ClassFile.FieldType.int))) (by decide) rfl ?_
  intro p e s m args below meth c s₁ B hml hv
  obtain ⟨rfl, hP, hX⟩ := hv
  have hx := B.exec
  have hb0 := B.bytes
  have hr := B.returns
  have hts0 := atoms_spec (ws := (gWs yX8_fewestExits cX8_fewestExits 5 (some (Jvm.ClassFile.FieldType.int)))) B.pre
  have hts : ∀ w ∈ gLW, w.before _ s = true := fun w hw => hts0 w (List.mem_cons_of_mem _ hw)
  have hown : s.vm.findClass RX8 = some m.cls := findClass_of_methodNamed B.named
  have hlocks := B.notSynchronized
  have hH : gH D G s s.heap [] σ μ := ⟨hP, va_S.rf⟩
  have hl := lv_entry ([.ref (G.1 0)]) (n := 5) (Nat.le_of_ble_eq_true rfl)
  rw [lg_entry_eq]
  generalize (lg_sl ([.ref (G.1 0)]) ++ List.replicate (5 - (lg_sl ([.ref (G.1 0)])).length) Slot.unset).toArray = ls at hl ⊢
  have hl : lv_has ls 5 [(0, .ref (G.1 0))] := hl
  unfold DX8_fewestExits at h
  refine lv_iconst (v := gI (5 : Int)) hx hb0 dX8_fewestExits_0 (by decide) ?_
  refine lv_istore_n (lv' := [(1, .int (gI (5 : Int))), (0, .ref (G.1 0))]) hx hb0 dX8_fewestExits_1 rfl hl (by decide) rfl (fun ls hl => ?_)
  refine lv_bipush (v := gI (31 : Int)) hx hb0 dX8_fewestExits_2 (by decide) ?_
  refine lv_istore_n (lv' := [(2, .int (gI (31 : Int))), (1, .int (gI (5 : Int))), (0, .ref (G.1 0))]) hx hb0 dX8_fewestExits_4 rfl hl (by decide) rfl (fun ls hl => ?_)
  refine lv_iconst (v := gI (5 : Int)) hx hb0 dX8_fewestExits_5 (by decide) ?_
  refine lv_istore_n (lv' := [(3, .int (gI (5 : Int))), (2, .int (gI (31 : Int))), (1, .int (gI (5 : Int))), (0, .ref (G.1 0))]) hx hb0 dX8_fewestExits_6 rfl hl (by decide) rfl (fun ls hl => ?_)
  have hL7 : ∀ (f7 : Nat) (x3_7 : Int) (x2_7 : Int) (x1_7 : Int) (H : Heap) (locs : List Loc) (ls : Array Slot), gH D G s H locs σ μ → lv_has ls 5 [(3, .int (gI x3_7)), (2, .int (gI x2_7)), (1, .int (gI x1_7)), (0, .ref (G.1 0))] → (DX8_fewestExits_L7 σ f7 x3_7 x2_7 x1_7) = some r → W p l e (headSpec (gWs yX8_fewestExits cX8_fewestExits 5 (some (Jvm.ClassFile.FieldType.int))) ({ frames := 3, cells := 0, slots := 0, locals := 68 } : Room)).room s m ([.ref (G.1 0)] : List Value).toArray below meth c H locs 0 0 (MQ below (gQi D G r σ μ) ([.ref (G.1 0)] : List Value).toArray s 0 0 (gA G)) (F0 m 7 ls []) := by
    intro f7
    induction f7 with
    | zero => intro x3_7 x2_7 x1_7 H locs ls hH hl h; cases h
    | succ f7 ih7 =>
      intro x3_7 x2_7 x1_7 H locs ls hH hl h
      unfold DX8_fewestExits_L7 at h
      refine lv_iload_n hx hb0 dX8_fewestExits_7 rfl (lv_at hl 0 rfl) ?_
      refine lv_bipush (v := gI (60 : Int)) hx hb0 dX8_fewestExits_8 (by decide) ?_
      refine g_icmp_gt (tgt := 37) hx hb0 dX8_fewestExits_10 (by decide) h (fun h => ?_) (fun h => ?_)
      · refine lv_iload_n hx hb0 dX8_fewestExits_37 rfl (lv_at hl 2 rfl) ?_
        exact g_iretP hx hb0 hr hH hlocks dX8_fewestExits_38 h
      · refine lv_aload_n hx hb0 dX8_fewestExits_13 rfl (lv_at hl 3 rfl) ?_
        refine lv_iload_n hx hb0 dX8_fewestExits_14 rfl (lv_at hl 0 rfl) ?_
        obtain ⟨q15, e15, h⟩ := gBind_some h
        refine g_callVi (k := 0) (T := TX8) (N := 10) (As := [.int (gI x3_7)]) (rest := []) ⟨hx, hb0, hml, hown, hts⟩ (metX8_exitsWith l D G σ μ x3_7 q15 e15) (g_cwV (C := RX8) 1 hts q_ml_X8_231 q_im_X8_exitsWith q_se_X8_exitsWith q_in_X8 q_co_X8_exitsWith ⟨rfl, rfl⟩ (by decide +kernel) ⟨Nat.le_of_ble_eq_true rfl, Nat.le_of_ble_eq_true rfl⟩) hX hH (rfl : gKinds[0]? = _) rfl rfl hl.1 rfl (Nat.le_of_ble_eq_true rfl) dX8_fewestExits_15 ⟨Nat.zero_le _, Nat.zero_le _⟩ (fun H locs hH => ?_)
        refine lv_istore (lv' := [(4, .int (gI q15)), (3, .int (gI x3_7)), (2, .int (gI x2_7)), (1, .int (gI x1_7)), (0, .ref (G.1 0))]) hx hb0 dX8_fewestExits_18 hl (by decide) rfl (fun ls hl => ?_)
        refine lv_iload hx hb0 dX8_fewestExits_20 (lv_at hl 0 rfl) ?_
        refine lv_iload_n hx hb0 dX8_fewestExits_22 rfl (lv_at hl 2 rfl) ?_
        have hJ31 : ∀ (x2_31 : Int) (x1_31 : Int) (H : Heap) (locs : List Loc) (ls : Array Slot), gH D G s H locs σ μ → lv_has ls 5 [(3, .int (gI x3_7)), (2, .int (gI x2_31)), (1, .int (gI x1_31)), (0, .ref (G.1 0))] → (DX8_fewestExits_J31 (DX8_fewestExits_L7 σ f7) x3_7 x2_31 x1_31) = some r → W p l e (headSpec (gWs yX8_fewestExits cX8_fewestExits 5 (some (Jvm.ClassFile.FieldType.int))) ({ frames := 3, cells := 0, slots := 0, locals := 68 } : Room)).room s m ([.ref (G.1 0)] : List Value).toArray below meth c H locs 0 0 (MQ below (gQi D G r σ μ) ([.ref (G.1 0)] : List Value).toArray s 0 0 (gA G)) (F0 m 31 ls []) := by
          intro x2_31 x1_31 H locs ls hH hl h
          unfold DX8_fewestExits_J31 at h
          refine g_iinc (k := 0) (n := (1 : Int)) (lv' := [(3, .int (gI (x3_7 + (1 : Int)))), (2, .int (gI x2_31)), (1, .int (gI x1_31)), (0, .ref (G.1 0))]) hx hb0 dX8_fewestExits_31 hl rfl (by decide) rfl (fun ls hl => ?_)
          refine lv_goto (tgt := 7) hx hb0 dX8_fewestExits_34 (by decide) ?_
          exact ih7 _ _ _ _ _ _ hH (lv_sub hl [0, 1, 2, 3] rfl) h
        refine g_icmp_ge (tgt := 31) hx hb0 dX8_fewestExits_23 (by decide) h (fun h => ?_) (fun h => ?_)
        · exact hJ31 _ _ _ _ _ hH (lv_sub hl [1, 2, 3, 4] rfl) h
        · refine lv_iload hx hb0 dX8_fewestExits_26 (lv_at hl 0 rfl) ?_
          refine lv_istore_n (lv' := [(2, .int (gI q15)), (4, .int (gI q15)), (3, .int (gI x3_7)), (1, .int (gI x1_7)), (0, .ref (G.1 0))]) hx hb0 dX8_fewestExits_28 rfl hl (by decide) rfl (fun ls hl => ?_)
          refine lv_iload_n hx hb0 dX8_fewestExits_29 rfl (lv_at hl 2 rfl) ?_
          refine lv_istore_n (lv' := [(1, .int (gI x3_7)), (2, .int (gI q15)), (4, .int (gI q15)), (3, .int (gI x3_7)), (0, .ref (G.1 0))]) hx hb0 dX8_fewestExits_30 rfl hl (by decide) rfl (fun ls hl => ?_)
          exact hJ31 _ _ _ _ _ hH (lv_sub hl [3, 1, 0, 4] rfl) h
  exact hL7 gFuel _ _ _ _ _ _ hH (lv_sub hl [0, 1, 2, 3] rfl) h
def DX8_delay_J63 (R9 : Int → Int → Option (Nat ⊕ Int)) (x3_9 : Int) (x2_63 : Int) : Option (Nat ⊕ Int) :=
  (R9 (x3_9 + (1 : Int)) x2_63)
def DX8_delay_L9 (σ : gSt) (a1 : Int) : Nat → Int → Int → Option (Nat ⊕ Int)
  | 0, _, _ => none
  | f9 + 1, x3_9, x2_9 => (DX5_arrowCount 1 σ).bind fun q14 => gIf (x3_9 < q14) x3_9 q14 ((DX5_to 1 σ x3_9).bind fun q25 => gIf (q25 = a1) q25 a1 ((DX5_from 1 σ x3_9).bind fun q42 => (DX5_last 1 σ q42).bind fun q45 => (DX5_first 1 σ a1).bind fun q55 => gRr x2_9 ((q45 + (1 : Int)) - q55) ((DX8_delay_J63 (DX8_delay_L9 σ a1 f9) x3_9 (max x2_9 ((q45 + (1 : Int)) - q55))))) ((DX8_delay_J63 (DX8_delay_L9 σ a1 f9) x3_9 x2_9))) (some (.inr x2_9))
def DX8_delay (σ : gSt) (a1 : Int) : Option (Nat ⊕ Int) :=
  gXb (DX8_requireTask σ a1) fun _ => (DX8_delay_L9 σ a1 gFuel (0 : Int) (0 : Int))
set_option maxHeartbeats 4000000 in
set_option maxRecDepth 100000 in
theorem metX8_delay (l : Launch) (hlt : l.stackTraces = false) (D : va_G) (G : gAd) (σ : gSt) (μ : gLg) (a1 : Int) (r : Nat ⊕ Int) (h : DX8_delay σ a1 = some r) : vx_Met l yX8_delay (gWs yX8_delay cX8_delay 4 (some (Jvm.ClassFile.FieldType.int))) ({ frames := 7, cells := 1, slots := 6, locals := 103 } : Room) (gPc D G [.ref (G.1 0), .int (gI a1)] σ μ) (gXp D G r σ μ) (gXC D G r σ μ) 1 6 (gA G) := by
  refine vx_ofW (cc := cX8_delay) (maxL := 4) (ret := (some (Jvm.ClassFile.FieldType.int))) (by decide) rfl ?_
  intro p e s m args below meth c s₁ B hml hxt hv
  obtain ⟨rfl, hP, hX⟩ := hv
  have hx := B.exec
  have hb0 := B.bytes
  have hr := B.returns
  have hts0 := atoms_spec (ws := (gWs yX8_delay cX8_delay 4 (some (Jvm.ClassFile.FieldType.int)))) B.pre
  have hts : ∀ w ∈ gLW, w.before _ s = true := fun w hw => hts0 w (List.mem_cons_of_mem _ hw)
  have hown : s.vm.findClass RX8 = some m.cls := findClass_of_methodNamed B.named
  have hlocks := B.notSynchronized
  have hH : gH D G s s.heap [] σ μ := ⟨hP, va_S.rf⟩
  have hl := lv_entry ([.ref (G.1 0), .int (gI a1)]) (n := 4) (Nat.le_of_ble_eq_true rfl)
  rw [lg_entry_eq]
  generalize (lg_sl ([.ref (G.1 0), .int (gI a1)]) ++ List.replicate (4 - (lg_sl ([.ref (G.1 0), .int (gI a1)])).length) Slot.unset).toArray = ls at hl ⊢
  have hl : lv_has ls 4 [(0, .ref (G.1 0)), (1, .int (gI a1))] := hl
  unfold DX8_delay at h
  refine lv_aload_n hx hb0 dX8_delay_0 rfl (lv_at hl 0 rfl) ?_
  refine lv_iload_n hx hb0 dX8_delay_1 rfl (lv_at hl 1 rfl) ?_
  obtain ⟨q2, e2, h⟩ := gXb_some h
  refine g_xcallVv (k := 0) (T := TX8) (N := 10) (As := [.int (gI a1)]) (rest := []) (x := q2) ⟨hx, hb0, hml, hown, hts⟩ (metX8_requireTask l hlt D G σ μ a1 q2 e2) (g_cwX (C := RX8) 1 hts q_ml_X8_116 q_im_X8_requireTask q_se_X8_requireTask q_in_X8 q_co_X8_requireTask ⟨rfl, rfl⟩ (by decide +kernel) ⟨Nat.le_of_ble_eq_true rfl, Nat.le_of_ble_eq_true rfl⟩) hX hH (rfl : gKinds[0]? = _) rfl rfl hl.1 rfl (Nat.le_of_ble_eq_true rfl) dX8_delay_2 ⟨Nat.le_of_ble_eq_true rfl, Nat.le_of_ble_eq_true rfl⟩ (fun k9 E9 ce9 q9 H locs hk9 hE9 hH h1 h2 h3 => ?_) (fun hk9 H locs hH => ?_)
  · rcases h with ⟨k8, h8, h⟩ | ⟨a8, h8, h⟩
    · rw [h8] at hk9
      cases hk9
      exact g_xout hxt hlocks hE9 hH h1 h2 h3 (Nat.le_of_ble_eq_true rfl) (Nat.le_of_ble_eq_true rfl) h
    · rw [h8] at hk9
      cases hk9
  · rcases h with ⟨k8, h8, h⟩ | ⟨a8, h8, h⟩
    · rw [h8] at hk9
      cases hk9
    · refine lv_iconst (v := gI (0 : Int)) hx hb0 dX8_delay_5 (by decide) ?_
      refine lv_istore_n (lv' := [(2, .int (gI (0 : Int))), (0, .ref (G.1 0)), (1, .int (gI a1))]) hx hb0 dX8_delay_6 rfl hl (by decide) rfl (fun ls hl => ?_)
      refine lv_iconst (v := gI (0 : Int)) hx hb0 dX8_delay_7 (by decide) ?_
      refine lv_istore_n (lv' := [(3, .int (gI (0 : Int))), (2, .int (gI (0 : Int))), (0, .ref (G.1 0)), (1, .int (gI a1))]) hx hb0 dX8_delay_8 rfl hl (by decide) rfl (fun ls hl => ?_)
      have hL9 : ∀ (f9 : Nat) (x3_9 : Int) (x2_9 : Int) (H : Heap) (locs : List Loc) (ls : Array Slot), gH D G s H locs σ μ → lv_has ls 4 [(3, .int (gI x3_9)), (2, .int (gI x2_9)), (0, .ref (G.1 0)), (1, .int (gI a1))] → (DX8_delay_L9 σ a1 f9 x3_9 x2_9) = some r → W p l e (headSpec (gWs yX8_delay cX8_delay 4 (some (Jvm.ClassFile.FieldType.int))) ({ frames := 7, cells := 1, slots := 6, locals := 103 } : Room)).room s m ([.ref (G.1 0), .int (gI a1)] : List Value).toArray below meth c H locs 1 6 (vx_MQ below (gXp D G r σ μ) (gXC D G r σ μ) ([.ref (G.1 0), .int (gI a1)] : List Value).toArray s 1 6 (gA G)) (F0 m 9 ls []) := by
        intro f9
        induction f9 with
        | zero => intro x3_9 x2_9 H locs ls hH hl h; cases h
        | succ f9 ih9 =>
          intro x3_9 x2_9 H locs ls hH hl h
          unfold DX8_delay_L9 at h
          refine lv_iload_n hx hb0 dX8_delay_9 rfl (lv_at hl 0 rfl) ?_
          refine lv_aload_n hx hb0 dX8_delay_10 rfl (lv_at hl 2 rfl) ?_
          refine g_getR hx hb0 hts q_ws_X8 hown hX hH (C := RX8) (T := TX8) (N := 10) (k := 0) (i := 0) (j := 1) (rfl : gKinds[0]? = _) rfl (by decide) (hts _ q_fl_X8_12) rfl rfl dX8_delay_11 ?_
          obtain ⟨q14, e14, h⟩ := gBind_some h
          refine g_callVi (k := 1) (T := TX5) (N := 8) (As := []) (rest := [.int (gI x3_9)]) ⟨hx, hb0, hml, hown, hts⟩ (metX5_arrowCount l D G 1 gPlan_1 σ μ q14 e14) (g_cwV (C := RX5) 0 hts q_ml_X8_137 q_im_X5_arrowCount q_se_X5_arrowCount q_in_X5 q_co_X5_arrowCount ⟨rfl, rfl⟩ (by decide +kernel) ⟨Nat.le_of_ble_eq_true rfl, Nat.le_of_ble_eq_true rfl⟩) hX hH gPlan_1.k rfl rfl hl.1 rfl (Nat.le_of_ble_eq_true rfl) dX8_delay_14 ⟨Nat.le_of_ble_eq_true rfl, Nat.le_of_ble_eq_true rfl⟩ (fun H locs hH => ?_)
          refine g_icmp_ge (tgt := 69) hx hb0 dX8_delay_17 (by decide) h (fun h => ?_) (fun h => ?_)
          · refine lv_iload_n hx hb0 dX8_delay_69 rfl (lv_at hl 1 rfl) ?_
            exact g_xpret hx hb0 hr hH hlocks (Nat.le_of_ble_eq_true rfl) (Nat.le_of_ble_eq_true rfl) dX8_delay_70 h
          · refine lv_aload_n hx hb0 dX8_delay_20 rfl (lv_at hl 2 rfl) ?_
            refine g_getR hx hb0 hts q_ws_X8 hown hX hH (C := RX8) (T := TX8) (N := 10) (k := 0) (i := 0) (j := 1) (rfl : gKinds[0]? = _) rfl (by decide) (hts _ q_fl_X8_12) rfl rfl dX8_delay_21 ?_
            refine lv_iload_n hx hb0 dX8_delay_24 rfl (lv_at hl 0 rfl) ?_
            obtain ⟨q25, e25, h⟩ := gBind_some h
            refine g_callVi (k := 1) (T := TX5) (N := 8) (As := [.int (gI x3_9)]) (rest := []) ⟨hx, hb0, hml, hown, hts⟩ (metX5_to l D G 1 gPlan_1 σ μ x3_9 q25 e25) (g_cwV (C := RX5) 1 hts q_ml_X8_234 q_im_X5_to q_se_X5_to q_in_X5 q_co_X5_to ⟨rfl, rfl⟩ (by decide +kernel) ⟨Nat.le_of_ble_eq_true rfl, Nat.le_of_ble_eq_true rfl⟩) hX hH gPlan_1.k rfl rfl hl.1 rfl (Nat.le_of_ble_eq_true rfl) dX8_delay_25 ⟨Nat.le_of_ble_eq_true rfl, Nat.le_of_ble_eq_true rfl⟩ (fun H locs hH => ?_)
            refine lv_iload_n hx hb0 dX8_delay_28 rfl (lv_at hl 3 rfl) ?_
            have hJ63 : ∀ (x2_63 : Int) (H : Heap) (locs : List Loc) (ls : Array Slot), gH D G s H locs σ μ → lv_has ls 4 [(3, .int (gI x3_9)), (2, .int (gI x2_63)), (0, .ref (G.1 0)), (1, .int (gI a1))] → (DX8_delay_J63 (DX8_delay_L9 σ a1 f9) x3_9 x2_63) = some r → W p l e (headSpec (gWs yX8_delay cX8_delay 4 (some (Jvm.ClassFile.FieldType.int))) ({ frames := 7, cells := 1, slots := 6, locals := 103 } : Room)).room s m ([.ref (G.1 0), .int (gI a1)] : List Value).toArray below meth c H locs 1 6 (vx_MQ below (gXp D G r σ μ) (gXC D G r σ μ) ([.ref (G.1 0), .int (gI a1)] : List Value).toArray s 1 6 (gA G)) (F0 m 63 ls []) := by
              intro x2_63 H locs ls hH hl h
              unfold DX8_delay_J63 at h
              refine g_iinc (k := 0) (n := (1 : Int)) (lv' := [(3, .int (gI (x3_9 + (1 : Int)))), (2, .int (gI x2_63)), (0, .ref (G.1 0)), (1, .int (gI a1))]) hx hb0 dX8_delay_63 hl rfl (by decide) rfl (fun ls hl => ?_)
              refine lv_goto (tgt := 9) hx hb0 dX8_delay_66 (by decide) ?_
              exact ih9 _ _ _ _ _ hH (lv_sub hl [0, 1, 2, 3] rfl) h
            refine g_icmp_ne (tgt := 63) hx hb0 dX8_delay_29 (by decide) h (fun h => ?_) (fun h => ?_)
            · exact hJ63 _ _ _ _ hH (lv_sub hl [0, 1, 2, 3] rfl) h
            · refine lv_iload_n hx hb0 dX8_delay_32 rfl (lv_at hl 1 rfl) ?_
              refine lv_aload_n hx hb0 dX8_delay_33 rfl (lv_at hl 2 rfl) ?_
              refine g_getR hx hb0 hts q_ws_X8 hown hX hH (C := RX8) (T := TX8) (N := 10) (k := 0) (i := 0) (j := 1) (rfl : gKinds[0]? = _) rfl (by decide) (hts _ q_fl_X8_12) rfl rfl dX8_delay_34 ?_
              refine lv_aload_n hx hb0 dX8_delay_37 rfl (lv_at hl 2 rfl) ?_
              refine g_getR hx hb0 hts q_ws_X8 hown hX hH (C := RX8) (T := TX8) (N := 10) (k := 0) (i := 0) (j := 1) (rfl : gKinds[0]? = _) rfl (by decide) (hts _ q_fl_X8_12) rfl rfl dX8_delay_38 ?_
              refine lv_iload_n hx hb0 dX8_delay_41 rfl (lv_at hl 0 rfl) ?_
              obtain ⟨q42, e42, h⟩ := gBind_some h
              refine g_callVi (k := 1) (T := TX5) (N := 8) (As := [.int (gI x3_9)]) (rest := [.ref (G.1 1), .int (gI x2_9)]) ⟨hx, hb0, hml, hown, hts⟩ (metX5_from l D G 1 gPlan_1 σ μ x3_9 q42 e42) (g_cwV (C := RX5) 1 hts q_ml_X8_237 q_im_X5_from q_se_X5_from q_in_X5 q_co_X5_from ⟨rfl, rfl⟩ (by decide +kernel) ⟨Nat.le_of_ble_eq_true rfl, Nat.le_of_ble_eq_true rfl⟩) hX hH gPlan_1.k rfl rfl hl.1 rfl (Nat.le_of_ble_eq_true rfl) dX8_delay_42 ⟨Nat.le_of_ble_eq_true rfl, Nat.le_of_ble_eq_true rfl⟩ (fun H locs hH => ?_)
              obtain ⟨q45, e45, h⟩ := gBind_some h
              refine g_callVi (k := 1) (T := TX5) (N := 8) (As := [.int (gI q42)]) (rest := [.int (gI x2_9)]) ⟨hx, hb0, hml, hown, hts⟩ (metX5_last l D G 1 gPlan_1 σ μ q42 q45 e45) (g_cwV (C := RX5) 1 hts q_ml_X8_240 q_im_X5_last q_se_X5_last q_in_X5 q_co_X5_last ⟨rfl, rfl⟩ (by decide +kernel) ⟨Nat.le_of_ble_eq_true rfl, Nat.le_of_ble_eq_true rfl⟩) hX hH gPlan_1.k rfl rfl hl.1 rfl (Nat.le_of_ble_eq_true rfl) dX8_delay_45 ⟨Nat.le_of_ble_eq_true rfl, Nat.le_of_ble_eq_true rfl⟩ (fun H locs hH => ?_)
              refine lv_iconst (v := gI (1 : Int)) hx hb0 dX8_delay_48 (by decide) ?_
              refine g_iadd hx hb0 dX8_delay_49 ?_
              refine lv_aload_n hx hb0 dX8_delay_50 rfl (lv_at hl 2 rfl) ?_
              refine g_getR hx hb0 hts q_ws_X8 hown hX hH (C := RX8) (T := TX8) (N := 10) (k := 0) (i := 0) (j := 1) (rfl : gKinds[0]? = _) rfl (by decide) (hts _ q_fl_X8_12) rfl rfl dX8_delay_51 ?_
              refine lv_iload_n hx hb0 dX8_delay_54 rfl (lv_at hl 3 rfl) ?_
              obtain ⟨q55, e55, h⟩ := gBind_some h
              refine g_callVi (k := 1) (T := TX5) (N := 8) (As := [.int (gI a1)]) (rest := [.int (gI (q45 + (1 : Int))), .int (gI x2_9)]) ⟨hx, hb0, hml, hown, hts⟩ (metX5_first l D G 1 gPlan_1 σ μ a1 q55 e55) (g_cwV (C := RX5) 1 hts q_ml_X8_122 q_im_X5_first q_se_X5_first q_in_X5 q_co_X5_first ⟨rfl, rfl⟩ (by decide +kernel) ⟨Nat.le_of_ble_eq_true rfl, Nat.le_of_ble_eq_true rfl⟩) hX hH gPlan_1.k rfl rfl hl.1 rfl (Nat.le_of_ble_eq_true rfl) dX8_delay_55 ⟨Nat.le_of_ble_eq_true rfl, Nat.le_of_ble_eq_true rfl⟩ (fun H locs hH => ?_)
              refine g_isub hx hb0 dX8_delay_58 ?_
              refine g_mmax hx hb0 (hml.trans hl.1.symm) hts hown q_ml_X8_243 ⟨⟨Nat.le_of_ble_eq_true rfl, Nat.le_of_ble_eq_true rfl⟩, Nat.le_of_ble_eq_true rfl, Nat.le_of_ble_eq_true rfl⟩ dX8_delay_59 h (fun h => ?_)
              refine lv_istore_n (lv' := [(2, .int (gI (max x2_9 ((q45 + (1 : Int)) - q55)))), (3, .int (gI x3_9)), (0, .ref (G.1 0)), (1, .int (gI a1))]) hx hb0 dX8_delay_62 rfl hl (by decide) rfl (fun ls hl => ?_)
              exact hJ63 _ _ _ _ hH (lv_sub hl [1, 0, 2, 3] rfl) h
      exact hL9 gFuel _ _ _ _ _ hH (lv_sub hl [0, 1, 2, 3] rfl) h
def DX1_growOnce_J69 (R4 : Int → Int → gSt → Option (Int × gSt)) (x3_4 : Int) (x2_69 : Int) (σ69 : gSt) : Option (Int × gSt) :=
  (R4 (x3_4 + (1 : Int)) x2_69 σ69)
def DX1_growOnce_L4 (b : Nat) (p1 : Nat) : Nat → Int → Int → gSt → Option (Int × gSt)
  | 0, _, _, _ => none
  | f4 + 1, x3_4, x2_4, σ4 => (DX5_arrowCount p1 σ4).bind fun q6 => gIf (x3_4 < q6) x3_4 q6 ((DX5_from p1 σ4 x3_4).bind fun q18 => (DX4_at (b + 1) 24 σ4 q18).bind fun q21 => (DX5_isLate p1 σ4 x3_4).bind fun q30 => gIf (q30 = (0 : Int)) q30 (0 : Int) ((DX5_to p1 σ4 x3_4).bind fun q44 => (DX4_at (b + 1) 24 σ4 q44).bind fun q47 => gIf (q47 < (q21 + (1 : Int))) (q21 + (1 : Int)) q47 ((DX5_to p1 σ4 x3_4).bind fun q59 => (DX4_put (b + 1) 24 σ4 q59 (q21 + (1 : Int))).bind fun q64 => (DX1_growOnce_J69 (DX1_growOnce_L4 b p1 f4) x3_4 (1 : Int) q64)) ((DX1_growOnce_J69 (DX1_growOnce_L4 b p1 f4) x3_4 x2_4 σ4))) ((DX1_growOnce_J69 (DX1_growOnce_L4 b p1 f4) x3_4 x2_4 σ4))) (gBo x2_4 (some (x2_4, σ4)))
def DX1_growOnce (b : Nat) (p1 : Nat) (σ : gSt) : Option (Int × gSt) :=
  (DX1_growOnce_L4 b p1 gFuel (0 : Int) (0 : Int) σ)
set_option maxHeartbeats 4000000 in
set_option maxRecDepth 100000 in
theorem metX1_growOnce (l : Launch) (D : va_G) (G : gAd) (b : Nat) (p1 : Nat) (hb : gChains b) (hp1 : gPlan p1) (σ : gSt) (μ : gLg) (r : Int) (σ' : gSt) (h : DX1_growOnce b p1 σ = some (r, σ')) : Met l yX1_growOnce (gWs yX1_growOnce cX1_growOnce 5 (some (Jvm.ClassFile.FieldType.boolean))) ({ frames := 3, cells := 0, slots := 0, locals := 63 } : Room) (gPc D G [.ref (G.1 b), .ref (G.1 p1)] σ μ) (gQi D G r σ' μ) 0 0 (gA G) := by
  refine Met.ofW (cc := cX1_growOnce) (maxL := 5) (ret := (some (Jvm.ClassFile.FieldType.boolean))) (by decide) rfl ?_
  intro p e s m args below meth c s₁ B hml hv
  obtain ⟨rfl, hP, hX⟩ := hv
  have hx := B.exec
  have hb0 := B.bytes
  have hr := B.returns
  have hts0 := atoms_spec (ws := (gWs yX1_growOnce cX1_growOnce 5 (some (Jvm.ClassFile.FieldType.boolean)))) B.pre
  have hts : ∀ w ∈ gLW, w.before _ s = true := fun w hw => hts0 w (List.mem_cons_of_mem _ hw)
  have hown : s.vm.findClass RX1 = some m.cls := findClass_of_methodNamed B.named
  have hlocks := B.notSynchronized
  have hH : gH D G s s.heap [] σ μ := ⟨hP, va_S.rf⟩
  have hl := lv_entry ([.ref (G.1 b), .ref (G.1 p1)]) (n := 5) (Nat.le_of_ble_eq_true rfl)
  rw [lg_entry_eq]
  generalize (lg_sl ([.ref (G.1 b), .ref (G.1 p1)]) ++ List.replicate (5 - (lg_sl ([.ref (G.1 b), .ref (G.1 p1)])).length) Slot.unset).toArray = ls at hl ⊢
  have hl : lv_has ls 5 [(0, .ref (G.1 b)), (1, .ref (G.1 p1))] := hl
  unfold DX1_growOnce at h
  refine lv_iconst (v := gI (0 : Int)) hx hb0 dX1_growOnce_0 (by decide) ?_
  refine lv_istore_n (lv' := [(2, .int (gI (0 : Int))), (0, .ref (G.1 b)), (1, .ref (G.1 p1))]) hx hb0 dX1_growOnce_1 rfl hl (by decide) rfl (fun ls hl => ?_)
  refine lv_iconst (v := gI (0 : Int)) hx hb0 dX1_growOnce_2 (by decide) ?_
  refine lv_istore_n (lv' := [(3, .int (gI (0 : Int))), (2, .int (gI (0 : Int))), (0, .ref (G.1 b)), (1, .ref (G.1 p1))]) hx hb0 dX1_growOnce_3 rfl hl (by decide) rfl (fun ls hl => ?_)
  have hL4 : ∀ (f4 : Nat) (x3_4 : Int) (x2_4 : Int) (σ4 : gSt) (H : Heap) (locs : List Loc) (ls : Array Slot), gH D G s H locs σ4 μ → lv_has ls 5 [(3, .int (gI x3_4)), (2, .int (gI x2_4)), (0, .ref (G.1 b)), (1, .ref (G.1 p1))] → (DX1_growOnce_L4 b p1 f4 x3_4 x2_4 σ4) = some (r, σ') → W p l e (headSpec (gWs yX1_growOnce cX1_growOnce 5 (some (Jvm.ClassFile.FieldType.boolean))) ({ frames := 3, cells := 0, slots := 0, locals := 63 } : Room)).room s m ([.ref (G.1 b), .ref (G.1 p1)] : List Value).toArray below meth c H locs 0 0 (MQ below (gQi D G r σ' μ) ([.ref (G.1 b), .ref (G.1 p1)] : List Value).toArray s 0 0 (gA G)) (F0 m 4 ls []) := by
    intro f4
    induction f4 with
    | zero => intro x3_4 x2_4 σ4 H locs ls hH hl h; cases h
    | succ f4 ih4 =>
      intro x3_4 x2_4 σ4 H locs ls hH hl h
      unfold DX1_growOnce_L4 at h
      refine lv_iload_n hx hb0 dX1_growOnce_4 rfl (lv_at hl 0 rfl) ?_
      refine lv_aload_n hx hb0 dX1_growOnce_5 rfl (lv_at hl 3 rfl) ?_
      obtain ⟨q6, e6, h⟩ := gBind_some h
      refine g_callVi (k := p1) (T := TX5) (N := 8) (As := []) (rest := [.int (gI x3_4)]) ⟨hx, hb0, hml, hown, hts⟩ (metX5_arrowCount l D G p1 hp1 σ4 μ q6 e6) (g_cwV (C := RX5) 0 hts q_ml_X1_44 q_im_X5_arrowCount q_se_X5_arrowCount q_in_X5 q_co_X5_arrowCount ⟨rfl, rfl⟩ (by decide +kernel) ⟨Nat.le_of_ble_eq_true rfl, Nat.le_of_ble_eq_true rfl⟩) hX hH hp1.k rfl rfl hl.1 rfl (Nat.le_of_ble_eq_true rfl) dX1_growOnce_6 ⟨Nat.zero_le _, Nat.zero_le _⟩ (fun H locs hH => ?_)
      refine g_icmp_ge (tgt := 75) hx hb0 dX1_growOnce_9 (by decide) h (fun h => ?_) (fun h => ?_)
      · refine lv_iload_n hx hb0 dX1_growOnce_75 rfl (lv_at hl 1 rfl) ?_
        exact g_zretS hx hb0 hr hH hlocks dX1_growOnce_76 h
      · refine lv_aload_n hx hb0 dX1_growOnce_12 rfl (lv_at hl 2 rfl) ?_
        refine g_getR hx hb0 hts q_ws_X1 hown hX hH (C := RX1) (T := TX1) (N := 1) (k := b) (i := 0) (j := (b + 1)) hb.k rfl (by decide) (hts _ q_fl_X1_14) rfl rfl dX1_growOnce_13 ?_
        refine lv_aload_n hx hb0 dX1_growOnce_16 rfl (lv_at hl 3 rfl) ?_
        refine lv_iload_n hx hb0 dX1_growOnce_17 rfl (lv_at hl 0 rfl) ?_
        obtain ⟨q18, e18, h⟩ := gBind_some h
        refine g_callVi (k := p1) (T := TX5) (N := 8) (As := [.int (gI x3_4)]) (rest := [.ref (G.1 (b + 1))]) ⟨hx, hb0, hml, hown, hts⟩ (metX5_from l D G p1 hp1 σ4 μ x3_4 q18 e18) (g_cwV (C := RX5) 1 hts q_ml_X1_47 q_im_X5_from q_se_X5_from q_in_X5 q_co_X5_from ⟨rfl, rfl⟩ (by decide +kernel) ⟨Nat.le_of_ble_eq_true rfl, Nat.le_of_ble_eq_true rfl⟩) hX hH hp1.k rfl rfl hl.1 rfl (Nat.le_of_ble_eq_true rfl) dX1_growOnce_18 ⟨Nat.zero_le _, Nat.zero_le _⟩ (fun H locs hH => ?_)
        obtain ⟨q21, e21, h⟩ := gBind_some h
        refine g_callVi (k := (b + 1)) (T := TX4) (N := 1) (As := [.int (gI q18)]) (rest := []) ⟨hx, hb0, hml, hown, hts⟩ (metX4_at l D G (b + 1) 24 (hb.n0) σ4 μ q18 q21 e21) (g_cwV (C := RX4) 1 hts q_ml_X1_34 q_im_X4_at q_se_X4_at q_in_X4 q_co_X4_at ⟨rfl, rfl⟩ (by decide +kernel) ⟨Nat.le_of_ble_eq_true rfl, Nat.le_of_ble_eq_true rfl⟩) hX hH ((hb.n0)).1 rfl rfl hl.1 rfl (Nat.le_of_ble_eq_true rfl) dX1_growOnce_21 ⟨Nat.zero_le _, Nat.zero_le _⟩ (fun H locs hH => ?_)
        refine lv_iconst (v := gI (1 : Int)) hx hb0 dX1_growOnce_24 (by decide) ?_
        refine g_iadd hx hb0 dX1_growOnce_25 ?_
        refine lv_istore (lv' := [(4, .int (gI (q21 + (1 : Int)))), (3, .int (gI x3_4)), (2, .int (gI x2_4)), (0, .ref (G.1 b)), (1, .ref (G.1 p1))]) hx hb0 dX1_growOnce_26 hl (by decide) rfl (fun ls hl => ?_)
        refine lv_aload_n hx hb0 dX1_growOnce_28 rfl (lv_at hl 4 rfl) ?_
        refine lv_iload_n hx hb0 dX1_growOnce_29 rfl (lv_at hl 1 rfl) ?_
        obtain ⟨q30, e30, h⟩ := gBind_some h
        refine g_callVi (k := p1) (T := TX5) (N := 8) (As := [.int (gI x3_4)]) (rest := []) ⟨hx, hb0, hml, hown, hts⟩ (metX5_isLate l D G p1 hp1 σ4 μ x3_4 q30 e30) (g_cwV (C := RX5) 1 hts q_ml_X1_50 q_im_X5_isLate q_se_X5_isLate q_in_X5 q_co_X5_isLate ⟨rfl, rfl⟩ (by decide +kernel) ⟨Nat.le_of_ble_eq_true rfl, Nat.le_of_ble_eq_true rfl⟩) hX hH hp1.k rfl rfl hl.1 rfl (Nat.le_of_ble_eq_true rfl) dX1_growOnce_30 ⟨Nat.zero_le _, Nat.zero_le _⟩ (fun H locs hH => ?_)
        have hJ69 : ∀ (x2_69 : Int) (σ69 : gSt) (H : Heap) (locs : List Loc) (ls : Array Slot), gH D G s H locs σ69 μ → lv_has ls 5 [(3, .int (gI x3_4)), (2, .int (gI x2_69)), (0, .ref (G.1 b)), (1, .ref (G.1 p1))] → (DX1_growOnce_J69 (DX1_growOnce_L4 b p1 f4) x3_4 x2_69 σ69) = some (r, σ') → W p l e (headSpec (gWs yX1_growOnce cX1_growOnce 5 (some (Jvm.ClassFile.FieldType.boolean))) ({ frames := 3, cells := 0, slots := 0, locals := 63 } : Room)).room s m ([.ref (G.1 b), .ref (G.1 p1)] : List Value).toArray below meth c H locs 0 0 (MQ below (gQi D G r σ' μ) ([.ref (G.1 b), .ref (G.1 p1)] : List Value).toArray s 0 0 (gA G)) (F0 m 69 ls []) := by
          intro x2_69 σ69 H locs ls hH hl h
          unfold DX1_growOnce_J69 at h
          refine g_iinc (k := 0) (n := (1 : Int)) (lv' := [(3, .int (gI (x3_4 + (1 : Int)))), (2, .int (gI x2_69)), (0, .ref (G.1 b)), (1, .ref (G.1 p1))]) hx hb0 dX1_growOnce_69 hl rfl (by decide) rfl (fun ls hl => ?_)
          refine lv_goto (tgt := 4) hx hb0 dX1_growOnce_72 (by decide) ?_
          exact ih4 _ _ _ _ _ _ hH (lv_sub hl [0, 1, 2, 3] rfl) h
        refine g_if_ne (tgt := 69) hx hb0 dX1_growOnce_33 (by decide) h (fun h => ?_) (fun h => ?_)
        · exact hJ69 _ _ _ _ _ hH (lv_sub hl [1, 2, 3, 4] rfl) h
        · refine lv_iload hx hb0 dX1_growOnce_36 (lv_at hl 0 rfl) ?_
          refine lv_aload_n hx hb0 dX1_growOnce_38 rfl (lv_at hl 3 rfl) ?_
          refine g_getR hx hb0 hts q_ws_X1 hown hX hH (C := RX1) (T := TX1) (N := 1) (k := b) (i := 0) (j := (b + 1)) hb.k rfl (by decide) (hts _ q_fl_X1_14) rfl rfl dX1_growOnce_39 ?_
          refine lv_aload_n hx hb0 dX1_growOnce_42 rfl (lv_at hl 4 rfl) ?_
          refine lv_iload_n hx hb0 dX1_growOnce_43 rfl (lv_at hl 1 rfl) ?_
          obtain ⟨q44, e44, h⟩ := gBind_some h
          refine g_callVi (k := p1) (T := TX5) (N := 8) (As := [.int (gI x3_4)]) (rest := [.ref (G.1 (b + 1)), .int (gI (q21 + (1 : Int)))]) ⟨hx, hb0, hml, hown, hts⟩ (metX5_to l D G p1 hp1 σ4 μ x3_4 q44 e44) (g_cwV (C := RX5) 1 hts q_ml_X1_54 q_im_X5_to q_se_X5_to q_in_X5 q_co_X5_to ⟨rfl, rfl⟩ (by decide +kernel) ⟨Nat.le_of_ble_eq_true rfl, Nat.le_of_ble_eq_true rfl⟩) hX hH hp1.k rfl rfl hl.1 rfl (Nat.le_of_ble_eq_true rfl) dX1_growOnce_44 ⟨Nat.zero_le _, Nat.zero_le _⟩ (fun H locs hH => ?_)
          obtain ⟨q47, e47, h⟩ := gBind_some h
          refine g_callVi (k := (b + 1)) (T := TX4) (N := 1) (As := [.int (gI q44)]) (rest := [.int (gI (q21 + (1 : Int)))]) ⟨hx, hb0, hml, hown, hts⟩ (metX4_at l D G (b + 1) 24 (hb.n0) σ4 μ q44 q47 e47) (g_cwV (C := RX4) 1 hts q_ml_X1_34 q_im_X4_at q_se_X4_at q_in_X4 q_co_X4_at ⟨rfl, rfl⟩ (by decide +kernel) ⟨Nat.le_of_ble_eq_true rfl, Nat.le_of_ble_eq_true rfl⟩) hX hH ((hb.n0)).1 rfl rfl hl.1 rfl (Nat.le_of_ble_eq_true rfl) dX1_growOnce_47 ⟨Nat.zero_le _, Nat.zero_le _⟩ (fun H locs hH => ?_)
          refine g_icmp_le (tgt := 69) hx hb0 dX1_growOnce_50 (by decide) h (fun h => ?_) (fun h => ?_)
          · exact hJ69 _ _ _ _ _ hH (lv_sub hl [1, 2, 3, 4] rfl) h
          · refine lv_aload_n hx hb0 dX1_growOnce_53 rfl (lv_at hl 3 rfl) ?_
            refine g_getR hx hb0 hts q_ws_X1 hown hX hH (C := RX1) (T := TX1) (N := 1) (k := b) (i := 0) (j := (b + 1)) hb.k rfl (by decide) (hts _ q_fl_X1_14) rfl rfl dX1_growOnce_54 ?_
            refine lv_aload_n hx hb0 dX1_growOnce_57 rfl (lv_at hl 4 rfl) ?_
            refine lv_iload_n hx hb0 dX1_growOnce_58 rfl (lv_at hl 1 rfl) ?_
            obtain ⟨q59, e59, h⟩ := gBind_some h
            refine g_callVi (k := p1) (T := TX5) (N := 8) (As := [.int (gI x3_4)]) (rest := [.ref (G.1 (b + 1))]) ⟨hx, hb0, hml, hown, hts⟩ (metX5_to l D G p1 hp1 σ4 μ x3_4 q59 e59) (g_cwV (C := RX5) 1 hts q_ml_X1_54 q_im_X5_to q_se_X5_to q_in_X5 q_co_X5_to ⟨rfl, rfl⟩ (by decide +kernel) ⟨Nat.le_of_ble_eq_true rfl, Nat.le_of_ble_eq_true rfl⟩) hX hH hp1.k rfl rfl hl.1 rfl (Nat.le_of_ble_eq_true rfl) dX1_growOnce_59 ⟨Nat.zero_le _, Nat.zero_le _⟩ (fun H locs hH => ?_)
            refine lv_iload hx hb0 dX1_growOnce_62 (lv_at hl 0 rfl) ?_
            obtain ⟨q64, e64, h⟩ := gBind_some h
            refine g_callVv (k := (b + 1)) (T := TX4) (N := 1) (As := [.int (gI q59), .int (gI (q21 + (1 : Int)))]) (rest := []) ⟨hx, hb0, hml, hown, hts⟩ (metX4_put l D G (b + 1) 24 (hb.n0) σ4 μ q59 (q21 + (1 : Int)) q64 e64) (g_cwV (C := RX4) 2 hts q_ml_X1_57 q_im_X4_put q_se_X4_put q_in_X4 q_co_X4_put ⟨rfl, rfl⟩ (by decide +kernel) ⟨Nat.le_of_ble_eq_true rfl, Nat.le_of_ble_eq_true rfl⟩) hX hH ((hb.n0)).1 rfl rfl hl.1 rfl (Nat.le_of_ble_eq_true rfl) dX1_growOnce_64 ⟨Nat.zero_le _, Nat.zero_le _⟩ (fun H locs hH => ?_)
            refine lv_iconst (v := gI (1 : Int)) hx hb0 dX1_growOnce_67 (by decide) ?_
            refine lv_istore_n (lv' := [(2, .int (gI (1 : Int))), (4, .int (gI (q21 + (1 : Int)))), (3, .int (gI x3_4)), (0, .ref (G.1 b)), (1, .ref (G.1 p1))]) hx hb0 dX1_growOnce_68 rfl hl (by decide) rfl (fun ls hl => ?_)
            exact hJ69 _ _ _ _ _ hH (lv_sub hl [2, 0, 3, 4] rfl) h
  exact hL4 gFuel _ _ _ _ _ _ hH (lv_sub hl [0, 1, 2, 3] rfl) h
def DX1_longest_L44 (b : Nat) (p1 : Nat) (σ39 : gSt) : Nat → Int → Int → Option (Int × gSt)
  | 0, _, _ => none
  | f44 + 1, x4_44, x3_44 => (DX5_taskCount p1 σ39).bind fun q47 => gIf (x4_44 < q47) x4_44 q47 ((DX4_at (b + 1) 24 σ39 x4_44).bind fun q60 => gRr x3_44 q60 (((DX1_longest_L44 b p1 σ39 f44) (x4_44 + (1 : Int)) (max x3_44 q60)))) (some (x3_44, σ39))
def DX1_longest_K39 (b : Nat) (p1 : Nat) (σ39 : gSt) : Option (Int × gSt) :=
  (DX1_longest_L44 b p1 σ39 gFuel (0 : Int) (0 : Int))
def DX1_longest_L17 (K39 : gSt → Option (Int × gSt)) (b : Nat) (p1 : Nat) : Nat → Int → Int → gSt → Option (Int × gSt)
  | 0, _, _, _ => none
  | f17 + 1, x3_17, x2_17, σ17 => gIf (x2_17 = (0 : Int)) x2_17 (0 : Int) ((K39 σ17)) (gIf (x3_17 < (24 : Int)) x3_17 (24 : Int) ((DX1_growOnce b p1 σ17).bind fun q29 => ((DX1_longest_L17 K39 b p1 f17) (x3_17 + (1 : Int)) q29.1 q29.2)) ((K39 σ17)))
def DX1_longest (b : Nat) (p1 : Nat) (σ : gSt) : Option (Int × gSt) :=
  (DX5_taskCount p1 σ).bind fun q6 => (DX4_fill (b + 1) 24 σ (0 : Int) q6 (1 : Int)).bind fun q10 => (DX1_longest_L17 (DX1_longest_K39 b p1) b p1 gFuel (0 : Int) (1 : Int) q10)
set_option maxHeartbeats 4000000 in
set_option maxRecDepth 100000 in
theorem metX1_longest (l : Launch) (D : va_G) (G : gAd) (b : Nat) (p1 : Nat) (hb : gChains b) (hp1 : gPlan p1) (σ : gSt) (μ : gLg) (r : Int) (σ' : gSt) (h : DX1_longest b p1 σ = some (r, σ')) : Met l yX1_longest (gWs yX1_longest cX1_longest 5 (some (Jvm.ClassFile.FieldType.int))) ({ frames := 4, cells := 0, slots := 0, locals := 87 } : Room) (gPc D G [.ref (G.1 b), .ref (G.1 p1)] σ μ) (gQi D G r σ' μ) 0 0 (gA G) := by
  refine Met.ofW (cc := cX1_longest) (maxL := 5) (ret := (some (Jvm.ClassFile.FieldType.int))) (by decide) rfl ?_
  intro p e s m args below meth c s₁ B hml hv
  obtain ⟨rfl, hP, hX⟩ := hv
  have hx := B.exec
  have hb0 := B.bytes
  have hr := B.returns
  have hts0 := atoms_spec (ws := (gWs yX1_longest cX1_longest 5 (some (Jvm.ClassFile.FieldType.int)))) B.pre
  have hts : ∀ w ∈ gLW, w.before _ s = true := fun w hw => hts0 w (List.mem_cons_of_mem _ hw)
  have hown : s.vm.findClass RX1 = some m.cls := findClass_of_methodNamed B.named
  have hlocks := B.notSynchronized
  have hH : gH D G s s.heap [] σ μ := ⟨hP, va_S.rf⟩
  have hl := lv_entry ([.ref (G.1 b), .ref (G.1 p1)]) (n := 5) (Nat.le_of_ble_eq_true rfl)
  rw [lg_entry_eq]
  generalize (lg_sl ([.ref (G.1 b), .ref (G.1 p1)]) ++ List.replicate (5 - (lg_sl ([.ref (G.1 b), .ref (G.1 p1)])).length) Slot.unset).toArray = ls at hl ⊢
  have hl : lv_has ls 5 [(0, .ref (G.1 b)), (1, .ref (G.1 p1))] := hl
  unfold DX1_longest at h
  refine lv_aload_n hx hb0 dX1_longest_0 rfl (lv_at hl 0 rfl) ?_
  refine g_getR hx hb0 hts q_ws_X1 hown hX hH (C := RX1) (T := TX1) (N := 1) (k := b) (i := 0) (j := (b + 1)) hb.k rfl (by decide) (hts _ q_fl_X1_14) rfl rfl dX1_longest_1 ?_
  refine lv_iconst (v := gI (0 : Int)) hx hb0 dX1_longest_4 (by decide) ?_
  refine lv_aload_n hx hb0 dX1_longest_5 rfl (lv_at hl 1 rfl) ?_
  obtain ⟨q6, e6, h⟩ := gBind_some h
  refine g_callVi (k := p1) (T := TX5) (N := 8) (As := []) (rest := [.int (gI (0 : Int)), .ref (G.1 (b + 1))]) ⟨hx, hb0, hml, hown, hts⟩ (metX5_taskCount l D G p1 hp1 σ μ q6 e6) (g_cwV (C := RX5) 0 hts q_ml_X1_20 q_im_X5_taskCount q_se_X5_taskCount q_in_X5 q_co_X5_taskCount ⟨rfl, rfl⟩ (by decide +kernel) ⟨Nat.le_of_ble_eq_true rfl, Nat.le_of_ble_eq_true rfl⟩) hX hH hp1.k rfl rfl hl.1 rfl (Nat.le_of_ble_eq_true rfl) dX1_longest_6 ⟨Nat.zero_le _, Nat.zero_le _⟩ (fun H locs hH => ?_)
  refine lv_iconst (v := gI (1 : Int)) hx hb0 dX1_longest_9 (by decide) ?_
  obtain ⟨q10, e10, h⟩ := gBind_some h
  refine g_callVv (k := (b + 1)) (T := TX4) (N := 1) (As := [.int (gI (0 : Int)), .int (gI q6), .int (gI (1 : Int))]) (rest := []) ⟨hx, hb0, hml, hown, hts⟩ (metX4_fill l D G (b + 1) 24 (hb.n0) σ μ (0 : Int) q6 (1 : Int) q10 e10) (g_cwV (C := RX4) 3 hts q_ml_X1_26 q_im_X4_fill q_se_X4_fill q_in_X4 q_co_X4_fill ⟨rfl, rfl⟩ (by decide +kernel) ⟨Nat.le_of_ble_eq_true rfl, Nat.le_of_ble_eq_true rfl⟩) hX hH ((hb.n0)).1 rfl rfl hl.1 rfl (Nat.le_of_ble_eq_true rfl) dX1_longest_10 ⟨Nat.zero_le _, Nat.zero_le _⟩ (fun H locs hH => ?_)
  refine lv_iconst (v := gI (1 : Int)) hx hb0 dX1_longest_13 (by decide) ?_
  refine lv_istore_n (lv' := [(2, .int (gI (1 : Int))), (0, .ref (G.1 b)), (1, .ref (G.1 p1))]) hx hb0 dX1_longest_14 rfl hl (by decide) rfl (fun ls hl => ?_)
  refine lv_iconst (v := gI (0 : Int)) hx hb0 dX1_longest_15 (by decide) ?_
  refine lv_istore_n (lv' := [(3, .int (gI (0 : Int))), (2, .int (gI (1 : Int))), (0, .ref (G.1 b)), (1, .ref (G.1 p1))]) hx hb0 dX1_longest_16 rfl hl (by decide) rfl (fun ls hl => ?_)
  have hK39 : ∀ (σ39 : gSt) (H : Heap) (locs : List Loc) (ls : Array Slot), gH D G s H locs σ39 μ → lv_has ls 5 [(0, .ref (G.1 b)), (1, .ref (G.1 p1))] → (DX1_longest_K39 b p1 σ39) = some (r, σ') → W p l e (headSpec (gWs yX1_longest cX1_longest 5 (some (Jvm.ClassFile.FieldType.int))) ({ frames := 4, cells := 0, slots := 0, locals := 87 } : Room)).room s m ([.ref (G.1 b), .ref (G.1 p1)] : List Value).toArray below meth c H locs 0 0 (MQ below (gQi D G r σ' μ) ([.ref (G.1 b), .ref (G.1 p1)] : List Value).toArray s 0 0 (gA G)) (F0 m 39 ls []) := by
    intro σ39 H locs ls hH hl h
    unfold DX1_longest_K39 at h
    refine lv_iconst (v := gI (0 : Int)) hx hb0 dX1_longest_39 (by decide) ?_
    refine lv_istore_n (lv' := [(3, .int (gI (0 : Int))), (0, .ref (G.1 b)), (1, .ref (G.1 p1))]) hx hb0 dX1_longest_40 rfl hl (by decide) rfl (fun ls hl => ?_)
    refine lv_iconst (v := gI (0 : Int)) hx hb0 dX1_longest_41 (by decide) ?_
    refine lv_istore (lv' := [(4, .int (gI (0 : Int))), (3, .int (gI (0 : Int))), (0, .ref (G.1 b)), (1, .ref (G.1 p1))]) hx hb0 dX1_longest_42 hl (by decide) rfl (fun ls hl => ?_)
    have hL44 : ∀ (f44 : Nat) (x4_44 : Int) (x3_44 : Int) (H : Heap) (locs : List Loc) (ls : Array Slot), gH D G s H locs σ39 μ → lv_has ls 5 [(4, .int (gI x4_44)), (3, .int (gI x3_44)), (0, .ref (G.1 b)), (1, .ref (G.1 p1))] → (DX1_longest_L44 b p1 σ39 f44 x4_44 x3_44) = some (r, σ') → W p l e (headSpec (gWs yX1_longest cX1_longest 5 (some (Jvm.ClassFile.FieldType.int))) ({ frames := 4, cells := 0, slots := 0, locals := 87 } : Room)).room s m ([.ref (G.1 b), .ref (G.1 p1)] : List Value).toArray below meth c H locs 0 0 (MQ below (gQi D G r σ' μ) ([.ref (G.1 b), .ref (G.1 p1)] : List Value).toArray s 0 0 (gA G)) (F0 m 44 ls []) := by
      intro f44
      induction f44 with
      | zero => intro x4_44 x3_44 H locs ls hH hl h; cases h
      | succ f44 ih44 =>
        intro x4_44 x3_44 H locs ls hH hl h
        unfold DX1_longest_L44 at h
        refine lv_iload hx hb0 dX1_longest_44 (lv_at hl 0 rfl) ?_
        refine lv_aload_n hx hb0 dX1_longest_46 rfl (lv_at hl 3 rfl) ?_
        obtain ⟨q47, e47, h⟩ := gBind_some h
        refine g_callVi (k := p1) (T := TX5) (N := 8) (As := []) (rest := [.int (gI x4_44)]) ⟨hx, hb0, hml, hown, hts⟩ (metX5_taskCount l D G p1 hp1 σ39 μ q47 e47) (g_cwV (C := RX5) 0 hts q_ml_X1_20 q_im_X5_taskCount q_se_X5_taskCount q_in_X5 q_co_X5_taskCount ⟨rfl, rfl⟩ (by decide +kernel) ⟨Nat.le_of_ble_eq_true rfl, Nat.le_of_ble_eq_true rfl⟩) hX hH hp1.k rfl rfl hl.1 rfl (Nat.le_of_ble_eq_true rfl) dX1_longest_47 ⟨Nat.zero_le _, Nat.zero_le _⟩ (fun H locs hH => ?_)
        refine g_icmp_ge (tgt := 73) hx hb0 dX1_longest_50 (by decide) h (fun h => ?_) (fun h => ?_)
        · refine lv_iload_n hx hb0 dX1_longest_73 rfl (lv_at hl 1 rfl) ?_
          exact g_iretS hx hb0 hr hH hlocks dX1_longest_74 h
        · refine lv_iload_n hx hb0 dX1_longest_53 rfl (lv_at hl 1 rfl) ?_
          refine lv_aload_n hx hb0 dX1_longest_54 rfl (lv_at hl 2 rfl) ?_
          refine g_getR hx hb0 hts q_ws_X1 hown hX hH (C := RX1) (T := TX1) (N := 1) (k := b) (i := 0) (j := (b + 1)) hb.k rfl (by decide) (hts _ q_fl_X1_14) rfl rfl dX1_longest_55 ?_
          refine lv_iload hx hb0 dX1_longest_58 (lv_at hl 0 rfl) ?_
          obtain ⟨q60, e60, h⟩ := gBind_some h
          refine g_callVi (k := (b + 1)) (T := TX4) (N := 1) (As := [.int (gI x4_44)]) (rest := [.int (gI x3_44)]) ⟨hx, hb0, hml, hown, hts⟩ (metX4_at l D G (b + 1) 24 (hb.n0) σ39 μ x4_44 q60 e60) (g_cwV (C := RX4) 1 hts q_ml_X1_34 q_im_X4_at q_se_X4_at q_in_X4 q_co_X4_at ⟨rfl, rfl⟩ (by decide +kernel) ⟨Nat.le_of_ble_eq_true rfl, Nat.le_of_ble_eq_true rfl⟩) hX hH ((hb.n0)).1 rfl rfl hl.1 rfl (Nat.le_of_ble_eq_true rfl) dX1_longest_60 ⟨Nat.zero_le _, Nat.zero_le _⟩ (fun H locs hH => ?_)
          refine g_mmax hx hb0 (hml.trans hl.1.symm) hts hown q_ml_X1_38 ⟨⟨Nat.le_of_ble_eq_true rfl, Nat.le_of_ble_eq_true rfl⟩, Nat.le_of_ble_eq_true rfl, Nat.le_of_ble_eq_true rfl⟩ dX1_longest_63 h (fun h => ?_)
          refine lv_istore_n (lv' := [(3, .int (gI (max x3_44 q60))), (4, .int (gI x4_44)), (0, .ref (G.1 b)), (1, .ref (G.1 p1))]) hx hb0 dX1_longest_66 rfl hl (by decide) rfl (fun ls hl => ?_)
          refine g_iinc (k := 1) (n := (1 : Int)) (lv' := [(4, .int (gI (x4_44 + (1 : Int)))), (3, .int (gI (max x3_44 q60))), (0, .ref (G.1 b)), (1, .ref (G.1 p1))]) hx hb0 dX1_longest_67 hl rfl (by decide) rfl (fun ls hl => ?_)
          refine lv_goto (tgt := 44) hx hb0 dX1_longest_70 (by decide) ?_
          exact ih44 _ _ _ _ _ hH (lv_sub hl [0, 1, 2, 3] rfl) h
    exact hL44 gFuel _ _ _ _ _ hH (lv_sub hl [0, 1, 2, 3] rfl) h
  have hL17 : ∀ (f17 : Nat) (x3_17 : Int) (x2_17 : Int) (σ17 : gSt) (H : Heap) (locs : List Loc) (ls : Array Slot), gH D G s H locs σ17 μ → lv_has ls 5 [(3, .int (gI x3_17)), (2, .int (gI x2_17)), (0, .ref (G.1 b)), (1, .ref (G.1 p1))] → (DX1_longest_L17 (DX1_longest_K39 b p1) b p1 f17 x3_17 x2_17 σ17) = some (r, σ') → W p l e (headSpec (gWs yX1_longest cX1_longest 5 (some (Jvm.ClassFile.FieldType.int))) ({ frames := 4, cells := 0, slots := 0, locals := 87 } : Room)).room s m ([.ref (G.1 b), .ref (G.1 p1)] : List Value).toArray below meth c H locs 0 0 (MQ below (gQi D G r σ' μ) ([.ref (G.1 b), .ref (G.1 p1)] : List Value).toArray s 0 0 (gA G)) (F0 m 17 ls []) := by
    intro f17
    induction f17 with
    | zero => intro x3_17 x2_17 σ17 H locs ls hH hl h; cases h
    | succ f17 ih17 =>
      intro x3_17 x2_17 σ17 H locs ls hH hl h
      unfold DX1_longest_L17 at h
      refine lv_iload_n hx hb0 dX1_longest_17 rfl (lv_at hl 1 rfl) ?_
      refine g_if_eq (tgt := 39) hx hb0 dX1_longest_18 (by decide) h (fun h => ?_) (fun h => ?_)
      · exact hK39 _ _ _ _ hH (lv_sub hl [2, 3] rfl) h
      · refine lv_iload_n hx hb0 dX1_longest_21 rfl (lv_at hl 0 rfl) ?_
        refine lv_bipush (v := gI (24 : Int)) hx hb0 dX1_longest_22 (by decide) ?_
        refine g_icmp_ge (tgt := 39) hx hb0 dX1_longest_24 (by decide) h (fun h => ?_) (fun h => ?_)
        · exact hK39 _ _ _ _ hH (lv_sub hl [2, 3] rfl) h
        · refine lv_aload_n hx hb0 dX1_longest_27 rfl (lv_at hl 2 rfl) ?_
          refine lv_aload_n hx hb0 dX1_longest_28 rfl (lv_at hl 3 rfl) ?_
          obtain ⟨q29, e29, h⟩ := gBind_some h
          refine g_callVi (k := b) (T := TX1) (N := 1) (As := [.ref (G.1 p1)]) (rest := []) ⟨hx, hb0, hml, hown, hts⟩ (metX1_growOnce l D G b p1 hb hp1 σ17 μ q29.1 q29.2 e29) (g_cwV (C := RX1) 1 hts q_ml_X1_30 q_im_X1_growOnce q_se_X1_growOnce q_in_X1 q_co_X1_growOnce ⟨rfl, rfl⟩ (by decide +kernel) ⟨Nat.le_of_ble_eq_true rfl, Nat.le_of_ble_eq_true rfl⟩) hX hH hb.k rfl rfl hl.1 rfl (Nat.le_of_ble_eq_true rfl) dX1_longest_29 ⟨Nat.zero_le _, Nat.zero_le _⟩ (fun H locs hH => ?_)
          refine lv_istore_n (lv' := [(2, .int (gI q29.1)), (3, .int (gI x3_17)), (0, .ref (G.1 b)), (1, .ref (G.1 p1))]) hx hb0 dX1_longest_32 rfl hl (by decide) rfl (fun ls hl => ?_)
          refine g_iinc (k := 1) (n := (1 : Int)) (lv' := [(3, .int (gI (x3_17 + (1 : Int)))), (2, .int (gI q29.1)), (0, .ref (G.1 b)), (1, .ref (G.1 p1))]) hx hb0 dX1_longest_33 hl rfl (by decide) rfl (fun ls hl => ?_)
          refine lv_goto (tgt := 17) hx hb0 dX1_longest_36 (by decide) ?_
          exact ih17 _ _ _ _ _ _ hH (lv_sub hl [0, 1, 2, 3] rfl) h
  exact hL17 gFuel _ _ _ _ _ _ hH (lv_sub hl [0, 1, 2, 3] rfl) h
def DX8_longestChain (σ : gSt) : Option (Int × gSt) :=
  (DX1_longest 84 1 σ).bind fun q8 => some (q8.1, q8.2)
set_option maxHeartbeats 4000000 in
set_option maxRecDepth 100000 in
theorem metX8_longestChain (l : Launch) (D : va_G) (G : gAd) (σ : gSt) (μ : gLg) (r : Int) (σ' : gSt) (h : DX8_longestChain σ = some (r, σ')) : Met l yX8_longestChain (gWs yX8_longestChain cX8_longestChain 1 (some (Jvm.ClassFile.FieldType.int))) ({ frames := 5, cells := 0, slots := 0, locals := 111 } : Room) (gPc D G [.ref (G.1 0)] σ μ) (gQi D G r σ' μ) 0 0 (gA G) := by
  refine Met.ofW (cc := cX8_longestChain) (maxL := 1) (ret := (some (Jvm.ClassFile.FieldType.int))) (by decide) rfl ?_
  intro p e s m args below meth c s₁ B hml hv
  obtain ⟨rfl, hP, hX⟩ := hv
  have hx := B.exec
  have hb0 := B.bytes
  have hr := B.returns
  have hts0 := atoms_spec (ws := (gWs yX8_longestChain cX8_longestChain 1 (some (Jvm.ClassFile.FieldType.int)))) B.pre
  have hts : ∀ w ∈ gLW, w.before _ s = true := fun w hw => hts0 w (List.mem_cons_of_mem _ hw)
  have hown : s.vm.findClass RX8 = some m.cls := findClass_of_methodNamed B.named
  have hlocks := B.notSynchronized
  have hH : gH D G s s.heap [] σ μ := ⟨hP, va_S.rf⟩
  have hl := lv_entry ([.ref (G.1 0)]) (n := 1) (Nat.le_of_ble_eq_true rfl)
  rw [lg_entry_eq]
  generalize (lg_sl ([.ref (G.1 0)]) ++ List.replicate (1 - (lg_sl ([.ref (G.1 0)])).length) Slot.unset).toArray = ls at hl ⊢
  have hl : lv_has ls 1 [(0, .ref (G.1 0))] := hl
  unfold DX8_longestChain at h
  refine lv_aload_n hx hb0 dX8_longestChain_0 rfl (lv_at hl 0 rfl) ?_
  refine g_getR hx hb0 hts q_ws_X8 hown hX hH (C := RX8) (T := TX8) (N := 10) (k := 0) (i := 4) (j := 84) (rfl : gKinds[0]? = _) rfl (by decide) (hts _ q_fl_X8_36) rfl rfl dX8_longestChain_1 ?_
  refine lv_aload_n hx hb0 dX8_longestChain_4 rfl (lv_at hl 0 rfl) ?_
  refine g_getR hx hb0 hts q_ws_X8 hown hX hH (C := RX8) (T := TX8) (N := 10) (k := 0) (i := 0) (j := 1) (rfl : gKinds[0]? = _) rfl (by decide) (hts _ q_fl_X8_12) rfl rfl dX8_longestChain_5 ?_
  obtain ⟨q8, e8, h⟩ := gBind_some h
  refine g_callVi (k := 84) (T := TX1) (N := 1) (As := [.ref (G.1 1)]) (rest := []) ⟨hx, hb0, hml, hown, hts⟩ (metX1_longest l D G 84 1 gChains_84 gPlan_1 σ μ q8.1 q8.2 e8) (g_cwV (C := RX1) 1 hts q_ml_X8_248 q_im_X1_longest q_se_X1_longest q_in_X1 q_co_X1_longest ⟨rfl, rfl⟩ (by decide +kernel) ⟨Nat.le_of_ble_eq_true rfl, Nat.le_of_ble_eq_true rfl⟩) hX hH gChains_84.k rfl rfl hl.1 rfl (Nat.le_of_ble_eq_true rfl) dX8_longestChain_8 ⟨Nat.zero_le _, Nat.zero_le _⟩ (fun H locs hH => ?_)
  exact g_iretS hx hb0 hr hH hlocks dX8_longestChain_11 h
def DX7_length (b : Nat) (σ : gSt) : Option (Int) :=
  some (σ b 1)
set_option maxHeartbeats 4000000 in
set_option maxRecDepth 100000 in
theorem metX7_length (l : Launch) (D : va_G) (G : gAd) (b : Nat) (hb : gText b) (σ : gSt) (μ : gLg) (r : Int) (h : DX7_length b σ = some r) : Met l yX7_length (gWs yX7_length cX7_length 1 (some (Jvm.ClassFile.FieldType.int))) ({ frames := 0, cells := 0, slots := 0, locals := 0 } : Room) (gPc D G [.ref (G.1 b)] σ μ) (gQi D G r σ μ) 0 0 (gA G) := by
  refine Met.ofW (cc := cX7_length) (maxL := 1) (ret := (some (Jvm.ClassFile.FieldType.int))) (by decide) rfl ?_
  intro p e s m args below meth c s₁ B hml hv
  obtain ⟨rfl, hP, hX⟩ := hv
  have hx := B.exec
  have hb0 := B.bytes
  have hr := B.returns
  have hts0 := atoms_spec (ws := (gWs yX7_length cX7_length 1 (some (Jvm.ClassFile.FieldType.int)))) B.pre
  have hts : ∀ w ∈ gLW, w.before _ s = true := fun w hw => hts0 w (List.mem_cons_of_mem _ hw)
  have hown : s.vm.findClass RX7 = some m.cls := findClass_of_methodNamed B.named
  have hlocks := B.notSynchronized
  have hH : gH D G s s.heap [] σ μ := ⟨hP, va_S.rf⟩
  have hl := lv_entry ([.ref (G.1 b)]) (n := 1) (Nat.le_of_ble_eq_true rfl)
  rw [lg_entry_eq]
  generalize (lg_sl ([.ref (G.1 b)]) ++ List.replicate (1 - (lg_sl ([.ref (G.1 b)])).length) Slot.unset).toArray = ls at hl ⊢
  have hl : lv_has ls 1 [(0, .ref (G.1 b))] := hl
  unfold DX7_length at h
  refine lv_aload_n hx hb0 dX7_length_0 rfl (lv_at hl 0 rfl) ?_
  refine g_getI hx hb0 hts q_ws_X7 hown hX hH (C := RX7) (T := TX7) (N := 5) (k := b) (i := 1) hb.k rfl (by decide) (hts _ q_fl_X7_20) rfl rfl dX7_length_1 ?_
  exact g_iretP hx hb0 hr hH hlocks dX7_length_4 h
def DX7_add (b : Nat) (σ : gSt) (a1 : Int) : Option (gSt) :=
  gIf ((σ b 1) < (150 : Int)) (σ b 1) (150 : Int) ((DX4_put (b + 1) 150 σ (σ b 1) a1).bind fun q19 => some (gUp q19 b 1 ((q19 b 1) + (1 : Int)))) (some σ)
set_option maxHeartbeats 4000000 in
set_option maxRecDepth 100000 in
theorem metX7_add (l : Launch) (D : va_G) (G : gAd) (b : Nat) (hb : gText b) (σ : gSt) (μ : gLg) (a1 : Int) (σ' : gSt) (h : DX7_add b σ a1 = some σ') : Met l yX7_add (gWs yX7_add cX7_add 2 none) ({ frames := 1, cells := 0, slots := 0, locals := 22 } : Room) (gPc D G [.ref (G.1 b), .int (gI a1)] σ μ) (gQv D G σ' μ) 0 0 (gA G) := by
  refine Met.ofW (cc := cX7_add) (maxL := 2) (ret := none) (by decide) rfl ?_
  intro p e s m args below meth c s₁ B hml hv
  obtain ⟨rfl, hP, hX⟩ := hv
  have hx := B.exec
  have hb0 := B.bytes
  have hr := B.returns
  have hts0 := atoms_spec (ws := (gWs yX7_add cX7_add 2 none)) B.pre
  have hts : ∀ w ∈ gLW, w.before _ s = true := fun w hw => hts0 w (List.mem_cons_of_mem _ hw)
  have hown : s.vm.findClass RX7 = some m.cls := findClass_of_methodNamed B.named
  have hlocks := B.notSynchronized
  have hH : gH D G s s.heap [] σ μ := ⟨hP, va_S.rf⟩
  have hl := lv_entry ([.ref (G.1 b), .int (gI a1)]) (n := 2) (Nat.le_of_ble_eq_true rfl)
  rw [lg_entry_eq]
  generalize (lg_sl ([.ref (G.1 b), .int (gI a1)]) ++ List.replicate (2 - (lg_sl ([.ref (G.1 b), .int (gI a1)])).length) Slot.unset).toArray = ls at hl ⊢
  have hl : lv_has ls 2 [(0, .ref (G.1 b)), (1, .int (gI a1))] := hl
  unfold DX7_add at h
  refine lv_aload_n hx hb0 dX7_add_0 rfl (lv_at hl 0 rfl) ?_
  refine g_getI hx hb0 hts q_ws_X7 hown hX hH (C := RX7) (T := TX7) (N := 5) (k := b) (i := 1) hb.k rfl (by decide) (hts _ q_fl_X7_20) rfl rfl dX7_add_1 ?_
  refine lv_sipush (v := gI (150 : Int)) hx hb0 dX7_add_4 (by decide) ?_
  refine g_icmp_ge (tgt := 32) hx hb0 dX7_add_7 (by decide) h (fun h => ?_) (fun h => ?_)
  · exact g_vretS hx hb0 hr hH hlocks dX7_add_32 h
  · refine lv_aload_n hx hb0 dX7_add_10 rfl (lv_at hl 0 rfl) ?_
    refine g_getR hx hb0 hts q_ws_X7 hown hX hH (C := RX7) (T := TX7) (N := 5) (k := b) (i := 0) (j := (b + 1)) hb.k rfl (by decide) (hts _ q_fl_X7_14) rfl rfl dX7_add_11 ?_
    refine lv_aload_n hx hb0 dX7_add_14 rfl (lv_at hl 0 rfl) ?_
    refine g_getI hx hb0 hts q_ws_X7 hown hX hH (C := RX7) (T := TX7) (N := 5) (k := b) (i := 1) hb.k rfl (by decide) (hts _ q_fl_X7_20) rfl rfl dX7_add_15 ?_
    refine lv_iload_n hx hb0 dX7_add_18 rfl (lv_at hl 1 rfl) ?_
    obtain ⟨q19, e19, h⟩ := gBind_some h
    refine g_callVv (k := (b + 1)) (T := TX4) (N := 1) (As := [.int (gI (σ b 1)), .int (gI a1)]) (rest := []) ⟨hx, hb0, hml, hown, hts⟩ (metX4_put l D G (b + 1) 150 (hb.n0) σ μ (σ b 1) a1 q19 e19) (g_cwV (C := RX4) 2 hts q_ml_X7_24 q_im_X4_put q_se_X4_put q_in_X4 q_co_X4_put ⟨rfl, rfl⟩ (by decide +kernel) ⟨Nat.le_of_ble_eq_true rfl, Nat.le_of_ble_eq_true rfl⟩) hX hH ((hb.n0)).1 rfl rfl hl.1 rfl (Nat.le_of_ble_eq_true rfl) dX7_add_19 ⟨Nat.zero_le _, Nat.zero_le _⟩ (fun H locs hH => ?_)
    refine lv_aload_n hx hb0 dX7_add_22 rfl (lv_at hl 0 rfl) ?_
    refine lv_dup hx hb0 dX7_add_23 rfl ?_
    refine g_getI hx hb0 hts q_ws_X7 hown hX hH (C := RX7) (T := TX7) (N := 5) (k := b) (i := 1) hb.k rfl (by decide) (hts _ q_fl_X7_20) rfl rfl dX7_add_24 ?_
    refine lv_iconst (v := gI (1 : Int)) hx hb0 dX7_add_27 (by decide) ?_
    refine g_iadd hx hb0 dX7_add_28 ?_
    refine g_putI hx hb0 hts q_ws_X7 tyX7 tyX7_ok nmX7 hown hX hH (C := RX7) (T := TX7) (N := 5) (k := b) (i := 1) hb.k rfl (by decide) (hts _ q_fl_X7_20) rfl rfl rfl rfl dX7_add_29 (fun H locs hH => ?_)
    exact g_vretS hx hb0 hr hH hlocks dX7_add_32 h
def DX8_append_J10  : Option (Nat ⊕ (Int × gSt)) :=
  some (.inl 1)
def DX8_append (σ : gSt) (a1 : Int) : Option (Nat ⊕ (Int × gSt)) :=
  gIf (a1 < (0 : Int)) a1 (0 : Int) ((DX8_append_J10)) (gIf ((127 : Int) < a1) a1 (127 : Int) ((DX8_append_J10)) ((DX7_length 81 σ).bind fun q24 => gIf (q24 < (150 : Int)) q24 (150 : Int) ((DX7_add 81 σ a1).bind fun q49 => (DX7_length 81 q49).bind fun q56 => some (.inr (q56, q49))) (some (.inl 2))))
set_option maxHeartbeats 4000000 in
set_option maxRecDepth 100000 in
theorem metX8_append (l : Launch) (hlt : l.stackTraces = false) (D : va_G) (G : gAd) (σ : gSt) (μ : gLg) (a1 : Int) (r : Nat ⊕ (Int × gSt)) (h : DX8_append σ a1 = some r) : vx_Met l yX8_append (gWs yX8_append cX8_append 2 (some (Jvm.ClassFile.FieldType.int))) ({ frames := 6, cells := 1, slots := 6, locals := 82 } : Room) (gPc D G [.ref (G.1 0), .int (gI a1)] σ μ) (gXs D G r μ) (gXC D G r σ μ) 1 6 (gA G) := by
  refine vx_ofW (cc := cX8_append) (maxL := 2) (ret := (some (Jvm.ClassFile.FieldType.int))) (by decide) rfl ?_
  intro p e s m args below meth c s₁ B hml hxt hv
  obtain ⟨rfl, hP, hX⟩ := hv
  have hx := B.exec
  have hb0 := B.bytes
  have hr := B.returns
  have hts0 := atoms_spec (ws := (gWs yX8_append cX8_append 2 (some (Jvm.ClassFile.FieldType.int)))) B.pre
  have hts : ∀ w ∈ gLW, w.before _ s = true := fun w hw => hts0 w (List.mem_cons_of_mem _ hw)
  have hown : s.vm.findClass RX8 = some m.cls := findClass_of_methodNamed B.named
  have hlocks := B.notSynchronized
  have hH : gH D G s s.heap [] σ μ := ⟨hP, va_S.rf⟩
  have hl := lv_entry ([.ref (G.1 0), .int (gI a1)]) (n := 2) (Nat.le_of_ble_eq_true rfl)
  rw [lg_entry_eq]
  generalize (lg_sl ([.ref (G.1 0), .int (gI a1)]) ++ List.replicate (2 - (lg_sl ([.ref (G.1 0), .int (gI a1)])).length) Slot.unset).toArray = ls at hl ⊢
  have hl : lv_has ls 2 [(0, .ref (G.1 0)), (1, .int (gI a1))] := hl
  unfold DX8_append at h
  refine lv_iload_n hx hb0 dX8_append_0 rfl (lv_at hl 1 rfl) ?_
  have hJ10 : ∀  (H : Heap) (locs : List Loc) (ls : Array Slot), gH D G s H locs σ μ → lv_has ls 2 [] → (DX8_append_J10) = some r → W p l e (headSpec (gWs yX8_append cX8_append 2 (some (Jvm.ClassFile.FieldType.int))) ({ frames := 6, cells := 1, slots := 6, locals := 82 } : Room)).room s m ([.ref (G.1 0), .int (gI a1)] : List Value).toArray below meth c H locs 0 0 (vx_MQ below (gXs D G r μ) (gXC D G r σ μ) ([.ref (G.1 0), .int (gI a1)] : List Value).toArray s 1 6 (gA G)) (F0 m 10 ls []) := by
    intro H locs ls hH hl h
    unfold DX8_append_J10 at h
    exact g_throwS (text := "a byte is 0 to 127") (k := 1) hx hb0 hlt hown hts hX hH rfl q_cl_X8_71 q_in_java_lang_IllegalArgumentException g_bad1 g_ok1 g_ot1 (by decide +kernel) (by decide +kernel) (hl.1.trans hml.symm) dX8_append_10 dX8_append_13 dX8_append_14 dX8_append_16 dX8_append_19 hxt ⟨⟨Nat.le_of_ble_eq_true rfl, Nat.le_of_ble_eq_true rfl⟩, Nat.le_of_ble_eq_true rfl, Nat.le_of_ble_eq_true rfl⟩ hlocks ⟨Nat.le_of_ble_eq_true rfl, Nat.le_of_ble_eq_true rfl⟩ h
  refine g_if_lt (tgt := 10) hx hb0 dX8_append_1 (by decide) h (fun h => ?_) (fun h => ?_)
  · exact hJ10  _ _ _ hH (lv_sub hl [] rfl) h
  · refine lv_iload_n hx hb0 dX8_append_4 rfl (lv_at hl 1 rfl) ?_
    refine lv_bipush (v := gI (127 : Int)) hx hb0 dX8_append_5 (by decide) ?_
    refine g_icmp_le (tgt := 20) hx hb0 dX8_append_7 (by decide) h (fun h => ?_) (fun h => ?_)
    · refine lv_aload_n hx hb0 dX8_append_20 rfl (lv_at hl 0 rfl) ?_
      refine g_getR hx hb0 hts q_ws_X8 hown hX hH (C := RX8) (T := TX8) (N := 10) (k := 0) (i := 3) (j := 81) (rfl : gKinds[0]? = _) rfl (by decide) (hts _ q_fl_X8_29) rfl rfl dX8_append_21 ?_
      obtain ⟨q24, e24, h⟩ := gBind_some h
      refine g_callVi (k := 81) (T := TX7) (N := 5) (As := []) (rest := []) ⟨hx, hb0, hml, hown, hts⟩ (metX7_length l D G 81 gText_81 σ μ q24 e24) (g_cwV (C := RX7) 0 hts q_ml_X8_254 q_im_X7_length q_se_X7_length q_in_X7 q_co_X7_length ⟨rfl, rfl⟩ (by decide +kernel) ⟨Nat.le_of_ble_eq_true rfl, Nat.le_of_ble_eq_true rfl⟩) hX hH gText_81.k rfl rfl hl.1 rfl (Nat.le_of_ble_eq_true rfl) dX8_append_24 ⟨Nat.le_of_ble_eq_true rfl, Nat.le_of_ble_eq_true rfl⟩ (fun H locs hH => ?_)
      refine lv_sipush (v := gI (150 : Int)) hx hb0 dX8_append_27 (by decide) ?_
      refine g_icmp_lt (tgt := 44) hx hb0 dX8_append_30 (by decide) h (fun h => ?_) (fun h => ?_)
      · refine lv_aload_n hx hb0 dX8_append_44 rfl (lv_at hl 0 rfl) ?_
        refine g_getR hx hb0 hts q_ws_X8 hown hX hH (C := RX8) (T := TX8) (N := 10) (k := 0) (i := 3) (j := 81) (rfl : gKinds[0]? = _) rfl (by decide) (hts _ q_fl_X8_29) rfl rfl dX8_append_45 ?_
        refine lv_iload_n hx hb0 dX8_append_48 rfl (lv_at hl 1 rfl) ?_
        obtain ⟨q49, e49, h⟩ := gBind_some h
        refine g_callVv (k := 81) (T := TX7) (N := 5) (As := [.int (gI a1)]) (rest := []) ⟨hx, hb0, hml, hown, hts⟩ (metX7_add l D G 81 gText_81 σ μ a1 q49 e49) (g_cwV (C := RX7) 1 hts q_ml_X8_259 q_im_X7_add q_se_X7_add q_in_X7 q_co_X7_add ⟨rfl, rfl⟩ (by decide +kernel) ⟨Nat.le_of_ble_eq_true rfl, Nat.le_of_ble_eq_true rfl⟩) hX hH gText_81.k rfl rfl hl.1 rfl (Nat.le_of_ble_eq_true rfl) dX8_append_49 ⟨Nat.le_of_ble_eq_true rfl, Nat.le_of_ble_eq_true rfl⟩ (fun H locs hH => ?_)
        refine lv_aload_n hx hb0 dX8_append_52 rfl (lv_at hl 0 rfl) ?_
        refine g_getR hx hb0 hts q_ws_X8 hown hX hH (C := RX8) (T := TX8) (N := 10) (k := 0) (i := 3) (j := 81) (rfl : gKinds[0]? = _) rfl (by decide) (hts _ q_fl_X8_29) rfl rfl dX8_append_53 ?_
        obtain ⟨q56, e56, h⟩ := gBind_some h
        refine g_callVi (k := 81) (T := TX7) (N := 5) (As := []) (rest := []) ⟨hx, hb0, hml, hown, hts⟩ (metX7_length l D G 81 gText_81 q49 μ q56 e56) (g_cwV (C := RX7) 0 hts q_ml_X8_254 q_im_X7_length q_se_X7_length q_in_X7 q_co_X7_length ⟨rfl, rfl⟩ (by decide +kernel) ⟨Nat.le_of_ble_eq_true rfl, Nat.le_of_ble_eq_true rfl⟩) hX hH gText_81.k rfl rfl hl.1 rfl (Nat.le_of_ble_eq_true rfl) dX8_append_56 ⟨Nat.le_of_ble_eq_true rfl, Nat.le_of_ble_eq_true rfl⟩ (fun H locs hH => ?_)
        exact g_xsret hx hb0 hr hH hlocks (Nat.le_of_ble_eq_true rfl) (Nat.le_of_ble_eq_true rfl) dX8_append_59 h
      · exact g_throwSW (text := "the text has 150 bytes") (k := 2) hx hb0 hlt hown hts hX hH rfl q_cl_X8_107 q_in_java_lang_IllegalStateException g_bad2 g_ok2 g_ot2 (by decide +kernel) (by decide +kernel) (hl.1.trans hml.symm) dX8_append_33 dX8_append_36 dX8_append_37 dX8_append_40 dX8_append_43 hxt ⟨⟨Nat.le_of_ble_eq_true rfl, Nat.le_of_ble_eq_true rfl⟩, Nat.le_of_ble_eq_true rfl, Nat.le_of_ble_eq_true rfl⟩ hlocks ⟨Nat.le_of_ble_eq_true rfl, Nat.le_of_ble_eq_true rfl⟩ h
    · exact hJ10  _ _ _ hH (lv_sub hl [] rfl) h
def DX7_empty (b : Nat) (σ : gSt) : Option (gSt) :=
  some (gUp σ b 1 (0 : Int))
set_option maxHeartbeats 4000000 in
set_option maxRecDepth 100000 in
theorem metX7_empty (l : Launch) (D : va_G) (G : gAd) (b : Nat) (hb : gText b) (σ : gSt) (μ : gLg) (σ' : gSt) (h : DX7_empty b σ = some σ') : Met l yX7_empty (gWs yX7_empty cX7_empty 1 none) ({ frames := 0, cells := 0, slots := 0, locals := 0 } : Room) (gPc D G [.ref (G.1 b)] σ μ) (gQv D G σ' μ) 0 0 (gA G) := by
  refine Met.ofW (cc := cX7_empty) (maxL := 1) (ret := none) (by decide) rfl ?_
  intro p e s m args below meth c s₁ B hml hv
  obtain ⟨rfl, hP, hX⟩ := hv
  have hx := B.exec
  have hb0 := B.bytes
  have hr := B.returns
  have hts0 := atoms_spec (ws := (gWs yX7_empty cX7_empty 1 none)) B.pre
  have hts : ∀ w ∈ gLW, w.before _ s = true := fun w hw => hts0 w (List.mem_cons_of_mem _ hw)
  have hown : s.vm.findClass RX7 = some m.cls := findClass_of_methodNamed B.named
  have hlocks := B.notSynchronized
  have hH : gH D G s s.heap [] σ μ := ⟨hP, va_S.rf⟩
  have hl := lv_entry ([.ref (G.1 b)]) (n := 1) (Nat.le_of_ble_eq_true rfl)
  rw [lg_entry_eq]
  generalize (lg_sl ([.ref (G.1 b)]) ++ List.replicate (1 - (lg_sl ([.ref (G.1 b)])).length) Slot.unset).toArray = ls at hl ⊢
  have hl : lv_has ls 1 [(0, .ref (G.1 b))] := hl
  unfold DX7_empty at h
  refine lv_aload_n hx hb0 dX7_empty_0 rfl (lv_at hl 0 rfl) ?_
  refine lv_iconst (v := gI (0 : Int)) hx hb0 dX7_empty_1 (by decide) ?_
  refine g_putI hx hb0 hts q_ws_X7 tyX7 tyX7_ok nmX7 hown hX hH (C := RX7) (T := TX7) (N := 5) (k := b) (i := 1) hb.k rfl (by decide) (hts _ q_fl_X7_20) rfl rfl rfl rfl dX7_empty_2 (fun H locs hH => ?_)
  exact g_vretS hx hb0 hr hH hlocks dX7_empty_5 h
def DX8_clearText (σ : gSt) : Option (Int × gSt) :=
  (DX7_length 81 σ).bind fun q4 => (DX7_empty 81 σ).bind fun q12 => some (q4, q12)
set_option maxHeartbeats 4000000 in
set_option maxRecDepth 100000 in
theorem metX8_clearText (l : Launch) (D : va_G) (G : gAd) (σ : gSt) (μ : gLg) (r : Int) (σ' : gSt) (h : DX8_clearText σ = some (r, σ')) : Met l yX8_clearText (gWs yX8_clearText cX8_clearText 2 (some (Jvm.ClassFile.FieldType.int))) ({ frames := 1, cells := 0, slots := 0, locals := 20 } : Room) (gPc D G [.ref (G.1 0)] σ μ) (gQi D G r σ' μ) 0 0 (gA G) := by
  refine Met.ofW (cc := cX8_clearText) (maxL := 2) (ret := (some (Jvm.ClassFile.FieldType.int))) (by decide) rfl ?_
  intro p e s m args below meth c s₁ B hml hv
  obtain ⟨rfl, hP, hX⟩ := hv
  have hx := B.exec
  have hb0 := B.bytes
  have hr := B.returns
  have hts0 := atoms_spec (ws := (gWs yX8_clearText cX8_clearText 2 (some (Jvm.ClassFile.FieldType.int)))) B.pre
  have hts : ∀ w ∈ gLW, w.before _ s = true := fun w hw => hts0 w (List.mem_cons_of_mem _ hw)
  have hown : s.vm.findClass RX8 = some m.cls := findClass_of_methodNamed B.named
  have hlocks := B.notSynchronized
  have hH : gH D G s s.heap [] σ μ := ⟨hP, va_S.rf⟩
  have hl := lv_entry ([.ref (G.1 0)]) (n := 2) (Nat.le_of_ble_eq_true rfl)
  rw [lg_entry_eq]
  generalize (lg_sl ([.ref (G.1 0)]) ++ List.replicate (2 - (lg_sl ([.ref (G.1 0)])).length) Slot.unset).toArray = ls at hl ⊢
  have hl : lv_has ls 2 [(0, .ref (G.1 0))] := hl
  unfold DX8_clearText at h
  refine lv_aload_n hx hb0 dX8_clearText_0 rfl (lv_at hl 0 rfl) ?_
  refine g_getR hx hb0 hts q_ws_X8 hown hX hH (C := RX8) (T := TX8) (N := 10) (k := 0) (i := 3) (j := 81) (rfl : gKinds[0]? = _) rfl (by decide) (hts _ q_fl_X8_29) rfl rfl dX8_clearText_1 ?_
  obtain ⟨q4, e4, h⟩ := gBind_some h
  refine g_callVi (k := 81) (T := TX7) (N := 5) (As := []) (rest := []) ⟨hx, hb0, hml, hown, hts⟩ (metX7_length l D G 81 gText_81 σ μ q4 e4) (g_cwV (C := RX7) 0 hts q_ml_X8_254 q_im_X7_length q_se_X7_length q_in_X7 q_co_X7_length ⟨rfl, rfl⟩ (by decide +kernel) ⟨Nat.le_of_ble_eq_true rfl, Nat.le_of_ble_eq_true rfl⟩) hX hH gText_81.k rfl rfl hl.1 rfl (Nat.le_of_ble_eq_true rfl) dX8_clearText_4 ⟨Nat.zero_le _, Nat.zero_le _⟩ (fun H locs hH => ?_)
  refine lv_istore_n (lv' := [(1, .int (gI q4)), (0, .ref (G.1 0))]) hx hb0 dX8_clearText_7 rfl hl (by decide) rfl (fun ls hl => ?_)
  refine lv_aload_n hx hb0 dX8_clearText_8 rfl (lv_at hl 1 rfl) ?_
  refine g_getR hx hb0 hts q_ws_X8 hown hX hH (C := RX8) (T := TX8) (N := 10) (k := 0) (i := 3) (j := 81) (rfl : gKinds[0]? = _) rfl (by decide) (hts _ q_fl_X8_29) rfl rfl dX8_clearText_9 ?_
  obtain ⟨q12, e12, h⟩ := gBind_some h
  refine g_callVv (k := 81) (T := TX7) (N := 5) (As := []) (rest := []) ⟨hx, hb0, hml, hown, hts⟩ (metX7_empty l D G 81 gText_81 σ μ q12 e12) (g_cwV (C := RX7) 0 hts q_ml_X8_262 q_im_X7_empty q_se_X7_empty q_in_X7 q_co_X7_empty ⟨rfl, rfl⟩ (by decide +kernel) ⟨Nat.le_of_ble_eq_true rfl, Nat.le_of_ble_eq_true rfl⟩) hX hH gText_81.k rfl rfl hl.1 rfl (Nat.le_of_ble_eq_true rfl) dX8_clearText_12 ⟨Nat.zero_le _, Nat.zero_le _⟩ (fun H locs hH => ?_)
  refine lv_iload_n hx hb0 dX8_clearText_15 rfl (lv_at hl 0 rfl) ?_
  exact g_iretS hx hb0 hr hH hlocks dX8_clearText_16 h
def DX5_forgetTasksAndArrows (b : Nat) (σ : gSt) : Option (gSt) :=
  some (gUp (gUp σ b 6 (0 : Int)) b 7 (0 : Int))
set_option maxHeartbeats 4000000 in
set_option maxRecDepth 100000 in
theorem metX5_forgetTasksAndArrows (l : Launch) (D : va_G) (G : gAd) (b : Nat) (hb : gPlan b) (σ : gSt) (μ : gLg) (σ' : gSt) (h : DX5_forgetTasksAndArrows b σ = some σ') : Met l yX5_forgetTasksAndArrows (gWs yX5_forgetTasksAndArrows cX5_forgetTasksAndArrows 1 none) ({ frames := 0, cells := 0, slots := 0, locals := 0 } : Room) (gPc D G [.ref (G.1 b)] σ μ) (gQv D G σ' μ) 0 0 (gA G) := by
  refine Met.ofW (cc := cX5_forgetTasksAndArrows) (maxL := 1) (ret := none) (by decide) rfl ?_
  intro p e s m args below meth c s₁ B hml hv
  obtain ⟨rfl, hP, hX⟩ := hv
  have hx := B.exec
  have hb0 := B.bytes
  have hr := B.returns
  have hts0 := atoms_spec (ws := (gWs yX5_forgetTasksAndArrows cX5_forgetTasksAndArrows 1 none)) B.pre
  have hts : ∀ w ∈ gLW, w.before _ s = true := fun w hw => hts0 w (List.mem_cons_of_mem _ hw)
  have hown : s.vm.findClass RX5 = some m.cls := findClass_of_methodNamed B.named
  have hlocks := B.notSynchronized
  have hH : gH D G s s.heap [] σ μ := ⟨hP, va_S.rf⟩
  have hl := lv_entry ([.ref (G.1 b)]) (n := 1) (Nat.le_of_ble_eq_true rfl)
  rw [lg_entry_eq]
  generalize (lg_sl ([.ref (G.1 b)]) ++ List.replicate (1 - (lg_sl ([.ref (G.1 b)])).length) Slot.unset).toArray = ls at hl ⊢
  have hl : lv_has ls 1 [(0, .ref (G.1 b))] := hl
  unfold DX5_forgetTasksAndArrows at h
  refine lv_aload_n hx hb0 dX5_forgetTasksAndArrows_0 rfl (lv_at hl 0 rfl) ?_
  refine lv_iconst (v := gI (0 : Int)) hx hb0 dX5_forgetTasksAndArrows_1 (by decide) ?_
  refine g_putI hx hb0 hts q_ws_X5 tyX5 tyX5_ok nmX5 hown hX hH (C := RX5) (T := TX5) (N := 8) (k := b) (i := 6) hb.k rfl (by decide) (hts _ q_fl_X5_47) rfl rfl rfl rfl dX5_forgetTasksAndArrows_2 (fun H locs hH => ?_)
  refine lv_aload_n hx hb0 dX5_forgetTasksAndArrows_5 rfl (lv_at hl 0 rfl) ?_
  refine lv_iconst (v := gI (0 : Int)) hx hb0 dX5_forgetTasksAndArrows_6 (by decide) ?_
  refine g_putI hx hb0 hts q_ws_X5 tyX5 tyX5_ok nmX5 hown hX hH (C := RX5) (T := TX5) (N := 8) (k := b) (i := 7) hb.k rfl (by decide) (hts _ q_fl_X5_51) rfl rfl rfl rfl dX5_forgetTasksAndArrows_7 (fun H locs hH => ?_)
  exact g_vretS hx hb0 hr hH hlocks dX5_forgetTasksAndArrows_10 h
def DX7_next (b : Nat) (σ : gSt) : Option (Int) :=
  gIf ((σ b 2) < (σ b 1)) (σ b 2) (σ b 1) ((DX4_at (b + 1) 150 σ (σ b 2)).bind fun q19 => some q19) (some (-1 : Int))
set_option maxHeartbeats 4000000 in
set_option maxRecDepth 100000 in
theorem metX7_next (l : Launch) (D : va_G) (G : gAd) (b : Nat) (hb : gText b) (σ : gSt) (μ : gLg) (r : Int) (h : DX7_next b σ = some r) : Met l yX7_next (gWs yX7_next cX7_next 1 (some (Jvm.ClassFile.FieldType.int))) ({ frames := 1, cells := 0, slots := 0, locals := 21 } : Room) (gPc D G [.ref (G.1 b)] σ μ) (gQi D G r σ μ) 0 0 (gA G) := by
  refine Met.ofW (cc := cX7_next) (maxL := 1) (ret := (some (Jvm.ClassFile.FieldType.int))) (by decide) rfl ?_
  intro p e s m args below meth c s₁ B hml hv
  obtain ⟨rfl, hP, hX⟩ := hv
  have hx := B.exec
  have hb0 := B.bytes
  have hr := B.returns
  have hts0 := atoms_spec (ws := (gWs yX7_next cX7_next 1 (some (Jvm.ClassFile.FieldType.int)))) B.pre
  have hts : ∀ w ∈ gLW, w.before _ s = true := fun w hw => hts0 w (List.mem_cons_of_mem _ hw)
  have hown : s.vm.findClass RX7 = some m.cls := findClass_of_methodNamed B.named
  have hlocks := B.notSynchronized
  have hH : gH D G s s.heap [] σ μ := ⟨hP, va_S.rf⟩
  have hl := lv_entry ([.ref (G.1 b)]) (n := 1) (Nat.le_of_ble_eq_true rfl)
  rw [lg_entry_eq]
  generalize (lg_sl ([.ref (G.1 b)]) ++ List.replicate (1 - (lg_sl ([.ref (G.1 b)])).length) Slot.unset).toArray = ls at hl ⊢
  have hl : lv_has ls 1 [(0, .ref (G.1 b))] := hl
  unfold DX7_next at h
  refine lv_aload_n hx hb0 dX7_next_0 rfl (lv_at hl 0 rfl) ?_
  refine g_getI hx hb0 hts q_ws_X7 hown hX hH (C := RX7) (T := TX7) (N := 5) (k := b) (i := 2) hb.k rfl (by decide) (hts _ q_fl_X7_33) rfl rfl dX7_next_1 ?_
  refine lv_aload_n hx hb0 dX7_next_4 rfl (lv_at hl 0 rfl) ?_
  refine g_getI hx hb0 hts q_ws_X7 hown hX hH (C := RX7) (T := TX7) (N := 5) (k := b) (i := 1) hb.k rfl (by decide) (hts _ q_fl_X7_20) rfl rfl dX7_next_5 ?_
  refine g_icmp_ge (tgt := 25) hx hb0 dX7_next_8 (by decide) h (fun h => ?_) (fun h => ?_)
  · refine lv_iconst (v := gI (-1 : Int)) hx hb0 dX7_next_25 (by decide) ?_
    exact g_iretP hx hb0 hr hH hlocks dX7_next_26 h
  · refine lv_aload_n hx hb0 dX7_next_11 rfl (lv_at hl 0 rfl) ?_
    refine g_getR hx hb0 hts q_ws_X7 hown hX hH (C := RX7) (T := TX7) (N := 5) (k := b) (i := 0) (j := (b + 1)) hb.k rfl (by decide) (hts _ q_fl_X7_14) rfl rfl dX7_next_12 ?_
    refine lv_aload_n hx hb0 dX7_next_15 rfl (lv_at hl 0 rfl) ?_
    refine g_getI hx hb0 hts q_ws_X7 hown hX hH (C := RX7) (T := TX7) (N := 5) (k := b) (i := 2) hb.k rfl (by decide) (hts _ q_fl_X7_33) rfl rfl dX7_next_16 ?_
    obtain ⟨q19, e19, h⟩ := gBind_some h
    refine g_callVi (k := (b + 1)) (T := TX4) (N := 1) (As := [.int (gI (σ b 2))]) (rest := []) ⟨hx, hb0, hml, hown, hts⟩ (metX4_at l D G (b + 1) 150 (hb.n0) σ μ (σ b 2) q19 e19) (g_cwV (C := RX4) 1 hts q_ml_X7_83 q_im_X4_at q_se_X4_at q_in_X4 q_co_X4_at ⟨rfl, rfl⟩ (by decide +kernel) ⟨Nat.le_of_ble_eq_true rfl, Nat.le_of_ble_eq_true rfl⟩) hX hH ((hb.n0)).1 rfl rfl hl.1 rfl (Nat.le_of_ble_eq_true rfl) dX7_next_19 ⟨Nat.zero_le _, Nat.zero_le _⟩ (fun H locs hH => ?_)
    refine lv_goto (tgt := 26) hx hb0 dX7_next_22 (by decide) ?_
    exact g_iretP hx hb0 hr hH hlocks dX7_next_26 h
def DX7_fail (b : Nat) (σ : gSt) (a1 : Int) : Option (Int × gSt) :=
  gBo (0 : Int) (some ((0 : Int), (gUp σ b 3 a1)))
set_option maxHeartbeats 4000000 in
set_option maxRecDepth 100000 in
theorem metX7_fail (l : Launch) (D : va_G) (G : gAd) (b : Nat) (hb : gText b) (σ : gSt) (μ : gLg) (a1 : Int) (r : Int) (σ' : gSt) (h : DX7_fail b σ a1 = some (r, σ')) : Met l yX7_fail (gWs yX7_fail cX7_fail 2 (some (Jvm.ClassFile.FieldType.boolean))) ({ frames := 0, cells := 0, slots := 0, locals := 0 } : Room) (gPc D G [.ref (G.1 b), .int (gI a1)] σ μ) (gQi D G r σ' μ) 0 0 (gA G) := by
  refine Met.ofW (cc := cX7_fail) (maxL := 2) (ret := (some (Jvm.ClassFile.FieldType.boolean))) (by decide) rfl ?_
  intro p e s m args below meth c s₁ B hml hv
  obtain ⟨rfl, hP, hX⟩ := hv
  have hx := B.exec
  have hb0 := B.bytes
  have hr := B.returns
  have hts0 := atoms_spec (ws := (gWs yX7_fail cX7_fail 2 (some (Jvm.ClassFile.FieldType.boolean)))) B.pre
  have hts : ∀ w ∈ gLW, w.before _ s = true := fun w hw => hts0 w (List.mem_cons_of_mem _ hw)
  have hown : s.vm.findClass RX7 = some m.cls := findClass_of_methodNamed B.named
  have hlocks := B.notSynchronized
  have hH : gH D G s s.heap [] σ μ := ⟨hP, va_S.rf⟩
  have hl := lv_entry ([.ref (G.1 b), .int (gI a1)]) (n := 2) (Nat.le_of_ble_eq_true rfl)
  rw [lg_entry_eq]
  generalize (lg_sl ([.ref (G.1 b), .int (gI a1)]) ++ List.replicate (2 - (lg_sl ([.ref (G.1 b), .int (gI a1)])).length) Slot.unset).toArray = ls at hl ⊢
  have hl : lv_has ls 2 [(0, .ref (G.1 b)), (1, .int (gI a1))] := hl
  unfold DX7_fail at h
  refine lv_aload_n hx hb0 dX7_fail_0 rfl (lv_at hl 0 rfl) ?_
  refine lv_iload_n hx hb0 dX7_fail_1 rfl (lv_at hl 1 rfl) ?_
  refine g_putI hx hb0 hts q_ws_X7 tyX7 tyX7_ok nmX7 hown hX hH (C := RX7) (T := TX7) (N := 5) (k := b) (i := 3) hb.k rfl (by decide) (hts _ q_fl_X7_36) rfl rfl rfl rfl dX7_fail_2 (fun H locs hH => ?_)
  refine lv_iconst (v := gI (0 : Int)) hx hb0 dX7_fail_5 (by decide) ?_
  exact g_zretS hx hb0 hr hH hlocks dX7_fail_6 h
def DX7_readSign (b : Nat) (σ : gSt) (a1 : Int) : Option (Int × gSt) :=
  (DX7_next b σ).bind fun q1 => gIf (q1 = a1) q1 a1 (gBo (1 : Int) (some ((1 : Int), (gUp σ b 2 ((σ b 2) + (1 : Int)))))) ((DX7_fail b σ (σ b 2)).bind fun q13 => gBo q13.1 (some (q13.1, q13.2)))
set_option maxHeartbeats 4000000 in
set_option maxRecDepth 100000 in
theorem metX7_readSign (l : Launch) (D : va_G) (G : gAd) (b : Nat) (hb : gText b) (σ : gSt) (μ : gLg) (a1 : Int) (r : Int) (σ' : gSt) (h : DX7_readSign b σ a1 = some (r, σ')) : Met l yX7_readSign (gWs yX7_readSign cX7_readSign 2 (some (Jvm.ClassFile.FieldType.boolean))) ({ frames := 2, cells := 0, slots := 0, locals := 41 } : Room) (gPc D G [.ref (G.1 b), .int (gI a1)] σ μ) (gQi D G r σ' μ) 0 0 (gA G) := by
  refine Met.ofW (cc := cX7_readSign) (maxL := 2) (ret := (some (Jvm.ClassFile.FieldType.boolean))) (by decide) rfl ?_
  intro p e s m args below meth c s₁ B hml hv
  obtain ⟨rfl, hP, hX⟩ := hv
  have hx := B.exec
  have hb0 := B.bytes
  have hr := B.returns
  have hts0 := atoms_spec (ws := (gWs yX7_readSign cX7_readSign 2 (some (Jvm.ClassFile.FieldType.boolean)))) B.pre
  have hts : ∀ w ∈ gLW, w.before _ s = true := fun w hw => hts0 w (List.mem_cons_of_mem _ hw)
  have hown : s.vm.findClass RX7 = some m.cls := findClass_of_methodNamed B.named
  have hlocks := B.notSynchronized
  have hH : gH D G s s.heap [] σ μ := ⟨hP, va_S.rf⟩
  have hl := lv_entry ([.ref (G.1 b), .int (gI a1)]) (n := 2) (Nat.le_of_ble_eq_true rfl)
  rw [lg_entry_eq]
  generalize (lg_sl ([.ref (G.1 b), .int (gI a1)]) ++ List.replicate (2 - (lg_sl ([.ref (G.1 b), .int (gI a1)])).length) Slot.unset).toArray = ls at hl ⊢
  have hl : lv_has ls 2 [(0, .ref (G.1 b)), (1, .int (gI a1))] := hl
  unfold DX7_readSign at h
  refine lv_aload_n hx hb0 dX7_readSign_0 rfl (lv_at hl 0 rfl) ?_
  obtain ⟨q1, e1, h⟩ := gBind_some h
  refine g_callVi (k := b) (T := TX7) (N := 5) (As := []) (rest := []) ⟨hx, hb0, hml, hown, hts⟩ (metX7_next l D G b hb σ μ q1 e1) (g_cwV (C := RX7) 0 hts q_ml_X7_39 q_im_X7_next q_se_X7_next q_in_X7 q_co_X7_next ⟨rfl, rfl⟩ (by decide +kernel) ⟨Nat.le_of_ble_eq_true rfl, Nat.le_of_ble_eq_true rfl⟩) hX hH hb.k rfl rfl hl.1 rfl (Nat.le_of_ble_eq_true rfl) dX7_readSign_1 ⟨Nat.zero_le _, Nat.zero_le _⟩ (fun H locs hH => ?_)
  refine lv_iload_n hx hb0 dX7_readSign_4 rfl (lv_at hl 1 rfl) ?_
  refine g_icmp_eq (tgt := 17) hx hb0 dX7_readSign_5 (by decide) h (fun h => ?_) (fun h => ?_)
  · refine lv_aload_n hx hb0 dX7_readSign_17 rfl (lv_at hl 0 rfl) ?_
    refine lv_dup hx hb0 dX7_readSign_18 rfl ?_
    refine g_getI hx hb0 hts q_ws_X7 hown hX hH (C := RX7) (T := TX7) (N := 5) (k := b) (i := 2) hb.k rfl (by decide) (hts _ q_fl_X7_33) rfl rfl dX7_readSign_19 ?_
    refine lv_iconst (v := gI (1 : Int)) hx hb0 dX7_readSign_22 (by decide) ?_
    refine g_iadd hx hb0 dX7_readSign_23 ?_
    refine g_putI hx hb0 hts q_ws_X7 tyX7 tyX7_ok nmX7 hown hX hH (C := RX7) (T := TX7) (N := 5) (k := b) (i := 2) hb.k rfl (by decide) (hts _ q_fl_X7_33) rfl rfl rfl rfl dX7_readSign_24 (fun H locs hH => ?_)
    refine lv_iconst (v := gI (1 : Int)) hx hb0 dX7_readSign_27 (by decide) ?_
    exact g_zretS hx hb0 hr hH hlocks dX7_readSign_28 h
  · refine lv_aload_n hx hb0 dX7_readSign_8 rfl (lv_at hl 0 rfl) ?_
    refine lv_aload_n hx hb0 dX7_readSign_9 rfl (lv_at hl 0 rfl) ?_
    refine g_getI hx hb0 hts q_ws_X7 hown hX hH (C := RX7) (T := TX7) (N := 5) (k := b) (i := 2) hb.k rfl (by decide) (hts _ q_fl_X7_33) rfl rfl dX7_readSign_10 ?_
    obtain ⟨q13, e13, h⟩ := gBind_some h
    refine g_callVi (k := b) (T := TX7) (N := 5) (As := [.int (gI (σ b 2))]) (rest := []) ⟨hx, hb0, hml, hown, hts⟩ (metX7_fail l D G b hb σ μ (σ b 2) q13.1 q13.2 e13) (g_cwV (C := RX7) 1 hts q_ml_X7_50 q_im_X7_fail q_se_X7_fail q_in_X7 q_co_X7_fail ⟨rfl, rfl⟩ (by decide +kernel) ⟨Nat.le_of_ble_eq_true rfl, Nat.le_of_ble_eq_true rfl⟩) hX hH hb.k rfl rfl hl.1 rfl (Nat.le_of_ble_eq_true rfl) dX7_readSign_13 ⟨Nat.zero_le _, Nat.zero_le _⟩ (fun H locs hH => ?_)
    exact g_zretS hx hb0 hr hH hlocks dX7_readSign_16 h
def DX7_nextIsDigit (b : Nat) (σ : gSt) : Option (Int) :=
  (DX7_next b σ).bind fun q1 => gIf (q1 < (48 : Int)) q1 (48 : Int) (gBo (0 : Int) (some (0 : Int))) ((DX7_next b σ).bind fun q10 => gIf ((57 : Int) < q10) q10 (57 : Int) (gBo (0 : Int) (some (0 : Int))) (gBo (1 : Int) (some (1 : Int))))
set_option maxHeartbeats 4000000 in
set_option maxRecDepth 100000 in
theorem metX7_nextIsDigit (l : Launch) (D : va_G) (G : gAd) (b : Nat) (hb : gText b) (σ : gSt) (μ : gLg) (r : Int) (h : DX7_nextIsDigit b σ = some r) : Met l yX7_nextIsDigit (gWs yX7_nextIsDigit cX7_nextIsDigit 1 (some (Jvm.ClassFile.FieldType.boolean))) ({ frames := 2, cells := 0, slots := 0, locals := 41 } : Room) (gPc D G [.ref (G.1 b)] σ μ) (gQi D G r σ μ) 0 0 (gA G) := by
  refine Met.ofW (cc := cX7_nextIsDigit) (maxL := 1) (ret := (some (Jvm.ClassFile.FieldType.boolean))) (by decide) rfl ?_
  intro p e s m args below meth c s₁ B hml hv
  obtain ⟨rfl, hP, hX⟩ := hv
  have hx := B.exec
  have hb0 := B.bytes
  have hr := B.returns
  have hts0 := atoms_spec (ws := (gWs yX7_nextIsDigit cX7_nextIsDigit 1 (some (Jvm.ClassFile.FieldType.boolean)))) B.pre
  have hts : ∀ w ∈ gLW, w.before _ s = true := fun w hw => hts0 w (List.mem_cons_of_mem _ hw)
  have hown : s.vm.findClass RX7 = some m.cls := findClass_of_methodNamed B.named
  have hlocks := B.notSynchronized
  have hH : gH D G s s.heap [] σ μ := ⟨hP, va_S.rf⟩
  have hl := lv_entry ([.ref (G.1 b)]) (n := 1) (Nat.le_of_ble_eq_true rfl)
  rw [lg_entry_eq]
  generalize (lg_sl ([.ref (G.1 b)]) ++ List.replicate (1 - (lg_sl ([.ref (G.1 b)])).length) Slot.unset).toArray = ls at hl ⊢
  have hl : lv_has ls 1 [(0, .ref (G.1 b))] := hl
  unfold DX7_nextIsDigit at h
  refine lv_aload_n hx hb0 dX7_nextIsDigit_0 rfl (lv_at hl 0 rfl) ?_
  obtain ⟨q1, e1, h⟩ := gBind_some h
  refine g_callVi (k := b) (T := TX7) (N := 5) (As := []) (rest := []) ⟨hx, hb0, hml, hown, hts⟩ (metX7_next l D G b hb σ μ q1 e1) (g_cwV (C := RX7) 0 hts q_ml_X7_39 q_im_X7_next q_se_X7_next q_in_X7 q_co_X7_next ⟨rfl, rfl⟩ (by decide +kernel) ⟨Nat.le_of_ble_eq_true rfl, Nat.le_of_ble_eq_true rfl⟩) hX hH hb.k rfl rfl hl.1 rfl (Nat.le_of_ble_eq_true rfl) dX7_nextIsDigit_1 ⟨Nat.zero_le _, Nat.zero_le _⟩ (fun H locs hH => ?_)
  refine lv_bipush (v := gI (48 : Int)) hx hb0 dX7_nextIsDigit_4 (by decide) ?_
  refine g_icmp_lt (tgt := 22) hx hb0 dX7_nextIsDigit_6 (by decide) h (fun h => ?_) (fun h => ?_)
  · refine lv_iconst (v := gI (0 : Int)) hx hb0 dX7_nextIsDigit_22 (by decide) ?_
    exact g_zretP hx hb0 hr hH hlocks dX7_nextIsDigit_23 h
  · refine lv_aload_n hx hb0 dX7_nextIsDigit_9 rfl (lv_at hl 0 rfl) ?_
    obtain ⟨q10, e10, h⟩ := gBind_some h
    refine g_callVi (k := b) (T := TX7) (N := 5) (As := []) (rest := []) ⟨hx, hb0, hml, hown, hts⟩ (metX7_next l D G b hb σ μ q10 e10) (g_cwV (C := RX7) 0 hts q_ml_X7_39 q_im_X7_next q_se_X7_next q_in_X7 q_co_X7_next ⟨rfl, rfl⟩ (by decide +kernel) ⟨Nat.le_of_ble_eq_true rfl, Nat.le_of_ble_eq_true rfl⟩) hX hH hb.k rfl rfl hl.1 rfl (Nat.le_of_ble_eq_true rfl) dX7_nextIsDigit_10 ⟨Nat.zero_le _, Nat.zero_le _⟩ (fun H locs hH => ?_)
    refine lv_bipush (v := gI (57 : Int)) hx hb0 dX7_nextIsDigit_13 (by decide) ?_
    refine g_icmp_gt (tgt := 22) hx hb0 dX7_nextIsDigit_15 (by decide) h (fun h => ?_) (fun h => ?_)
    · refine lv_iconst (v := gI (0 : Int)) hx hb0 dX7_nextIsDigit_22 (by decide) ?_
      exact g_zretP hx hb0 hr hH hlocks dX7_nextIsDigit_23 h
    · refine lv_iconst (v := gI (1 : Int)) hx hb0 dX7_nextIsDigit_18 (by decide) ?_
      refine lv_goto (tgt := 23) hx hb0 dX7_nextIsDigit_19 (by decide) ?_
      exact g_zretP hx hb0 hr hH hlocks dX7_nextIsDigit_23 h
