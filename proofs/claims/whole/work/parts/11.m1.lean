def DX5_arrowCount (b : Nat) (σ : gSt) : Option (Int) :=
  some (σ b 7)
set_option maxHeartbeats 4000000 in
set_option maxRecDepth 100000 in
theorem metX5_arrowCount (l : Launch) (D : va_G) (G : gAd) (b : Nat) (hb : gPlan b) (σ : gSt) (μ : gLg) (r : Int) (h : DX5_arrowCount b σ = some r) : Met l yX5_arrowCount (gWs yX5_arrowCount cX5_arrowCount 1 (some (Jvm.ClassFile.FieldType.int))) ({ frames := 0, cells := 0, slots := 0, locals := 0 } : Room) (gPc D G [.ref (G.1 b)] σ μ) (gQi D G r σ μ) 0 0 (gA G) := by
  refine Met.ofW (cc := cX5_arrowCount) (maxL := 1) (ret := (some (Jvm.ClassFile.FieldType.int))) (by decide) rfl ?_
  intro p e s m args below meth c s₁ B hml hv
  obtain ⟨rfl, hP, hX⟩ := hv
  have hx := B.exec
  have hb0 := B.bytes
  have hr := B.returns
  have hts0 := atoms_spec (ws := (gWs yX5_arrowCount cX5_arrowCount 1 (some (Jvm.ClassFile.FieldType.int)))) B.pre
  have hts : ∀ w ∈ gLW, w.before _ s = true := fun w hw => hts0 w (List.mem_cons_of_mem _ hw)
  have hown : s.vm.findClass RX5 = some m.cls := findClass_of_methodNamed B.named
  have hlocks := B.notSynchronized
  have hH : gH D G s s.heap [] σ μ := ⟨hP, va_S.rf⟩
  have hl := lv_entry ([.ref (G.1 b)]) (n := 1) (Nat.le_of_ble_eq_true rfl)
  rw [lg_entry_eq]
  generalize (lg_sl ([.ref (G.1 b)]) ++ List.replicate (1 - (lg_sl ([.ref (G.1 b)])).length) Slot.unset).toArray = ls at hl ⊢
  have hl : lv_has ls 1 [(0, .ref (G.1 b))] := hl
  unfold DX5_arrowCount at h
  refine lv_aload_n hx hb0 dX5_arrowCount_0 rfl (lv_at hl 0 rfl) ?_
  refine g_getI hx hb0 hts q_ws_X5 hown hX hH (C := RX5) (T := TX5) (N := 8) (k := b) (i := 7) hb.k rfl (by decide) (hts _ q_fl_X5_51) rfl rfl dX5_arrowCount_1 ?_
  exact g_iretP hx hb0 hr hH hlocks dX5_arrowCount_4 h
def DX5_from (b : Nat) (σ : gSt) (a1 : Int) : Option (Int) :=
  (DX4_at (b + 9) 30 σ a1).bind fun q5 => some q5
set_option maxHeartbeats 4000000 in
set_option maxRecDepth 100000 in
theorem metX5_from (l : Launch) (D : va_G) (G : gAd) (b : Nat) (hb : gPlan b) (σ : gSt) (μ : gLg) (a1 : Int) (r : Int) (h : DX5_from b σ a1 = some r) : Met l yX5_from (gWs yX5_from cX5_from 2 (some (Jvm.ClassFile.FieldType.int))) ({ frames := 1, cells := 0, slots := 0, locals := 21 } : Room) (gPc D G [.ref (G.1 b), .int (gI a1)] σ μ) (gQi D G r σ μ) 0 0 (gA G) := by
  refine Met.ofW (cc := cX5_from) (maxL := 2) (ret := (some (Jvm.ClassFile.FieldType.int))) (by decide) rfl ?_
  intro p e s m args below meth c s₁ B hml hv
  obtain ⟨rfl, hP, hX⟩ := hv
  have hx := B.exec
  have hb0 := B.bytes
  have hr := B.returns
  have hts0 := atoms_spec (ws := (gWs yX5_from cX5_from 2 (some (Jvm.ClassFile.FieldType.int)))) B.pre
  have hts : ∀ w ∈ gLW, w.before _ s = true := fun w hw => hts0 w (List.mem_cons_of_mem _ hw)
  have hown : s.vm.findClass RX5 = some m.cls := findClass_of_methodNamed B.named
  have hlocks := B.notSynchronized
  have hH : gH D G s s.heap [] σ μ := ⟨hP, va_S.rf⟩
  have hl := lv_entry ([.ref (G.1 b), .int (gI a1)]) (n := 2) (Nat.le_of_ble_eq_true rfl)
  rw [lg_entry_eq]
  generalize (lg_sl ([.ref (G.1 b), .int (gI a1)]) ++ List.replicate (2 - (lg_sl ([.ref (G.1 b), .int (gI a1)])).length) Slot.unset).toArray = ls at hl ⊢
  have hl : lv_has ls 2 [(0, .ref (G.1 b)), (1, .int (gI a1))] := hl
  unfold DX5_from at h
  refine lv_aload_n hx hb0 dX5_from_0 rfl (lv_at hl 0 rfl) ?_
  refine g_getR hx hb0 hts q_ws_X5 hown hX hH (C := RX5) (T := TX5) (N := 8) (k := b) (i := 4) (j := (b + 9)) hb.k rfl (by decide) (hts _ q_fl_X5_29) rfl rfl dX5_from_1 ?_
  refine lv_iload_n hx hb0 dX5_from_4 rfl (lv_at hl 1 rfl) ?_
  obtain ⟨q5, e5, h⟩ := gBind_some h
  refine g_callVi (k := (b + 9)) (T := TX4) (N := 1) (As := [.int (gI a1)]) (rest := []) ⟨hx, hb0, hml, hown, hts⟩ (metX4_at l D G (b + 9) 30 (hb.n4) σ μ a1 q5 e5) (g_cwV (C := RX4) 1 hts q_ml_X5_43 q_im_X4_at q_se_X4_at q_in_X4 q_co_X4_at ⟨rfl, rfl⟩ (by decide +kernel) ⟨Nat.le_of_ble_eq_true rfl, Nat.le_of_ble_eq_true rfl⟩) hX hH ((hb.n4)).1 rfl rfl hl.1 rfl (Nat.le_of_ble_eq_true rfl) dX5_from_5 ⟨Nat.zero_le _, Nat.zero_le _⟩ (fun H locs hH => ?_)
  exact g_iretP hx hb0 hr hH hlocks dX5_from_8 h
def DX5_to (b : Nat) (σ : gSt) (a1 : Int) : Option (Int) :=
  (DX4_at (b + 11) 30 σ a1).bind fun q5 => some q5
set_option maxHeartbeats 4000000 in
set_option maxRecDepth 100000 in
theorem metX5_to (l : Launch) (D : va_G) (G : gAd) (b : Nat) (hb : gPlan b) (σ : gSt) (μ : gLg) (a1 : Int) (r : Int) (h : DX5_to b σ a1 = some r) : Met l yX5_to (gWs yX5_to cX5_to 2 (some (Jvm.ClassFile.FieldType.int))) ({ frames := 1, cells := 0, slots := 0, locals := 21 } : Room) (gPc D G [.ref (G.1 b), .int (gI a1)] σ μ) (gQi D G r σ μ) 0 0 (gA G) := by
  refine Met.ofW (cc := cX5_to) (maxL := 2) (ret := (some (Jvm.ClassFile.FieldType.int))) (by decide) rfl ?_
  intro p e s m args below meth c s₁ B hml hv
  obtain ⟨rfl, hP, hX⟩ := hv
  have hx := B.exec
  have hb0 := B.bytes
  have hr := B.returns
  have hts0 := atoms_spec (ws := (gWs yX5_to cX5_to 2 (some (Jvm.ClassFile.FieldType.int)))) B.pre
  have hts : ∀ w ∈ gLW, w.before _ s = true := fun w hw => hts0 w (List.mem_cons_of_mem _ hw)
  have hown : s.vm.findClass RX5 = some m.cls := findClass_of_methodNamed B.named
  have hlocks := B.notSynchronized
  have hH : gH D G s s.heap [] σ μ := ⟨hP, va_S.rf⟩
  have hl := lv_entry ([.ref (G.1 b), .int (gI a1)]) (n := 2) (Nat.le_of_ble_eq_true rfl)
  rw [lg_entry_eq]
  generalize (lg_sl ([.ref (G.1 b), .int (gI a1)]) ++ List.replicate (2 - (lg_sl ([.ref (G.1 b), .int (gI a1)])).length) Slot.unset).toArray = ls at hl ⊢
  have hl : lv_has ls 2 [(0, .ref (G.1 b)), (1, .int (gI a1))] := hl
  unfold DX5_to at h
  refine lv_aload_n hx hb0 dX5_to_0 rfl (lv_at hl 0 rfl) ?_
  refine g_getR hx hb0 hts q_ws_X5 hown hX hH (C := RX5) (T := TX5) (N := 8) (k := b) (i := 5) (j := (b + 11)) hb.k rfl (by decide) (hts _ q_fl_X5_32) rfl rfl dX5_to_1 ?_
  refine lv_iload_n hx hb0 dX5_to_4 rfl (lv_at hl 1 rfl) ?_
  obtain ⟨q5, e5, h⟩ := gBind_some h
  refine g_callVi (k := (b + 11)) (T := TX4) (N := 1) (As := [.int (gI a1)]) (rest := []) ⟨hx, hb0, hml, hown, hts⟩ (metX4_at l D G (b + 11) 30 (hb.n5) σ μ a1 q5 e5) (g_cwV (C := RX4) 1 hts q_ml_X5_43 q_im_X4_at q_se_X4_at q_in_X4 q_co_X4_at ⟨rfl, rfl⟩ (by decide +kernel) ⟨Nat.le_of_ble_eq_true rfl, Nat.le_of_ble_eq_true rfl⟩) hX hH ((hb.n5)).1 rfl rfl hl.1 rfl (Nat.le_of_ble_eq_true rfl) dX5_to_5 ⟨Nat.zero_le _, Nat.zero_le _⟩ (fun H locs hH => ?_)
  exact g_iretP hx hb0 hr hH hlocks dX5_to_8 h
def DX6_numberAt (b : Nat) (σ : gSt) (a1 : Int) (a2 : Int) : Option (Int) :=
  (DX6_spot σ a1 a2).bind fun q6 => (DX4_at (b + 3) 1248 σ q6).bind fun q9 => some q9
set_option maxHeartbeats 4000000 in
set_option maxRecDepth 100000 in
theorem metX6_numberAt (l : Launch) (D : va_G) (G : gAd) (b : Nat) (hb : gSheets b) (σ : gSt) (μ : gLg) (a1 : Int) (a2 : Int) (r : Int) (h : DX6_numberAt b σ a1 a2 = some r) : Met l yX6_numberAt (gWs yX6_numberAt cX6_numberAt 3 (some (Jvm.ClassFile.FieldType.int))) ({ frames := 1, cells := 0, slots := 0, locals := 22 } : Room) (gPc D G [.ref (G.1 b), .int (gI a1), .int (gI a2)] σ μ) (gQi D G r σ μ) 0 0 (gA G) := by
  refine Met.ofW (cc := cX6_numberAt) (maxL := 3) (ret := (some (Jvm.ClassFile.FieldType.int))) (by decide) rfl ?_
  intro p e s m args below meth c s₁ B hml hv
  obtain ⟨rfl, hP, hX⟩ := hv
  have hx := B.exec
  have hb0 := B.bytes
  have hr := B.returns
  have hts0 := atoms_spec (ws := (gWs yX6_numberAt cX6_numberAt 3 (some (Jvm.ClassFile.FieldType.int)))) B.pre
  have hts : ∀ w ∈ gLW, w.before _ s = true := fun w hw => hts0 w (List.mem_cons_of_mem _ hw)
  have hown : s.vm.findClass RX6 = some m.cls := findClass_of_methodNamed B.named
  have hlocks := B.notSynchronized
  have hH : gH D G s s.heap [] σ μ := ⟨hP, va_S.rf⟩
  have hl := lv_entry ([.ref (G.1 b), .int (gI a1), .int (gI a2)]) (n := 3) (Nat.le_of_ble_eq_true rfl)
  rw [lg_entry_eq]
  generalize (lg_sl ([.ref (G.1 b), .int (gI a1), .int (gI a2)]) ++ List.replicate (3 - (lg_sl ([.ref (G.1 b), .int (gI a1), .int (gI a2)])).length) Slot.unset).toArray = ls at hl ⊢
  have hl : lv_has ls 3 [(0, .ref (G.1 b)), (1, .int (gI a1)), (2, .int (gI a2))] := hl
  unfold DX6_numberAt at h
  refine lv_aload_n hx hb0 dX6_numberAt_0 rfl (lv_at hl 0 rfl) ?_
  refine g_getR hx hb0 hts q_ws_X6 hown hX hH (C := RX6) (T := TX6) (N := 5) (k := b) (i := 1) (j := (b + 3)) hb.k rfl (by decide) (hts _ q_fl_X6_20) rfl rfl dX6_numberAt_1 ?_
  refine lv_iload_n hx hb0 dX6_numberAt_4 rfl (lv_at hl 1 rfl) ?_
  refine lv_iload_n hx hb0 dX6_numberAt_5 rfl (lv_at hl 2 rfl) ?_
  obtain ⟨q6, e6, h⟩ := gBind_some h
  refine g_callSi (As := [.int (gI a1), .int (gI a2)]) (rest := [.ref (G.1 (b + 3))]) ⟨hx, hb0, hml, hown, hts⟩ (metX6_spot l D G σ μ a1 a2 q6 e6) (g_cwS 2 hts q_ml_X6_43 q_st_X6_spot q_in_X6 q_co_X6_spot ⟨rfl, rfl⟩ (by decide +kernel) ⟨Nat.le_of_ble_eq_true rfl, Nat.le_of_ble_eq_true rfl⟩) hX hH rfl hl.1 rfl (Nat.le_of_ble_eq_true rfl) dX6_numberAt_6 ⟨Nat.zero_le _, Nat.zero_le _⟩ (fun H locs hH => ?_)
  obtain ⟨q9, e9, h⟩ := gBind_some h
  refine g_callVi (k := (b + 3)) (T := TX4) (N := 1) (As := [.int (gI q6)]) (rest := []) ⟨hx, hb0, hml, hown, hts⟩ (metX4_at l D G (b + 3) 1248 (hb.n1) σ μ q6 q9 e9) (g_cwV (C := RX4) 1 hts q_ml_X6_33 q_im_X4_at q_se_X4_at q_in_X4 q_co_X4_at ⟨rfl, rfl⟩ (by decide +kernel) ⟨Nat.le_of_ble_eq_true rfl, Nat.le_of_ble_eq_true rfl⟩) hX hH ((hb.n1)).1 rfl rfl hl.1 rfl (Nat.le_of_ble_eq_true rfl) dX6_numberAt_9 ⟨Nat.zero_le _, Nat.zero_le _⟩ (fun H locs hH => ?_)
  exact g_iretP hx hb0 hr hH hlocks dX6_numberAt_12 h
def DX2_drawInside (b : Nat) (σ : gSt) (a1 : Int) (a2 : Int) : Option (gSt) :=
  (DX4_put (b + 5) 30 σ a1 (-1 : Int)).bind fun q6 => (DX4_increase (b + 11) 312 q6 a2).bind fun q14 => some q14
set_option maxHeartbeats 4000000 in
set_option maxRecDepth 100000 in
theorem metX2_drawInside (l : Launch) (D : va_G) (G : gAd) (b : Nat) (hb : gExits b) (σ : gSt) (μ : gLg) (a1 : Int) (a2 : Int) (σ' : gSt) (h : DX2_drawInside b σ a1 a2 = some σ') : Met l yX2_drawInside (gWs yX2_drawInside cX2_drawInside 3 none) ({ frames := 2, cells := 0, slots := 0, locals := 43 } : Room) (gPc D G [.ref (G.1 b), .int (gI a1), .int (gI a2)] σ μ) (gQv D G σ' μ) 0 0 (gA G) := by
  refine Met.ofW (cc := cX2_drawInside) (maxL := 3) (ret := none) (by decide) rfl ?_
  intro p e s m args below meth c s₁ B hml hv
  obtain ⟨rfl, hP, hX⟩ := hv
  have hx := B.exec
  have hb0 := B.bytes
  have hr := B.returns
  have hts0 := atoms_spec (ws := (gWs yX2_drawInside cX2_drawInside 3 none)) B.pre
  have hts : ∀ w ∈ gLW, w.before _ s = true := fun w hw => hts0 w (List.mem_cons_of_mem _ hw)
  have hown : s.vm.findClass RX2 = some m.cls := findClass_of_methodNamed B.named
  have hlocks := B.notSynchronized
  have hH : gH D G s s.heap [] σ μ := ⟨hP, va_S.rf⟩
  have hl := lv_entry ([.ref (G.1 b), .int (gI a1), .int (gI a2)]) (n := 3) (Nat.le_of_ble_eq_true rfl)
  rw [lg_entry_eq]
  generalize (lg_sl ([.ref (G.1 b), .int (gI a1), .int (gI a2)]) ++ List.replicate (3 - (lg_sl ([.ref (G.1 b), .int (gI a1), .int (gI a2)])).length) Slot.unset).toArray = ls at hl ⊢
  have hl : lv_has ls 3 [(0, .ref (G.1 b)), (1, .int (gI a1)), (2, .int (gI a2))] := hl
  unfold DX2_drawInside at h
  refine lv_aload_n hx hb0 dX2_drawInside_0 rfl (lv_at hl 0 rfl) ?_
  refine g_getR hx hb0 hts q_ws_X2 hown hX hH (C := RX2) (T := TX2) (N := 7) (k := b) (i := 2) (j := (b + 5)) hb.k rfl (by decide) (hts _ q_fl_X2_23) rfl rfl dX2_drawInside_1 ?_
  refine lv_iload_n hx hb0 dX2_drawInside_4 rfl (lv_at hl 1 rfl) ?_
  refine lv_iconst (v := gI (-1 : Int)) hx hb0 dX2_drawInside_5 (by decide) ?_
  obtain ⟨q6, e6, h⟩ := gBind_some h
  refine g_callVv (k := (b + 5)) (T := TX4) (N := 1) (As := [.int (gI a1), .int (gI (-1 : Int))]) (rest := []) ⟨hx, hb0, hml, hown, hts⟩ (metX4_put l D G (b + 5) 30 (hb.n2) σ μ a1 (-1 : Int) q6 e6) (g_cwV (C := RX4) 2 hts q_ml_X2_84 q_im_X4_put q_se_X4_put q_in_X4 q_co_X4_put ⟨rfl, rfl⟩ (by decide +kernel) ⟨Nat.le_of_ble_eq_true rfl, Nat.le_of_ble_eq_true rfl⟩) hX hH ((hb.n2)).1 rfl rfl hl.1 rfl (Nat.le_of_ble_eq_true rfl) dX2_drawInside_6 ⟨Nat.zero_le _, Nat.zero_le _⟩ (fun H locs hH => ?_)
  refine lv_aload_n hx hb0 dX2_drawInside_9 rfl (lv_at hl 0 rfl) ?_
  refine g_getR hx hb0 hts q_ws_X2 hown hX hH (C := RX2) (T := TX2) (N := 7) (k := b) (i := 5) (j := (b + 11)) hb.k rfl (by decide) (hts _ q_fl_X2_32) rfl rfl dX2_drawInside_10 ?_
  refine lv_iload_n hx hb0 dX2_drawInside_13 rfl (lv_at hl 2 rfl) ?_
  obtain ⟨q14, e14, h⟩ := gBind_some h
  refine g_callVv (k := (b + 11)) (T := TX4) (N := 1) (As := [.int (gI a2)]) (rest := []) ⟨hx, hb0, hml, hown, hts⟩ (metX4_increase l D G (b + 11) 312 (hb.n5) q6 μ a2 q14 e14) (g_cwV (C := RX4) 1 hts q_ml_X2_94 q_im_X4_increase q_se_X4_increase q_in_X4 q_co_X4_increase ⟨rfl, rfl⟩ (by decide +kernel) ⟨Nat.le_of_ble_eq_true rfl, Nat.le_of_ble_eq_true rfl⟩) hX hH ((hb.n5)).1 rfl rfl hl.1 rfl (Nat.le_of_ble_eq_true rfl) dX2_drawInside_14 ⟨Nat.zero_le _, Nat.zero_le _⟩ (fun H locs hH => ?_)
  exact g_vretS hx hb0 hr hH hlocks dX2_drawInside_17 h
def DX2_drawThroughExit (b : Nat) (σ : gSt) (a1 : Int) (a2 : Int) (a3 : Int) : Option (gSt) :=
  (DX4_put (b + 5) 30 (gUp σ b 6 ((σ b 6) + (1 : Int))) a1 ((gUp σ b 6 ((σ b 6) + (1 : Int))) b 6)).bind fun q19 => (DX4_put (b + 7) 31 q19 (q19 b 6) a1).bind fun q31 => (DX4_increase (b + 9) 312 q31 a2).bind fun q39 => (DX4_increase (b + 9) 312 q39 a3).bind fun q47 => some q47
set_option maxHeartbeats 4000000 in
set_option maxRecDepth 100000 in
theorem metX2_drawThroughExit (l : Launch) (D : va_G) (G : gAd) (b : Nat) (hb : gExits b) (σ : gSt) (μ : gLg) (a1 : Int) (a2 : Int) (a3 : Int) (σ' : gSt) (h : DX2_drawThroughExit b σ a1 a2 a3 = some σ') : Met l yX2_drawThroughExit (gWs yX2_drawThroughExit cX2_drawThroughExit 4 none) ({ frames := 2, cells := 0, slots := 0, locals := 43 } : Room) (gPc D G [.ref (G.1 b), .int (gI a1), .int (gI a2), .int (gI a3)] σ μ) (gQv D G σ' μ) 0 0 (gA G) := by
  refine Met.ofW (cc := cX2_drawThroughExit) (maxL := 4) (ret := none) (by decide) rfl ?_
  intro p e s m args below meth c s₁ B hml hv
  obtain ⟨rfl, hP, hX⟩ := hv
  have hx := B.exec
  have hb0 := B.bytes
  have hr := B.returns
  have hts0 := atoms_spec (ws := (gWs yX2_drawThroughExit cX2_drawThroughExit 4 none)) B.pre
  have hts : ∀ w ∈ gLW, w.before _ s = true := fun w hw => hts0 w (List.mem_cons_of_mem _ hw)
  have hown : s.vm.findClass RX2 = some m.cls := findClass_of_methodNamed B.named
  have hlocks := B.notSynchronized
  have hH : gH D G s s.heap [] σ μ := ⟨hP, va_S.rf⟩
  have hl := lv_entry ([.ref (G.1 b), .int (gI a1), .int (gI a2), .int (gI a3)]) (n := 4) (Nat.le_of_ble_eq_true rfl)
  rw [lg_entry_eq]
  generalize (lg_sl ([.ref (G.1 b), .int (gI a1), .int (gI a2), .int (gI a3)]) ++ List.replicate (4 - (lg_sl ([.ref (G.1 b), .int (gI a1), .int (gI a2), .int (gI a3)])).length) Slot.unset).toArray = ls at hl ⊢
  have hl : lv_has ls 4 [(0, .ref (G.1 b)), (1, .int (gI a1)), (2, .int (gI a2)), (3, .int (gI a3))] := hl
  unfold DX2_drawThroughExit at h
  refine lv_aload_n hx hb0 dX2_drawThroughExit_0 rfl (lv_at hl 0 rfl) ?_
  refine lv_dup hx hb0 dX2_drawThroughExit_1 rfl ?_
  refine g_getI hx hb0 hts q_ws_X2 hown hX hH (C := RX2) (T := TX2) (N := 7) (k := b) (i := 6) hb.k rfl (by decide) (hts _ q_fl_X2_35) rfl rfl dX2_drawThroughExit_2 ?_
  refine lv_iconst (v := gI (1 : Int)) hx hb0 dX2_drawThroughExit_5 (by decide) ?_
  refine g_iadd hx hb0 dX2_drawThroughExit_6 ?_
  refine g_putI hx hb0 hts q_ws_X2 tyX2 tyX2_ok nmX2 hown hX hH (C := RX2) (T := TX2) (N := 7) (k := b) (i := 6) hb.k rfl (by decide) (hts _ q_fl_X2_35) rfl rfl rfl rfl dX2_drawThroughExit_7 (fun H locs hH => ?_)
  refine lv_aload_n hx hb0 dX2_drawThroughExit_10 rfl (lv_at hl 0 rfl) ?_
  refine g_getR hx hb0 hts q_ws_X2 hown hX hH (C := RX2) (T := TX2) (N := 7) (k := b) (i := 2) (j := (b + 5)) hb.k rfl (by decide) (hts _ q_fl_X2_23) rfl rfl dX2_drawThroughExit_11 ?_
  refine lv_iload_n hx hb0 dX2_drawThroughExit_14 rfl (lv_at hl 1 rfl) ?_
  refine lv_aload_n hx hb0 dX2_drawThroughExit_15 rfl (lv_at hl 0 rfl) ?_
  refine g_getI hx hb0 hts q_ws_X2 hown hX hH (C := RX2) (T := TX2) (N := 7) (k := b) (i := 6) hb.k rfl (by decide) (hts _ q_fl_X2_35) rfl rfl dX2_drawThroughExit_16 ?_
  obtain ⟨q19, e19, h⟩ := gBind_some h
  refine g_callVv (k := (b + 5)) (T := TX4) (N := 1) (As := [.int (gI a1), .int (gI ((gUp σ b 6 ((σ b 6) + (1 : Int))) b 6))]) (rest := []) ⟨hx, hb0, hml, hown, hts⟩ (metX4_put l D G (b + 5) 30 (hb.n2) (gUp σ b 6 ((σ b 6) + (1 : Int))) μ a1 ((gUp σ b 6 ((σ b 6) + (1 : Int))) b 6) q19 e19) (g_cwV (C := RX4) 2 hts q_ml_X2_84 q_im_X4_put q_se_X4_put q_in_X4 q_co_X4_put ⟨rfl, rfl⟩ (by decide +kernel) ⟨Nat.le_of_ble_eq_true rfl, Nat.le_of_ble_eq_true rfl⟩) hX hH ((hb.n2)).1 rfl rfl hl.1 rfl (Nat.le_of_ble_eq_true rfl) dX2_drawThroughExit_19 ⟨Nat.zero_le _, Nat.zero_le _⟩ (fun H locs hH => ?_)
  refine lv_aload_n hx hb0 dX2_drawThroughExit_22 rfl (lv_at hl 0 rfl) ?_
  refine g_getR hx hb0 hts q_ws_X2 hown hX hH (C := RX2) (T := TX2) (N := 7) (k := b) (i := 3) (j := (b + 7)) hb.k rfl (by decide) (hts _ q_fl_X2_26) rfl rfl dX2_drawThroughExit_23 ?_
  refine lv_aload_n hx hb0 dX2_drawThroughExit_26 rfl (lv_at hl 0 rfl) ?_
  refine g_getI hx hb0 hts q_ws_X2 hown hX hH (C := RX2) (T := TX2) (N := 7) (k := b) (i := 6) hb.k rfl (by decide) (hts _ q_fl_X2_35) rfl rfl dX2_drawThroughExit_27 ?_
  refine lv_iload_n hx hb0 dX2_drawThroughExit_30 rfl (lv_at hl 1 rfl) ?_
  obtain ⟨q31, e31, h⟩ := gBind_some h
  refine g_callVv (k := (b + 7)) (T := TX4) (N := 1) (As := [.int (gI (q19 b 6)), .int (gI a1)]) (rest := []) ⟨hx, hb0, hml, hown, hts⟩ (metX4_put l D G (b + 7) 31 (hb.n3) q19 μ (q19 b 6) a1 q31 e31) (g_cwV (C := RX4) 2 hts q_ml_X2_84 q_im_X4_put q_se_X4_put q_in_X4 q_co_X4_put ⟨rfl, rfl⟩ (by decide +kernel) ⟨Nat.le_of_ble_eq_true rfl, Nat.le_of_ble_eq_true rfl⟩) hX hH ((hb.n3)).1 rfl rfl hl.1 rfl (Nat.le_of_ble_eq_true rfl) dX2_drawThroughExit_31 ⟨Nat.zero_le _, Nat.zero_le _⟩ (fun H locs hH => ?_)
  refine lv_aload_n hx hb0 dX2_drawThroughExit_34 rfl (lv_at hl 0 rfl) ?_
  refine g_getR hx hb0 hts q_ws_X2 hown hX hH (C := RX2) (T := TX2) (N := 7) (k := b) (i := 4) (j := (b + 9)) hb.k rfl (by decide) (hts _ q_fl_X2_29) rfl rfl dX2_drawThroughExit_35 ?_
  refine lv_iload_n hx hb0 dX2_drawThroughExit_38 rfl (lv_at hl 2 rfl) ?_
  obtain ⟨q39, e39, h⟩ := gBind_some h
  refine g_callVv (k := (b + 9)) (T := TX4) (N := 1) (As := [.int (gI a2)]) (rest := []) ⟨hx, hb0, hml, hown, hts⟩ (metX4_increase l D G (b + 9) 312 (hb.n4) q31 μ a2 q39 e39) (g_cwV (C := RX4) 1 hts q_ml_X2_94 q_im_X4_increase q_se_X4_increase q_in_X4 q_co_X4_increase ⟨rfl, rfl⟩ (by decide +kernel) ⟨Nat.le_of_ble_eq_true rfl, Nat.le_of_ble_eq_true rfl⟩) hX hH ((hb.n4)).1 rfl rfl hl.1 rfl (Nat.le_of_ble_eq_true rfl) dX2_drawThroughExit_39 ⟨Nat.zero_le _, Nat.zero_le _⟩ (fun H locs hH => ?_)
  refine lv_aload_n hx hb0 dX2_drawThroughExit_42 rfl (lv_at hl 0 rfl) ?_
  refine g_getR hx hb0 hts q_ws_X2 hown hX hH (C := RX2) (T := TX2) (N := 7) (k := b) (i := 4) (j := (b + 9)) hb.k rfl (by decide) (hts _ q_fl_X2_29) rfl rfl dX2_drawThroughExit_43 ?_
  refine lv_iload_n hx hb0 dX2_drawThroughExit_46 rfl (lv_at hl 3 rfl) ?_
  obtain ⟨q47, e47, h⟩ := gBind_some h
  refine g_callVv (k := (b + 9)) (T := TX4) (N := 1) (As := [.int (gI a3)]) (rest := []) ⟨hx, hb0, hml, hown, hts⟩ (metX4_increase l D G (b + 9) 312 (hb.n4) q39 μ a3 q47 e47) (g_cwV (C := RX4) 1 hts q_ml_X2_94 q_im_X4_increase q_se_X4_increase q_in_X4 q_co_X4_increase ⟨rfl, rfl⟩ (by decide +kernel) ⟨Nat.le_of_ble_eq_true rfl, Nat.le_of_ble_eq_true rfl⟩) hX hH ((hb.n4)).1 rfl rfl hl.1 rfl (Nat.le_of_ble_eq_true rfl) dX2_drawThroughExit_47 ⟨Nat.zero_le _, Nat.zero_le _⟩ (fun H locs hH => ?_)
  exact g_vretS hx hb0 hr hH hlocks dX2_drawThroughExit_50 h
def DX2_draw_J162 (R41 : Int → gSt → Option (gSt)) (x5_41 : Int) (σ162 : gSt) : Option (gSt) :=
  (R41 (x5_41 + (1 : Int)) σ162)
def DX2_draw_L41 (b : Nat) (p1 : Nat) (p2 : Nat) (p3 : Nat) (q2 : Int) : Nat → Int → gSt → Option (gSt)
  | 0, _, _ => none
  | f41 + 1, x5_41, σ41 => (DX5_arrowCount p1 σ41).bind fun q44 => gIf (x5_41 < q44) x5_41 q44 ((DX5_from p1 σ41 x5_41).bind fun q53 => (DX5_to p1 σ41 x5_41).bind fun q61 => (DX0_bandOf p2 σ41 q53).bind fun q70 => (DX5_last p1 σ41 q53).bind fun q76 => (DX8_stripOfDay σ41 q76 q2).bind fun q81 => (DX6_numberAt p3 σ41 q70 q81).bind fun q84 => (DX0_bandOf p2 σ41 q61).bind fun q93 => (DX5_first p1 σ41 q61).bind fun q99 => (DX8_stripOfDay σ41 q99 q2).bind fun q104 => (DX6_numberAt p3 σ41 q93 q104).bind fun q107 => (DX4_put (b + 1) 30 σ41 x5_41 q84).bind fun q120 => (DX4_put (b + 3) 30 q120 x5_41 q107).bind fun q131 => gIf (q84 = q107) q84 q107 ((DX2_drawInside b q131 x5_41 q84).bind fun q146 => (DX2_draw_J162 (DX2_draw_L41 b p1 p2 p3 q2 f41) x5_41 q146)) ((DX2_drawThroughExit b q131 x5_41 q84 q107).bind fun q159 => (DX2_draw_J162 (DX2_draw_L41 b p1 p2 p3 q2 f41) x5_41 q159))) (some σ41)
def DX2_draw (b : Nat) (p1 : Nat) (p2 : Nat) (p3 : Nat) (σ : gSt) : Option (gSt) :=
  (DX5_setting p1 σ (1 : Int)).bind fun q2 => (DX6_count p3 σ).bind fun q13 => (DX4_fill (b + 9) 312 σ (0 : Int) q13 (0 : Int)).bind fun q17 => (DX6_count p3 q17).bind fun q26 => (DX4_fill (b + 11) 312 q17 (0 : Int) q26 (0 : Int)).bind fun q30 => (DX2_draw_L41 b p1 p2 p3 q2 gFuel (0 : Int) (gUp q30 b 6 (0 : Int)))
set_option maxHeartbeats 4000000 in
set_option maxRecDepth 100000 in
theorem metX2_draw (l : Launch) (D : va_G) (G : gAd) (b : Nat) (p1 : Nat) (p2 : Nat) (p3 : Nat) (hb : gExits b) (hp1 : gPlan p1) (hp2 : gBands p2) (hp3 : gSheets p3) (σ : gSt) (μ : gLg) (σ' : gSt) (h : DX2_draw b p1 p2 p3 σ = some σ') : Met l yX2_draw (gWs yX2_draw cX2_draw 10 none) ({ frames := 3, cells := 0, slots := 0, locals := 66 } : Room) (gPc D G [.ref (G.1 b), .ref (G.1 p1), .ref (G.1 p2), .ref (G.1 p3)] σ μ) (gQv D G σ' μ) 0 0 (gA G) := by
  refine Met.ofW (cc := cX2_draw) (maxL := 10) (ret := none) (by decide) rfl ?_
  intro p e s m args below meth c s₁ B hml hv
  obtain ⟨rfl, hP, hX⟩ := hv
  have hx := B.exec
  have hb0 := B.bytes
  have hr := B.returns
  have hts0 := atoms_spec (ws := (gWs yX2_draw cX2_draw 10 none)) B.pre
  have hts : ∀ w ∈ gLW, w.before _ s = true := fun w hw => hts0 w (List.mem_cons_of_mem _ hw)
  have hown : s.vm.findClass RX2 = some m.cls := findClass_of_methodNamed B.named
  have hlocks := B.notSynchronized
  have hH : gH D G s s.heap [] σ μ := ⟨hP, va_S.rf⟩
  have hl := lv_entry ([.ref (G.1 b), .ref (G.1 p1), .ref (G.1 p2), .ref (G.1 p3)]) (n := 10) (Nat.le_of_ble_eq_true rfl)
  rw [lg_entry_eq]
  generalize (lg_sl ([.ref (G.1 b), .ref (G.1 p1), .ref (G.1 p2), .ref (G.1 p3)]) ++ List.replicate (10 - (lg_sl ([.ref (G.1 b), .ref (G.1 p1), .ref (G.1 p2), .ref (G.1 p3)])).length) Slot.unset).toArray = ls at hl ⊢
  have hl : lv_has ls 10 [(0, .ref (G.1 b)), (1, .ref (G.1 p1)), (2, .ref (G.1 p2)), (3, .ref (G.1 p3))] := hl
  unfold DX2_draw at h
  refine lv_aload_n hx hb0 dX2_draw_0 rfl (lv_at hl 1 rfl) ?_
  refine lv_iconst (v := gI (1 : Int)) hx hb0 dX2_draw_1 (by decide) ?_
  obtain ⟨q2, e2, h⟩ := gBind_some h
  refine g_callVi (k := p1) (T := TX5) (N := 8) (As := [.int (gI (1 : Int))]) (rest := []) ⟨hx, hb0, hml, hown, hts⟩ (metX5_setting l D G p1 hp1 σ μ (1 : Int) q2 e2) (g_cwV (C := RX5) 1 hts q_ml_X2_43 q_im_X5_setting q_se_X5_setting q_in_X5 q_co_X5_setting ⟨rfl, rfl⟩ (by decide +kernel) ⟨Nat.le_of_ble_eq_true rfl, Nat.le_of_ble_eq_true rfl⟩) hX hH hp1.k rfl rfl hl.1 rfl (Nat.le_of_ble_eq_true rfl) dX2_draw_2 ⟨Nat.zero_le _, Nat.zero_le _⟩ (fun H locs hH => ?_)
  refine lv_istore (lv' := [(4, .int (gI q2)), (0, .ref (G.1 b)), (1, .ref (G.1 p1)), (2, .ref (G.1 p2)), (3, .ref (G.1 p3))]) hx hb0 dX2_draw_5 hl (by decide) rfl (fun ls hl => ?_)
  refine lv_aload_n hx hb0 dX2_draw_7 rfl (lv_at hl 1 rfl) ?_
  refine g_getR hx hb0 hts q_ws_X2 hown hX hH (C := RX2) (T := TX2) (N := 7) (k := b) (i := 4) (j := (b + 9)) hb.k rfl (by decide) (hts _ q_fl_X2_29) rfl rfl dX2_draw_8 ?_
  refine lv_iconst (v := gI (0 : Int)) hx hb0 dX2_draw_11 (by decide) ?_
  refine lv_aload_n hx hb0 dX2_draw_12 rfl (lv_at hl 4 rfl) ?_
  obtain ⟨q13, e13, h⟩ := gBind_some h
  refine g_callVi (k := p3) (T := TX6) (N := 5) (As := []) (rest := [.int (gI (0 : Int)), .ref (G.1 (b + 9))]) ⟨hx, hb0, hml, hown, hts⟩ (metX6_count l D G p3 hp3 σ μ q13 e13) (g_cwV (C := RX6) 0 hts q_ml_X2_48 q_im_X6_count q_se_X6_count q_in_X6 q_co_X6_count ⟨rfl, rfl⟩ (by decide +kernel) ⟨Nat.le_of_ble_eq_true rfl, Nat.le_of_ble_eq_true rfl⟩) hX hH hp3.k rfl rfl hl.1 rfl (Nat.le_of_ble_eq_true rfl) dX2_draw_13 ⟨Nat.zero_le _, Nat.zero_le _⟩ (fun H locs hH => ?_)
  refine lv_iconst (v := gI (0 : Int)) hx hb0 dX2_draw_16 (by decide) ?_
  obtain ⟨q17, e17, h⟩ := gBind_some h
  refine g_callVv (k := (b + 9)) (T := TX4) (N := 1) (As := [.int (gI (0 : Int)), .int (gI q13), .int (gI (0 : Int))]) (rest := []) ⟨hx, hb0, hml, hown, hts⟩ (metX4_fill l D G (b + 9) 312 (hb.n4) σ μ (0 : Int) q13 (0 : Int) q17 e17) (g_cwV (C := RX4) 3 hts q_ml_X2_53 q_im_X4_fill q_se_X4_fill q_in_X4 q_co_X4_fill ⟨rfl, rfl⟩ (by decide +kernel) ⟨Nat.le_of_ble_eq_true rfl, Nat.le_of_ble_eq_true rfl⟩) hX hH ((hb.n4)).1 rfl rfl hl.1 rfl (Nat.le_of_ble_eq_true rfl) dX2_draw_17 ⟨Nat.zero_le _, Nat.zero_le _⟩ (fun H locs hH => ?_)
  refine lv_aload_n hx hb0 dX2_draw_20 rfl (lv_at hl 1 rfl) ?_
  refine g_getR hx hb0 hts q_ws_X2 hown hX hH (C := RX2) (T := TX2) (N := 7) (k := b) (i := 5) (j := (b + 11)) hb.k rfl (by decide) (hts _ q_fl_X2_32) rfl rfl dX2_draw_21 ?_
  refine lv_iconst (v := gI (0 : Int)) hx hb0 dX2_draw_24 (by decide) ?_
  refine lv_aload_n hx hb0 dX2_draw_25 rfl (lv_at hl 4 rfl) ?_
  obtain ⟨q26, e26, h⟩ := gBind_some h
  refine g_callVi (k := p3) (T := TX6) (N := 5) (As := []) (rest := [.int (gI (0 : Int)), .ref (G.1 (b + 11))]) ⟨hx, hb0, hml, hown, hts⟩ (metX6_count l D G p3 hp3 q17 μ q26 e26) (g_cwV (C := RX6) 0 hts q_ml_X2_48 q_im_X6_count q_se_X6_count q_in_X6 q_co_X6_count ⟨rfl, rfl⟩ (by decide +kernel) ⟨Nat.le_of_ble_eq_true rfl, Nat.le_of_ble_eq_true rfl⟩) hX hH hp3.k rfl rfl hl.1 rfl (Nat.le_of_ble_eq_true rfl) dX2_draw_26 ⟨Nat.zero_le _, Nat.zero_le _⟩ (fun H locs hH => ?_)
  refine lv_iconst (v := gI (0 : Int)) hx hb0 dX2_draw_29 (by decide) ?_
  obtain ⟨q30, e30, h⟩ := gBind_some h
  refine g_callVv (k := (b + 11)) (T := TX4) (N := 1) (As := [.int (gI (0 : Int)), .int (gI q26), .int (gI (0 : Int))]) (rest := []) ⟨hx, hb0, hml, hown, hts⟩ (metX4_fill l D G (b + 11) 312 (hb.n5) q17 μ (0 : Int) q26 (0 : Int) q30 e30) (g_cwV (C := RX4) 3 hts q_ml_X2_53 q_im_X4_fill q_se_X4_fill q_in_X4 q_co_X4_fill ⟨rfl, rfl⟩ (by decide +kernel) ⟨Nat.le_of_ble_eq_true rfl, Nat.le_of_ble_eq_true rfl⟩) hX hH ((hb.n5)).1 rfl rfl hl.1 rfl (Nat.le_of_ble_eq_true rfl) dX2_draw_30 ⟨Nat.zero_le _, Nat.zero_le _⟩ (fun H locs hH => ?_)
  refine lv_aload_n hx hb0 dX2_draw_33 rfl (lv_at hl 1 rfl) ?_
  refine lv_iconst (v := gI (0 : Int)) hx hb0 dX2_draw_34 (by decide) ?_
  refine g_putI hx hb0 hts q_ws_X2 tyX2 tyX2_ok nmX2 hown hX hH (C := RX2) (T := TX2) (N := 7) (k := b) (i := 6) hb.k rfl (by decide) (hts _ q_fl_X2_35) rfl rfl rfl rfl dX2_draw_35 (fun H locs hH => ?_)
  refine lv_iconst (v := gI (0 : Int)) hx hb0 dX2_draw_38 (by decide) ?_
  refine lv_istore (lv' := [(5, .int (gI (0 : Int))), (4, .int (gI q2)), (0, .ref (G.1 b)), (1, .ref (G.1 p1)), (2, .ref (G.1 p2)), (3, .ref (G.1 p3))]) hx hb0 dX2_draw_39 hl (by decide) rfl (fun ls hl => ?_)
  have hL41 : ∀ (f41 : Nat) (x5_41 : Int) (σ41 : gSt) (H : Heap) (locs : List Loc) (ls : Array Slot), gH D G s H locs σ41 μ → lv_has ls 10 [(5, .int (gI x5_41)), (4, .int (gI q2)), (0, .ref (G.1 b)), (1, .ref (G.1 p1)), (2, .ref (G.1 p2)), (3, .ref (G.1 p3))] → (DX2_draw_L41 b p1 p2 p3 q2 f41 x5_41 σ41) = some σ' → W p l e (headSpec (gWs yX2_draw cX2_draw 10 none) ({ frames := 3, cells := 0, slots := 0, locals := 66 } : Room)).room s m ([.ref (G.1 b), .ref (G.1 p1), .ref (G.1 p2), .ref (G.1 p3)] : List Value).toArray below meth c H locs 0 0 (MQ below (gQv D G σ' μ) ([.ref (G.1 b), .ref (G.1 p1), .ref (G.1 p2), .ref (G.1 p3)] : List Value).toArray s 0 0 (gA G)) (F0 m 41 ls []) := by
    intro f41
    induction f41 with
    | zero => intro x5_41 σ41 H locs ls hH hl h; cases h
    | succ f41 ih41 =>
      intro x5_41 σ41 H locs ls hH hl h
      unfold DX2_draw_L41 at h
      refine lv_iload hx hb0 dX2_draw_41 (lv_at hl 0 rfl) ?_
      refine lv_aload_n hx hb0 dX2_draw_43 rfl (lv_at hl 3 rfl) ?_
      obtain ⟨q44, e44, h⟩ := gBind_some h
      refine g_callVi (k := p1) (T := TX5) (N := 8) (As := []) (rest := [.int (gI x5_41)]) ⟨hx, hb0, hml, hown, hts⟩ (metX5_arrowCount l D G p1 hp1 σ41 μ q44 e44) (g_cwV (C := RX5) 0 hts q_ml_X2_57 q_im_X5_arrowCount q_se_X5_arrowCount q_in_X5 q_co_X5_arrowCount ⟨rfl, rfl⟩ (by decide +kernel) ⟨Nat.le_of_ble_eq_true rfl, Nat.le_of_ble_eq_true rfl⟩) hX hH hp1.k rfl rfl hl.1 rfl (Nat.le_of_ble_eq_true rfl) dX2_draw_44 ⟨Nat.zero_le _, Nat.zero_le _⟩ (fun H locs hH => ?_)
      refine g_icmp_ge (tgt := 168) hx hb0 dX2_draw_47 (by decide) h (fun h => ?_) (fun h => ?_)
      · exact g_vretS hx hb0 hr hH hlocks dX2_draw_168 h
      · refine lv_aload_n hx hb0 dX2_draw_50 rfl (lv_at hl 3 rfl) ?_
        refine lv_iload hx hb0 dX2_draw_51 (lv_at hl 0 rfl) ?_
        obtain ⟨q53, e53, h⟩ := gBind_some h
        refine g_callVi (k := p1) (T := TX5) (N := 8) (As := [.int (gI x5_41)]) (rest := []) ⟨hx, hb0, hml, hown, hts⟩ (metX5_from l D G p1 hp1 σ41 μ x5_41 q53 e53) (g_cwV (C := RX5) 1 hts q_ml_X2_60 q_im_X5_from q_se_X5_from q_in_X5 q_co_X5_from ⟨rfl, rfl⟩ (by decide +kernel) ⟨Nat.le_of_ble_eq_true rfl, Nat.le_of_ble_eq_true rfl⟩) hX hH hp1.k rfl rfl hl.1 rfl (Nat.le_of_ble_eq_true rfl) dX2_draw_53 ⟨Nat.zero_le _, Nat.zero_le _⟩ (fun H locs hH => ?_)
        refine lv_istore (lv' := [(6, .int (gI q53)), (5, .int (gI x5_41)), (4, .int (gI q2)), (0, .ref (G.1 b)), (1, .ref (G.1 p1)), (2, .ref (G.1 p2)), (3, .ref (G.1 p3))]) hx hb0 dX2_draw_56 hl (by decide) rfl (fun ls hl => ?_)
        refine lv_aload_n hx hb0 dX2_draw_58 rfl (lv_at hl 4 rfl) ?_
        refine lv_iload hx hb0 dX2_draw_59 (lv_at hl 1 rfl) ?_
        obtain ⟨q61, e61, h⟩ := gBind_some h
        refine g_callVi (k := p1) (T := TX5) (N := 8) (As := [.int (gI x5_41)]) (rest := []) ⟨hx, hb0, hml, hown, hts⟩ (metX5_to l D G p1 hp1 σ41 μ x5_41 q61 e61) (g_cwV (C := RX5) 1 hts q_ml_X2_63 q_im_X5_to q_se_X5_to q_in_X5 q_co_X5_to ⟨rfl, rfl⟩ (by decide +kernel) ⟨Nat.le_of_ble_eq_true rfl, Nat.le_of_ble_eq_true rfl⟩) hX hH hp1.k rfl rfl hl.1 rfl (Nat.le_of_ble_eq_true rfl) dX2_draw_61 ⟨Nat.zero_le _, Nat.zero_le _⟩ (fun H locs hH => ?_)
        refine lv_istore (lv' := [(7, .int (gI q61)), (6, .int (gI q53)), (5, .int (gI x5_41)), (4, .int (gI q2)), (0, .ref (G.1 b)), (1, .ref (G.1 p1)), (2, .ref (G.1 p2)), (3, .ref (G.1 p3))]) hx hb0 dX2_draw_64 hl (by decide) rfl (fun ls hl => ?_)
        refine lv_aload_n hx hb0 dX2_draw_66 rfl (lv_at hl 7 rfl) ?_
        refine lv_aload_n hx hb0 dX2_draw_67 rfl (lv_at hl 6 rfl) ?_
        refine lv_iload hx hb0 dX2_draw_68 (lv_at hl 1 rfl) ?_
        obtain ⟨q70, e70, h⟩ := gBind_some h
        refine g_callVi (k := p2) (T := TX0) (N := 8) (As := [.int (gI q53)]) (rest := [.ref (G.1 p3)]) ⟨hx, hb0, hml, hown, hts⟩ (metX0_bandOf l D G p2 hp2 σ41 μ q53 q70 e70) (g_cwV (C := RX0) 1 hts q_ml_X2_66 q_im_X0_bandOf q_se_X0_bandOf q_in_X0 q_co_X0_bandOf ⟨rfl, rfl⟩ (by decide +kernel) ⟨Nat.le_of_ble_eq_true rfl, Nat.le_of_ble_eq_true rfl⟩) hX hH hp2.k rfl rfl hl.1 rfl (Nat.le_of_ble_eq_true rfl) dX2_draw_70 ⟨Nat.zero_le _, Nat.zero_le _⟩ (fun H locs hH => ?_)
        refine lv_aload_n hx hb0 dX2_draw_73 rfl (lv_at hl 5 rfl) ?_
        refine lv_iload hx hb0 dX2_draw_74 (lv_at hl 1 rfl) ?_
        obtain ⟨q76, e76, h⟩ := gBind_some h
        refine g_callVi (k := p1) (T := TX5) (N := 8) (As := [.int (gI q53)]) (rest := [.int (gI q70), .ref (G.1 p3)]) ⟨hx, hb0, hml, hown, hts⟩ (metX5_last l D G p1 hp1 σ41 μ q53 q76 e76) (g_cwV (C := RX5) 1 hts q_ml_X2_71 q_im_X5_last q_se_X5_last q_in_X5 q_co_X5_last ⟨rfl, rfl⟩ (by decide +kernel) ⟨Nat.le_of_ble_eq_true rfl, Nat.le_of_ble_eq_true rfl⟩) hX hH hp1.k rfl rfl hl.1 rfl (Nat.le_of_ble_eq_true rfl) dX2_draw_76 ⟨Nat.zero_le _, Nat.zero_le _⟩ (fun H locs hH => ?_)
        refine lv_iload hx hb0 dX2_draw_79 (lv_at hl 3 rfl) ?_
        obtain ⟨q81, e81, h⟩ := gBind_some h
        refine g_callNi (As := [.int (gI q76), .int (gI q2)]) (rest := [.int (gI q70), .ref (G.1 p3)]) ⟨hx, hb0, hml, hown, hts⟩ (metX8_stripOfDay l D G σ41 μ q76 q2 q81 e81) (g_cwN (own := RX2) (idx := 74) (y := yX8_stripOfDay) (host := RX8) 2 hts hX (by decide +kernel) q_st_X8_stripOfDay q_in_X8 q_co_X8_stripOfDay ⟨rfl, rfl⟩ (by decide +kernel) ⟨Nat.le_of_ble_eq_true rfl, Nat.le_of_ble_eq_true rfl⟩) hX hH rfl hl.1 rfl (Nat.le_of_ble_eq_true rfl) dX2_draw_81 ⟨Nat.zero_le _, Nat.zero_le _⟩ (fun H locs hH => ?_)
        obtain ⟨q84, e84, h⟩ := gBind_some h
        refine g_callVi (k := p3) (T := TX6) (N := 5) (As := [.int (gI q70), .int (gI q81)]) (rest := []) ⟨hx, hb0, hml, hown, hts⟩ (metX6_numberAt l D G p3 hp3 σ41 μ q70 q81 q84 e84) (g_cwV (C := RX6) 2 hts q_ml_X2_78 q_im_X6_numberAt q_se_X6_numberAt q_in_X6 q_co_X6_numberAt ⟨rfl, rfl⟩ (by decide +kernel) ⟨Nat.le_of_ble_eq_true rfl, Nat.le_of_ble_eq_true rfl⟩) hX hH hp3.k rfl rfl hl.1 rfl (Nat.le_of_ble_eq_true rfl) dX2_draw_84 ⟨Nat.zero_le _, Nat.zero_le _⟩ (fun H locs hH => ?_)
        refine lv_istore (lv' := [(8, .int (gI q84)), (7, .int (gI q61)), (6, .int (gI q53)), (5, .int (gI x5_41)), (4, .int (gI q2)), (0, .ref (G.1 b)), (1, .ref (G.1 p1)), (2, .ref (G.1 p2)), (3, .ref (G.1 p3))]) hx hb0 dX2_draw_87 hl (by decide) rfl (fun ls hl => ?_)
        refine lv_aload_n hx hb0 dX2_draw_89 rfl (lv_at hl 8 rfl) ?_
        refine lv_aload_n hx hb0 dX2_draw_90 rfl (lv_at hl 7 rfl) ?_
        refine lv_iload hx hb0 dX2_draw_91 (lv_at hl 1 rfl) ?_
        obtain ⟨q93, e93, h⟩ := gBind_some h
        refine g_callVi (k := p2) (T := TX0) (N := 8) (As := [.int (gI q61)]) (rest := [.ref (G.1 p3)]) ⟨hx, hb0, hml, hown, hts⟩ (metX0_bandOf l D G p2 hp2 σ41 μ q61 q93 e93) (g_cwV (C := RX0) 1 hts q_ml_X2_66 q_im_X0_bandOf q_se_X0_bandOf q_in_X0 q_co_X0_bandOf ⟨rfl, rfl⟩ (by decide +kernel) ⟨Nat.le_of_ble_eq_true rfl, Nat.le_of_ble_eq_true rfl⟩) hX hH hp2.k rfl rfl hl.1 rfl (Nat.le_of_ble_eq_true rfl) dX2_draw_93 ⟨Nat.zero_le _, Nat.zero_le _⟩ (fun H locs hH => ?_)
        refine lv_aload_n hx hb0 dX2_draw_96 rfl (lv_at hl 6 rfl) ?_
        refine lv_iload hx hb0 dX2_draw_97 (lv_at hl 1 rfl) ?_
        obtain ⟨q99, e99, h⟩ := gBind_some h
        refine g_callVi (k := p1) (T := TX5) (N := 8) (As := [.int (gI q61)]) (rest := [.int (gI q93), .ref (G.1 p3)]) ⟨hx, hb0, hml, hown, hts⟩ (metX5_first l D G p1 hp1 σ41 μ q61 q99 e99) (g_cwV (C := RX5) 1 hts q_ml_X2_81 q_im_X5_first q_se_X5_first q_in_X5 q_co_X5_first ⟨rfl, rfl⟩ (by decide +kernel) ⟨Nat.le_of_ble_eq_true rfl, Nat.le_of_ble_eq_true rfl⟩) hX hH hp1.k rfl rfl hl.1 rfl (Nat.le_of_ble_eq_true rfl) dX2_draw_99 ⟨Nat.zero_le _, Nat.zero_le _⟩ (fun H locs hH => ?_)
        refine lv_iload hx hb0 dX2_draw_102 (lv_at hl 4 rfl) ?_
        obtain ⟨q104, e104, h⟩ := gBind_some h
        refine g_callNi (As := [.int (gI q99), .int (gI q2)]) (rest := [.int (gI q93), .ref (G.1 p3)]) ⟨hx, hb0, hml, hown, hts⟩ (metX8_stripOfDay l D G σ41 μ q99 q2 q104 e104) (g_cwN (own := RX2) (idx := 74) (y := yX8_stripOfDay) (host := RX8) 2 hts hX (by decide +kernel) q_st_X8_stripOfDay q_in_X8 q_co_X8_stripOfDay ⟨rfl, rfl⟩ (by decide +kernel) ⟨Nat.le_of_ble_eq_true rfl, Nat.le_of_ble_eq_true rfl⟩) hX hH rfl hl.1 rfl (Nat.le_of_ble_eq_true rfl) dX2_draw_104 ⟨Nat.zero_le _, Nat.zero_le _⟩ (fun H locs hH => ?_)
        obtain ⟨q107, e107, h⟩ := gBind_some h
        refine g_callVi (k := p3) (T := TX6) (N := 5) (As := [.int (gI q93), .int (gI q104)]) (rest := []) ⟨hx, hb0, hml, hown, hts⟩ (metX6_numberAt l D G p3 hp3 σ41 μ q93 q104 q107 e107) (g_cwV (C := RX6) 2 hts q_ml_X2_78 q_im_X6_numberAt q_se_X6_numberAt q_in_X6 q_co_X6_numberAt ⟨rfl, rfl⟩ (by decide +kernel) ⟨Nat.le_of_ble_eq_true rfl, Nat.le_of_ble_eq_true rfl⟩) hX hH hp3.k rfl rfl hl.1 rfl (Nat.le_of_ble_eq_true rfl) dX2_draw_107 ⟨Nat.zero_le _, Nat.zero_le _⟩ (fun H locs hH => ?_)
        refine lv_istore (lv' := [(9, .int (gI q107)), (8, .int (gI q84)), (7, .int (gI q61)), (6, .int (gI q53)), (5, .int (gI x5_41)), (4, .int (gI q2)), (0, .ref (G.1 b)), (1, .ref (G.1 p1)), (2, .ref (G.1 p2)), (3, .ref (G.1 p3))]) hx hb0 dX2_draw_110 hl (by decide) rfl (fun ls hl => ?_)
        refine lv_aload_n hx hb0 dX2_draw_112 rfl (lv_at hl 6 rfl) ?_
        refine g_getR hx hb0 hts q_ws_X2 hown hX hH (C := RX2) (T := TX2) (N := 7) (k := b) (i := 0) (j := (b + 1)) hb.k rfl (by decide) (hts _ q_fl_X2_14) rfl rfl dX2_draw_113 ?_
        refine lv_iload hx hb0 dX2_draw_116 (lv_at hl 4 rfl) ?_
        refine lv_iload hx hb0 dX2_draw_118 (lv_at hl 1 rfl) ?_
        obtain ⟨q120, e120, h⟩ := gBind_some h
        refine g_callVv (k := (b + 1)) (T := TX4) (N := 1) (As := [.int (gI x5_41), .int (gI q84)]) (rest := []) ⟨hx, hb0, hml, hown, hts⟩ (metX4_put l D G (b + 1) 30 (hb.n0) σ41 μ x5_41 q84 q120 e120) (g_cwV (C := RX4) 2 hts q_ml_X2_84 q_im_X4_put q_se_X4_put q_in_X4 q_co_X4_put ⟨rfl, rfl⟩ (by decide +kernel) ⟨Nat.le_of_ble_eq_true rfl, Nat.le_of_ble_eq_true rfl⟩) hX hH ((hb.n0)).1 rfl rfl hl.1 rfl (Nat.le_of_ble_eq_true rfl) dX2_draw_120 ⟨Nat.zero_le _, Nat.zero_le _⟩ (fun H locs hH => ?_)
        refine lv_aload_n hx hb0 dX2_draw_123 rfl (lv_at hl 6 rfl) ?_
        refine g_getR hx hb0 hts q_ws_X2 hown hX hH (C := RX2) (T := TX2) (N := 7) (k := b) (i := 1) (j := (b + 3)) hb.k rfl (by decide) (hts _ q_fl_X2_20) rfl rfl dX2_draw_124 ?_
        refine lv_iload hx hb0 dX2_draw_127 (lv_at hl 4 rfl) ?_
        refine lv_iload hx hb0 dX2_draw_129 (lv_at hl 0 rfl) ?_
        obtain ⟨q131, e131, h⟩ := gBind_some h
        refine g_callVv (k := (b + 3)) (T := TX4) (N := 1) (As := [.int (gI x5_41), .int (gI q107)]) (rest := []) ⟨hx, hb0, hml, hown, hts⟩ (metX4_put l D G (b + 3) 30 (hb.n1) q120 μ x5_41 q107 q131 e131) (g_cwV (C := RX4) 2 hts q_ml_X2_84 q_im_X4_put q_se_X4_put q_in_X4 q_co_X4_put ⟨rfl, rfl⟩ (by decide +kernel) ⟨Nat.le_of_ble_eq_true rfl, Nat.le_of_ble_eq_true rfl⟩) hX hH ((hb.n1)).1 rfl rfl hl.1 rfl (Nat.le_of_ble_eq_true rfl) dX2_draw_131 ⟨Nat.zero_le _, Nat.zero_le _⟩ (fun H locs hH => ?_)
        refine lv_iload hx hb0 dX2_draw_134 (lv_at hl 1 rfl) ?_
        refine lv_iload hx hb0 dX2_draw_136 (lv_at hl 0 rfl) ?_
        have hJ162 : ∀ (σ162 : gSt) (H : Heap) (locs : List Loc) (ls : Array Slot), gH D G s H locs σ162 μ → lv_has ls 10 [(5, .int (gI x5_41)), (4, .int (gI q2)), (0, .ref (G.1 b)), (1, .ref (G.1 p1)), (2, .ref (G.1 p2)), (3, .ref (G.1 p3))] → (DX2_draw_J162 (DX2_draw_L41 b p1 p2 p3 q2 f41) x5_41 σ162) = some σ' → W p l e (headSpec (gWs yX2_draw cX2_draw 10 none) ({ frames := 3, cells := 0, slots := 0, locals := 66 } : Room)).room s m ([.ref (G.1 b), .ref (G.1 p1), .ref (G.1 p2), .ref (G.1 p3)] : List Value).toArray below meth c H locs 0 0 (MQ below (gQv D G σ' μ) ([.ref (G.1 b), .ref (G.1 p1), .ref (G.1 p2), .ref (G.1 p3)] : List Value).toArray s 0 0 (gA G)) (F0 m 162 ls []) := by
          intro σ162 H locs ls hH hl h
          unfold DX2_draw_J162 at h
          refine g_iinc (k := 0) (n := (1 : Int)) (lv' := [(5, .int (gI (x5_41 + (1 : Int)))), (4, .int (gI q2)), (0, .ref (G.1 b)), (1, .ref (G.1 p1)), (2, .ref (G.1 p2)), (3, .ref (G.1 p3))]) hx hb0 dX2_draw_162 hl rfl (by decide) rfl (fun ls hl => ?_)
          refine lv_goto (tgt := 41) hx hb0 dX2_draw_165 (by decide) ?_
          exact ih41 _ _ _ _ _ hH (lv_sub hl [0, 1, 2, 3, 4, 5] rfl) h
        refine g_icmp_ne (tgt := 152) hx hb0 dX2_draw_138 (by decide) h (fun h => ?_) (fun h => ?_)
        · refine lv_aload_n hx hb0 dX2_draw_152 rfl (lv_at hl 6 rfl) ?_
          refine lv_iload hx hb0 dX2_draw_153 (lv_at hl 4 rfl) ?_
          refine lv_iload hx hb0 dX2_draw_155 (lv_at hl 1 rfl) ?_
          refine lv_iload hx hb0 dX2_draw_157 (lv_at hl 0 rfl) ?_
          obtain ⟨q159, e159, h⟩ := gBind_some h
          refine g_callVv (k := b) (T := TX2) (N := 7) (As := [.int (gI x5_41), .int (gI q84), .int (gI q107)]) (rest := []) ⟨hx, hb0, hml, hown, hts⟩ (metX2_drawThroughExit l D G b hb q131 μ x5_41 q84 q107 q159 e159) (g_cwV (C := RX2) 3 hts q_ml_X2_91 q_im_X2_drawThroughExit q_se_X2_drawThroughExit q_in_X2 q_co_X2_drawThroughExit ⟨rfl, rfl⟩ (by decide +kernel) ⟨Nat.le_of_ble_eq_true rfl, Nat.le_of_ble_eq_true rfl⟩) hX hH hb.k rfl rfl hl.1 rfl (Nat.le_of_ble_eq_true rfl) dX2_draw_159 ⟨Nat.zero_le _, Nat.zero_le _⟩ (fun H locs hH => ?_)
          exact hJ162 _ _ _ _ hH (lv_sub hl [4, 5, 6, 7, 8, 9] rfl) h
        · refine lv_aload_n hx hb0 dX2_draw_141 rfl (lv_at hl 6 rfl) ?_
          refine lv_iload hx hb0 dX2_draw_142 (lv_at hl 4 rfl) ?_
          refine lv_iload hx hb0 dX2_draw_144 (lv_at hl 1 rfl) ?_
          obtain ⟨q146, e146, h⟩ := gBind_some h
          refine g_callVv (k := b) (T := TX2) (N := 7) (As := [.int (gI x5_41), .int (gI q84)]) (rest := []) ⟨hx, hb0, hml, hown, hts⟩ (metX2_drawInside l D G b hb q131 μ x5_41 q84 q146 e146) (g_cwV (C := RX2) 2 hts q_ml_X2_88 q_im_X2_drawInside q_se_X2_drawInside q_in_X2 q_co_X2_drawInside ⟨rfl, rfl⟩ (by decide +kernel) ⟨Nat.le_of_ble_eq_true rfl, Nat.le_of_ble_eq_true rfl⟩) hX hH hb.k rfl rfl hl.1 rfl (Nat.le_of_ble_eq_true rfl) dX2_draw_146 ⟨Nat.zero_le _, Nat.zero_le _⟩ (fun H locs hH => ?_)
          refine lv_goto (tgt := 162) hx hb0 dX2_draw_149 (by decide) ?_
          exact hJ162 _ _ _ _ hH (lv_sub hl [4, 5, 6, 7, 8, 9] rfl) h
  exact hL41 gFuel _ _ _ _ _ hH (lv_sub hl [0, 1, 2, 3, 4, 5] rfl) h
def DX8_printAnew (σ : gSt) : Option (gSt) :=
  (DX5_setting 1 σ (0 : Int)).bind fun q13 => (DX0_lay 87 1 σ q13).bind fun q16 => (DX5_setting 1 q16 (1 : Int)).bind fun q36 => (DX6_print 96 1 87 q16 q36).bind fun q39 => (DX2_draw 105 1 87 96 q39).bind fun q58 => some q58
set_option maxHeartbeats 4000000 in
set_option maxRecDepth 100000 in
theorem metX8_printAnew (l : Launch) (D : va_G) (G : gAd) (σ : gSt) (μ : gLg) (σ' : gSt) (h : DX8_printAnew σ = some σ') : Met l yX8_printAnew (gWs yX8_printAnew cX8_printAnew 1 none) ({ frames := 5, cells := 0, slots := 0, locals := 111 } : Room) (gPc D G [.ref (G.1 0)] σ μ) (gQv D G σ' μ) 0 0 (gA G) := by
  refine Met.ofW (cc := cX8_printAnew) (maxL := 1) (ret := none) (by decide) rfl ?_
  intro p e s m args below meth c s₁ B hml hv
  obtain ⟨rfl, hP, hX⟩ := hv
  have hx := B.exec
  have hb0 := B.bytes
  have hr := B.returns
  have hts0 := atoms_spec (ws := (gWs yX8_printAnew cX8_printAnew 1 none)) B.pre
  have hts : ∀ w ∈ gLW, w.before _ s = true := fun w hw => hts0 w (List.mem_cons_of_mem _ hw)
  have hown : s.vm.findClass RX8 = some m.cls := findClass_of_methodNamed B.named
  have hlocks := B.notSynchronized
  have hH : gH D G s s.heap [] σ μ := ⟨hP, va_S.rf⟩
  have hl := lv_entry ([.ref (G.1 0)]) (n := 1) (Nat.le_of_ble_eq_true rfl)
  rw [lg_entry_eq]
  generalize (lg_sl ([.ref (G.1 0)]) ++ List.replicate (1 - (lg_sl ([.ref (G.1 0)])).length) Slot.unset).toArray = ls at hl ⊢
  have hl : lv_has ls 1 [(0, .ref (G.1 0))] := hl
  unfold DX8_printAnew at h
  refine lv_aload_n hx hb0 dX8_printAnew_0 rfl (lv_at hl 0 rfl) ?_
  refine g_getR hx hb0 hts q_ws_X8 hown hX hH (C := RX8) (T := TX8) (N := 10) (k := 0) (i := 5) (j := 87) (rfl : gKinds[0]? = _) rfl (by decide) (hts _ q_fl_X8_43) rfl rfl dX8_printAnew_1 ?_
  refine lv_aload_n hx hb0 dX8_printAnew_4 rfl (lv_at hl 0 rfl) ?_
  refine g_getR hx hb0 hts q_ws_X8 hown hX hH (C := RX8) (T := TX8) (N := 10) (k := 0) (i := 0) (j := 1) (rfl : gKinds[0]? = _) rfl (by decide) (hts _ q_fl_X8_12) rfl rfl dX8_printAnew_5 ?_
  refine lv_aload_n hx hb0 dX8_printAnew_8 rfl (lv_at hl 0 rfl) ?_
  refine g_getR hx hb0 hts q_ws_X8 hown hX hH (C := RX8) (T := TX8) (N := 10) (k := 0) (i := 0) (j := 1) (rfl : gKinds[0]? = _) rfl (by decide) (hts _ q_fl_X8_12) rfl rfl dX8_printAnew_9 ?_
  refine lv_iconst (v := gI (0 : Int)) hx hb0 dX8_printAnew_12 (by decide) ?_
  obtain ⟨q13, e13, h⟩ := gBind_some h
  refine g_callVi (k := 1) (T := TX5) (N := 8) (As := [.int (gI (0 : Int))]) (rest := [.ref (G.1 1), .ref (G.1 87)]) ⟨hx, hb0, hml, hown, hts⟩ (metX5_setting l D G 1 gPlan_1 σ μ (0 : Int) q13 e13) (g_cwV (C := RX5) 1 hts q_ml_X8_82 q_im_X5_setting q_se_X5_setting q_in_X5 q_co_X5_setting ⟨rfl, rfl⟩ (by decide +kernel) ⟨Nat.le_of_ble_eq_true rfl, Nat.le_of_ble_eq_true rfl⟩) hX hH gPlan_1.k rfl rfl hl.1 rfl (Nat.le_of_ble_eq_true rfl) dX8_printAnew_13 ⟨Nat.zero_le _, Nat.zero_le _⟩ (fun H locs hH => ?_)
  obtain ⟨q16, e16, h⟩ := gBind_some h
  refine g_callVv (k := 87) (T := TX0) (N := 8) (As := [.ref (G.1 1), .int (gI q13)]) (rest := []) ⟨hx, hb0, hml, hown, hts⟩ (metX0_lay l D G 87 1 gBands_87 gPlan_1 σ μ q13 q16 e16) (g_cwV (C := RX0) 2 hts q_ml_X8_223 q_im_X0_lay q_se_X0_lay q_in_X0 q_co_X0_lay ⟨rfl, rfl⟩ (by decide +kernel) ⟨Nat.le_of_ble_eq_true rfl, Nat.le_of_ble_eq_true rfl⟩) hX hH gBands_87.k rfl rfl hl.1 rfl (Nat.le_of_ble_eq_true rfl) dX8_printAnew_16 ⟨Nat.zero_le _, Nat.zero_le _⟩ (fun H locs hH => ?_)
  refine lv_aload_n hx hb0 dX8_printAnew_19 rfl (lv_at hl 0 rfl) ?_
  refine g_getR hx hb0 hts q_ws_X8 hown hX hH (C := RX8) (T := TX8) (N := 10) (k := 0) (i := 6) (j := 96) (rfl : gKinds[0]? = _) rfl (by decide) (hts _ q_fl_X8_50) rfl rfl dX8_printAnew_20 ?_
  refine lv_aload_n hx hb0 dX8_printAnew_23 rfl (lv_at hl 0 rfl) ?_
  refine g_getR hx hb0 hts q_ws_X8 hown hX hH (C := RX8) (T := TX8) (N := 10) (k := 0) (i := 0) (j := 1) (rfl : gKinds[0]? = _) rfl (by decide) (hts _ q_fl_X8_12) rfl rfl dX8_printAnew_24 ?_
  refine lv_aload_n hx hb0 dX8_printAnew_27 rfl (lv_at hl 0 rfl) ?_
  refine g_getR hx hb0 hts q_ws_X8 hown hX hH (C := RX8) (T := TX8) (N := 10) (k := 0) (i := 5) (j := 87) (rfl : gKinds[0]? = _) rfl (by decide) (hts _ q_fl_X8_43) rfl rfl dX8_printAnew_28 ?_
  refine lv_aload_n hx hb0 dX8_printAnew_31 rfl (lv_at hl 0 rfl) ?_
  refine g_getR hx hb0 hts q_ws_X8 hown hX hH (C := RX8) (T := TX8) (N := 10) (k := 0) (i := 0) (j := 1) (rfl : gKinds[0]? = _) rfl (by decide) (hts _ q_fl_X8_12) rfl rfl dX8_printAnew_32 ?_
  refine lv_iconst (v := gI (1 : Int)) hx hb0 dX8_printAnew_35 (by decide) ?_
  obtain ⟨q36, e36, h⟩ := gBind_some h
  refine g_callVi (k := 1) (T := TX5) (N := 8) (As := [.int (gI (1 : Int))]) (rest := [.ref (G.1 87), .ref (G.1 1), .ref (G.1 96)]) ⟨hx, hb0, hml, hown, hts⟩ (metX5_setting l D G 1 gPlan_1 q16 μ (1 : Int) q36 e36) (g_cwV (C := RX5) 1 hts q_ml_X8_82 q_im_X5_setting q_se_X5_setting q_in_X5 q_co_X5_setting ⟨rfl, rfl⟩ (by decide +kernel) ⟨Nat.le_of_ble_eq_true rfl, Nat.le_of_ble_eq_true rfl⟩) hX hH gPlan_1.k rfl rfl hl.1 rfl (Nat.le_of_ble_eq_true rfl) dX8_printAnew_36 ⟨Nat.zero_le _, Nat.zero_le _⟩ (fun H locs hH => ?_)
  obtain ⟨q39, e39, h⟩ := gBind_some h
  refine g_callVv (k := 96) (T := TX6) (N := 5) (As := [.ref (G.1 1), .ref (G.1 87), .int (gI q36)]) (rest := []) ⟨hx, hb0, hml, hown, hts⟩ (metX6_print l D G 96 1 87 gSheets_96 gPlan_1 gBands_87 q16 μ q36 q39 e39) (g_cwV (C := RX6) 3 hts q_ml_X8_227 q_im_X6_print q_se_X6_print q_in_X6 q_co_X6_print ⟨rfl, rfl⟩ (by decide +kernel) ⟨Nat.le_of_ble_eq_true rfl, Nat.le_of_ble_eq_true rfl⟩) hX hH gSheets_96.k rfl rfl hl.1 rfl (Nat.le_of_ble_eq_true rfl) dX8_printAnew_39 ⟨Nat.zero_le _, Nat.zero_le _⟩ (fun H locs hH => ?_)
  refine lv_aload_n hx hb0 dX8_printAnew_42 rfl (lv_at hl 0 rfl) ?_
  refine g_getR hx hb0 hts q_ws_X8 hown hX hH (C := RX8) (T := TX8) (N := 10) (k := 0) (i := 7) (j := 105) (rfl : gKinds[0]? = _) rfl (by decide) (hts _ q_fl_X8_57) rfl rfl dX8_printAnew_43 ?_
  refine lv_aload_n hx hb0 dX8_printAnew_46 rfl (lv_at hl 0 rfl) ?_
  refine g_getR hx hb0 hts q_ws_X8 hown hX hH (C := RX8) (T := TX8) (N := 10) (k := 0) (i := 0) (j := 1) (rfl : gKinds[0]? = _) rfl (by decide) (hts _ q_fl_X8_12) rfl rfl dX8_printAnew_47 ?_
  refine lv_aload_n hx hb0 dX8_printAnew_50 rfl (lv_at hl 0 rfl) ?_
  refine g_getR hx hb0 hts q_ws_X8 hown hX hH (C := RX8) (T := TX8) (N := 10) (k := 0) (i := 5) (j := 87) (rfl : gKinds[0]? = _) rfl (by decide) (hts _ q_fl_X8_43) rfl rfl dX8_printAnew_51 ?_
  refine lv_aload_n hx hb0 dX8_printAnew_54 rfl (lv_at hl 0 rfl) ?_
  refine g_getR hx hb0 hts q_ws_X8 hown hX hH (C := RX8) (T := TX8) (N := 10) (k := 0) (i := 6) (j := 96) (rfl : gKinds[0]? = _) rfl (by decide) (hts _ q_fl_X8_50) rfl rfl dX8_printAnew_55 ?_
  obtain ⟨q58, e58, h⟩ := gBind_some h
  refine g_callVv (k := 105) (T := TX2) (N := 7) (As := [.ref (G.1 1), .ref (G.1 87), .ref (G.1 96)]) (rest := []) ⟨hx, hb0, hml, hown, hts⟩ (metX2_draw l D G 105 1 87 96 gExits_105 gPlan_1 gBands_87 gSheets_96 q39 μ q58 e58) (g_cwV (C := RX2) 3 hts q_ml_X8_294 q_im_X2_draw q_se_X2_draw q_in_X2 q_co_X2_draw ⟨rfl, rfl⟩ (by decide +kernel) ⟨Nat.le_of_ble_eq_true rfl, Nat.le_of_ble_eq_true rfl⟩) hX hH gExits_105.k rfl rfl hl.1 rfl (Nat.le_of_ble_eq_true rfl) dX8_printAnew_58 ⟨Nat.zero_le _, Nat.zero_le _⟩ (fun H locs hH => ?_)
  exact g_vretS hx hb0 hr hH hlocks dX8_printAnew_61 h
def DX8_isBar (σ : gSt) (a0 : Int) (a1 : Int) : Option (Int) :=
  gIf (a0 < (0 : Int)) a0 (0 : Int) (gBo (0 : Int) (some (0 : Int))) (gIf ((199 : Int) < a0) a0 (199 : Int) (gBo (0 : Int) (some (0 : Int))) (gIf (a1 < (1 : Int)) a1 (1 : Int) (gBo (0 : Int) (some (0 : Int))) (gIf ((60 : Int) < a1) a1 (60 : Int) (gBo (0 : Int) (some (0 : Int))) (gBo (1 : Int) (some (1 : Int))))))
set_option maxHeartbeats 4000000 in
set_option maxRecDepth 100000 in
theorem metX8_isBar (l : Launch) (D : va_G) (G : gAd) (σ : gSt) (μ : gLg) (a0 : Int) (a1 : Int) (r : Int) (h : DX8_isBar σ a0 a1 = some r) : Met l yX8_isBar (gWs yX8_isBar cX8_isBar 2 (some (Jvm.ClassFile.FieldType.boolean))) ({ frames := 0, cells := 0, slots := 0, locals := 0 } : Room) (gPc D G [.int (gI a0), .int (gI a1)] σ μ) (gQi D G r σ μ) 0 0 (gA G) := by
  refine Met.ofW (cc := cX8_isBar) (maxL := 2) (ret := (some (Jvm.ClassFile.FieldType.boolean))) (by decide) rfl ?_
  intro p e s m args below meth c s₁ B hml hv
  obtain ⟨rfl, hP, hX⟩ := hv
  have hx := B.exec
  have hb0 := B.bytes
  have hr := B.returns
  have hts0 := atoms_spec (ws := (gWs yX8_isBar cX8_isBar 2 (some (Jvm.ClassFile.FieldType.boolean)))) B.pre
  have hts : ∀ w ∈ gLW, w.before _ s = true := fun w hw => hts0 w (List.mem_cons_of_mem _ hw)
  have hown : s.vm.findClass RX8 = some m.cls := findClass_of_methodNamed B.named
  have hlocks := B.notSynchronized
  have hH : gH D G s s.heap [] σ μ := ⟨hP, va_S.rf⟩
  have hl := lv_entry ([.int (gI a0), .int (gI a1)]) (n := 2) (Nat.le_of_ble_eq_true rfl)
  rw [lg_entry_eq]
  generalize (lg_sl ([.int (gI a0), .int (gI a1)]) ++ List.replicate (2 - (lg_sl ([.int (gI a0), .int (gI a1)])).length) Slot.unset).toArray = ls at hl ⊢
  have hl : lv_has ls 2 [(0, .int (gI a0)), (1, .int (gI a1))] := hl
  unfold DX8_isBar at h
  refine lv_iload_n hx hb0 dX8_isBar_0 rfl (lv_at hl 0 rfl) ?_
  refine g_if_lt (tgt := 26) hx hb0 dX8_isBar_1 (by decide) h (fun h => ?_) (fun h => ?_)
  · refine lv_iconst (v := gI (0 : Int)) hx hb0 dX8_isBar_26 (by decide) ?_
    exact g_zretP hx hb0 hr hH hlocks dX8_isBar_27 h
  · refine lv_iload_n hx hb0 dX8_isBar_4 rfl (lv_at hl 0 rfl) ?_
    refine lv_sipush (v := gI (199 : Int)) hx hb0 dX8_isBar_5 (by decide) ?_
    refine g_icmp_gt (tgt := 26) hx hb0 dX8_isBar_8 (by decide) h (fun h => ?_) (fun h => ?_)
    · refine lv_iconst (v := gI (0 : Int)) hx hb0 dX8_isBar_26 (by decide) ?_
      exact g_zretP hx hb0 hr hH hlocks dX8_isBar_27 h
    · refine lv_iload_n hx hb0 dX8_isBar_11 rfl (lv_at hl 1 rfl) ?_
      refine lv_iconst (v := gI (1 : Int)) hx hb0 dX8_isBar_12 (by decide) ?_
      refine g_icmp_lt (tgt := 26) hx hb0 dX8_isBar_13 (by decide) h (fun h => ?_) (fun h => ?_)
      · refine lv_iconst (v := gI (0 : Int)) hx hb0 dX8_isBar_26 (by decide) ?_
        exact g_zretP hx hb0 hr hH hlocks dX8_isBar_27 h
      · refine lv_iload_n hx hb0 dX8_isBar_16 rfl (lv_at hl 1 rfl) ?_
        refine lv_bipush (v := gI (60 : Int)) hx hb0 dX8_isBar_17 (by decide) ?_
        refine g_icmp_gt (tgt := 26) hx hb0 dX8_isBar_19 (by decide) h (fun h => ?_) (fun h => ?_)
        · refine lv_iconst (v := gI (0 : Int)) hx hb0 dX8_isBar_26 (by decide) ?_
          exact g_zretP hx hb0 hr hH hlocks dX8_isBar_27 h
        · refine lv_iconst (v := gI (1 : Int)) hx hb0 dX8_isBar_22 (by decide) ?_
          refine lv_goto (tgt := 27) hx hb0 dX8_isBar_23 (by decide) ?_
          exact g_zretP hx hb0 hr hH hlocks dX8_isBar_27 h
def DX5_putBar (b : Nat) (σ : gSt) (a1 : Int) (a2 : Int) (a3 : Int) : Option (gSt) :=
  (DX4_put (b + 5) 24 σ a1 a2).bind fun q6 => (DX4_put (b + 7) 24 q6 a1 a3).bind fun q15 => some q15
set_option maxHeartbeats 4000000 in
set_option maxRecDepth 100000 in
theorem metX5_putBar (l : Launch) (D : va_G) (G : gAd) (b : Nat) (hb : gPlan b) (σ : gSt) (μ : gLg) (a1 : Int) (a2 : Int) (a3 : Int) (σ' : gSt) (h : DX5_putBar b σ a1 a2 a3 = some σ') : Met l yX5_putBar (gWs yX5_putBar cX5_putBar 4 none) ({ frames := 1, cells := 0, slots := 0, locals := 22 } : Room) (gPc D G [.ref (G.1 b), .int (gI a1), .int (gI a2), .int (gI a3)] σ μ) (gQv D G σ' μ) 0 0 (gA G) := by
  refine Met.ofW (cc := cX5_putBar) (maxL := 4) (ret := none) (by decide) rfl ?_
  intro p e s m args below meth c s₁ B hml hv
  obtain ⟨rfl, hP, hX⟩ := hv
  have hx := B.exec
  have hb0 := B.bytes
  have hr := B.returns
  have hts0 := atoms_spec (ws := (gWs yX5_putBar cX5_putBar 4 none)) B.pre
  have hts : ∀ w ∈ gLW, w.before _ s = true := fun w hw => hts0 w (List.mem_cons_of_mem _ hw)
  have hown : s.vm.findClass RX5 = some m.cls := findClass_of_methodNamed B.named
  have hlocks := B.notSynchronized
  have hH : gH D G s s.heap [] σ μ := ⟨hP, va_S.rf⟩
  have hl := lv_entry ([.ref (G.1 b), .int (gI a1), .int (gI a2), .int (gI a3)]) (n := 4) (Nat.le_of_ble_eq_true rfl)
  rw [lg_entry_eq]
  generalize (lg_sl ([.ref (G.1 b), .int (gI a1), .int (gI a2), .int (gI a3)]) ++ List.replicate (4 - (lg_sl ([.ref (G.1 b), .int (gI a1), .int (gI a2), .int (gI a3)])).length) Slot.unset).toArray = ls at hl ⊢
  have hl : lv_has ls 4 [(0, .ref (G.1 b)), (1, .int (gI a1)), (2, .int (gI a2)), (3, .int (gI a3))] := hl
  unfold DX5_putBar at h
  refine lv_aload_n hx hb0 dX5_putBar_0 rfl (lv_at hl 0 rfl) ?_
  refine g_getR hx hb0 hts q_ws_X5 hown hX hH (C := RX5) (T := TX5) (N := 8) (k := b) (i := 2) (j := (b + 5)) hb.k rfl (by decide) (hts _ q_fl_X5_23) rfl rfl dX5_putBar_1 ?_
  refine lv_iload_n hx hb0 dX5_putBar_4 rfl (lv_at hl 1 rfl) ?_
  refine lv_iload_n hx hb0 dX5_putBar_5 rfl (lv_at hl 2 rfl) ?_
  obtain ⟨q6, e6, h⟩ := gBind_some h
  refine g_callVv (k := (b + 5)) (T := TX4) (N := 1) (As := [.int (gI a1), .int (gI a2)]) (rest := []) ⟨hx, hb0, hml, hown, hts⟩ (metX4_put l D G (b + 5) 24 (hb.n2) σ μ a1 a2 q6 e6) (g_cwV (C := RX4) 2 hts q_ml_X5_39 q_im_X4_put q_se_X4_put q_in_X4 q_co_X4_put ⟨rfl, rfl⟩ (by decide +kernel) ⟨Nat.le_of_ble_eq_true rfl, Nat.le_of_ble_eq_true rfl⟩) hX hH ((hb.n2)).1 rfl rfl hl.1 rfl (Nat.le_of_ble_eq_true rfl) dX5_putBar_6 ⟨Nat.zero_le _, Nat.zero_le _⟩ (fun H locs hH => ?_)
  refine lv_aload_n hx hb0 dX5_putBar_9 rfl (lv_at hl 0 rfl) ?_
  refine g_getR hx hb0 hts q_ws_X5 hown hX hH (C := RX5) (T := TX5) (N := 8) (k := b) (i := 3) (j := (b + 7)) hb.k rfl (by decide) (hts _ q_fl_X5_26) rfl rfl dX5_putBar_10 ?_
  refine lv_iload_n hx hb0 dX5_putBar_13 rfl (lv_at hl 1 rfl) ?_
  refine lv_iload_n hx hb0 dX5_putBar_14 rfl (lv_at hl 3 rfl) ?_
  obtain ⟨q15, e15, h⟩ := gBind_some h
  refine g_callVv (k := (b + 7)) (T := TX4) (N := 1) (As := [.int (gI a1), .int (gI a3)]) (rest := []) ⟨hx, hb0, hml, hown, hts⟩ (metX4_put l D G (b + 7) 24 (hb.n3) q6 μ a1 a3 q15 e15) (g_cwV (C := RX4) 2 hts q_ml_X5_39 q_im_X4_put q_se_X4_put q_in_X4 q_co_X4_put ⟨rfl, rfl⟩ (by decide +kernel) ⟨Nat.le_of_ble_eq_true rfl, Nat.le_of_ble_eq_true rfl⟩) hX hH ((hb.n3)).1 rfl rfl hl.1 rfl (Nat.le_of_ble_eq_true rfl) dX5_putBar_15 ⟨Nat.zero_le _, Nat.zero_le _⟩ (fun H locs hH => ?_)
  exact g_vretS hx hb0 hr hH hlocks dX5_putBar_18 h
def DX5_tellTask (b : Nat) (σ : gSt) (a1 : Int) (a2 : Int) (a3 : Int) : Option (Int × gSt) :=
  gIf ((σ b 6) < (24 : Int)) (σ b 6) (24 : Int) ((DX4_put (b + 3) 24 σ (σ b 6) a1).bind fun q20 => (DX5_putBar b q20 (q20 b 6) a2 a3).bind fun q30 => some ((((gUp q30 b 6 ((q30 b 6) + (1 : Int))) b 6) - (1 : Int)), (gUp q30 b 6 ((q30 b 6) + (1 : Int))))) (some ((-1 : Int), σ))
set_option maxHeartbeats 4000000 in
set_option maxRecDepth 100000 in
theorem metX5_tellTask (l : Launch) (D : va_G) (G : gAd) (b : Nat) (hb : gPlan b) (σ : gSt) (μ : gLg) (a1 : Int) (a2 : Int) (a3 : Int) (r : Int) (σ' : gSt) (h : DX5_tellTask b σ a1 a2 a3 = some (r, σ')) : Met l yX5_tellTask (gWs yX5_tellTask cX5_tellTask 4 (some (Jvm.ClassFile.FieldType.int))) ({ frames := 2, cells := 0, slots := 0, locals := 45 } : Room) (gPc D G [.ref (G.1 b), .int (gI a1), .int (gI a2), .int (gI a3)] σ μ) (gQi D G r σ' μ) 0 0 (gA G) := by
  refine Met.ofW (cc := cX5_tellTask) (maxL := 4) (ret := (some (Jvm.ClassFile.FieldType.int))) (by decide) rfl ?_
  intro p e s m args below meth c s₁ B hml hv
  obtain ⟨rfl, hP, hX⟩ := hv
  have hx := B.exec
  have hb0 := B.bytes
  have hr := B.returns
  have hts0 := atoms_spec (ws := (gWs yX5_tellTask cX5_tellTask 4 (some (Jvm.ClassFile.FieldType.int)))) B.pre
  have hts : ∀ w ∈ gLW, w.before _ s = true := fun w hw => hts0 w (List.mem_cons_of_mem _ hw)
  have hown : s.vm.findClass RX5 = some m.cls := findClass_of_methodNamed B.named
  have hlocks := B.notSynchronized
  have hH : gH D G s s.heap [] σ μ := ⟨hP, va_S.rf⟩
  have hl := lv_entry ([.ref (G.1 b), .int (gI a1), .int (gI a2), .int (gI a3)]) (n := 4) (Nat.le_of_ble_eq_true rfl)
  rw [lg_entry_eq]
  generalize (lg_sl ([.ref (G.1 b), .int (gI a1), .int (gI a2), .int (gI a3)]) ++ List.replicate (4 - (lg_sl ([.ref (G.1 b), .int (gI a1), .int (gI a2), .int (gI a3)])).length) Slot.unset).toArray = ls at hl ⊢
  have hl : lv_has ls 4 [(0, .ref (G.1 b)), (1, .int (gI a1)), (2, .int (gI a2)), (3, .int (gI a3))] := hl
  unfold DX5_tellTask at h
  refine lv_aload_n hx hb0 dX5_tellTask_0 rfl (lv_at hl 0 rfl) ?_
  refine g_getI hx hb0 hts q_ws_X5 hown hX hH (C := RX5) (T := TX5) (N := 8) (k := b) (i := 6) hb.k rfl (by decide) (hts _ q_fl_X5_47) rfl rfl dX5_tellTask_1 ?_
  refine lv_bipush (v := gI (24 : Int)) hx hb0 dX5_tellTask_4 (by decide) ?_
  refine g_icmp_lt (tgt := 11) hx hb0 dX5_tellTask_6 (by decide) h (fun h => ?_) (fun h => ?_)
  · refine lv_aload_n hx hb0 dX5_tellTask_11 rfl (lv_at hl 0 rfl) ?_
    refine g_getR hx hb0 hts q_ws_X5 hown hX hH (C := RX5) (T := TX5) (N := 8) (k := b) (i := 1) (j := (b + 3)) hb.k rfl (by decide) (hts _ q_fl_X5_20) rfl rfl dX5_tellTask_12 ?_
    refine lv_aload_n hx hb0 dX5_tellTask_15 rfl (lv_at hl 0 rfl) ?_
    refine g_getI hx hb0 hts q_ws_X5 hown hX hH (C := RX5) (T := TX5) (N := 8) (k := b) (i := 6) hb.k rfl (by decide) (hts _ q_fl_X5_47) rfl rfl dX5_tellTask_16 ?_
    refine lv_iload_n hx hb0 dX5_tellTask_19 rfl (lv_at hl 1 rfl) ?_
    obtain ⟨q20, e20, h⟩ := gBind_some h
    refine g_callVv (k := (b + 3)) (T := TX4) (N := 1) (As := [.int (gI (σ b 6)), .int (gI a1)]) (rest := []) ⟨hx, hb0, hml, hown, hts⟩ (metX4_put l D G (b + 3) 24 (hb.n1) σ μ (σ b 6) a1 q20 e20) (g_cwV (C := RX4) 2 hts q_ml_X5_39 q_im_X4_put q_se_X4_put q_in_X4 q_co_X4_put ⟨rfl, rfl⟩ (by decide +kernel) ⟨Nat.le_of_ble_eq_true rfl, Nat.le_of_ble_eq_true rfl⟩) hX hH ((hb.n1)).1 rfl rfl hl.1 rfl (Nat.le_of_ble_eq_true rfl) dX5_tellTask_20 ⟨Nat.zero_le _, Nat.zero_le _⟩ (fun H locs hH => ?_)
    refine lv_aload_n hx hb0 dX5_tellTask_23 rfl (lv_at hl 0 rfl) ?_
    refine lv_aload_n hx hb0 dX5_tellTask_24 rfl (lv_at hl 0 rfl) ?_
    refine g_getI hx hb0 hts q_ws_X5 hown hX hH (C := RX5) (T := TX5) (N := 8) (k := b) (i := 6) hb.k rfl (by decide) (hts _ q_fl_X5_47) rfl rfl dX5_tellTask_25 ?_
    refine lv_iload_n hx hb0 dX5_tellTask_28 rfl (lv_at hl 2 rfl) ?_
    refine lv_iload_n hx hb0 dX5_tellTask_29 rfl (lv_at hl 3 rfl) ?_
    obtain ⟨q30, e30, h⟩ := gBind_some h
    refine g_callVv (k := b) (T := TX5) (N := 8) (As := [.int (gI (q20 b 6)), .int (gI a2), .int (gI a3)]) (rest := []) ⟨hx, hb0, hml, hown, hts⟩ (metX5_putBar l D G b hb q20 μ (q20 b 6) a2 a3 q30 e30) (g_cwV (C := RX5) 3 hts q_ml_X5_73 q_im_X5_putBar q_se_X5_putBar q_in_X5 q_co_X5_putBar ⟨rfl, rfl⟩ (by decide +kernel) ⟨Nat.le_of_ble_eq_true rfl, Nat.le_of_ble_eq_true rfl⟩) hX hH hb.k rfl rfl hl.1 rfl (Nat.le_of_ble_eq_true rfl) dX5_tellTask_30 ⟨Nat.zero_le _, Nat.zero_le _⟩ (fun H locs hH => ?_)
    refine lv_aload_n hx hb0 dX5_tellTask_33 rfl (lv_at hl 0 rfl) ?_
    refine lv_dup hx hb0 dX5_tellTask_34 rfl ?_
    refine g_getI hx hb0 hts q_ws_X5 hown hX hH (C := RX5) (T := TX5) (N := 8) (k := b) (i := 6) hb.k rfl (by decide) (hts _ q_fl_X5_47) rfl rfl dX5_tellTask_35 ?_
    refine lv_iconst (v := gI (1 : Int)) hx hb0 dX5_tellTask_38 (by decide) ?_
    refine g_iadd hx hb0 dX5_tellTask_39 ?_
    refine g_putI hx hb0 hts q_ws_X5 tyX5 tyX5_ok nmX5 hown hX hH (C := RX5) (T := TX5) (N := 8) (k := b) (i := 6) hb.k rfl (by decide) (hts _ q_fl_X5_47) rfl rfl rfl rfl dX5_tellTask_40 (fun H locs hH => ?_)
    refine lv_aload_n hx hb0 dX5_tellTask_43 rfl (lv_at hl 0 rfl) ?_
    refine g_getI hx hb0 hts q_ws_X5 hown hX hH (C := RX5) (T := TX5) (N := 8) (k := b) (i := 6) hb.k rfl (by decide) (hts _ q_fl_X5_47) rfl rfl dX5_tellTask_44 ?_
    refine lv_iconst (v := gI (1 : Int)) hx hb0 dX5_tellTask_47 (by decide) ?_
    refine g_isub hx hb0 dX5_tellTask_48 ?_
    exact g_iretS hx hb0 hr hH hlocks dX5_tellTask_49 h
  · refine lv_iconst (v := gI (-1 : Int)) hx hb0 dX5_tellTask_9 (by decide) ?_
    exact g_iretS hx hb0 hr hH hlocks dX5_tellTask_10 h
def DX5_hasTask (b : Nat) (σ : gSt) (a1 : Int) : Option (Int) :=
  gIf (a1 < (0 : Int)) a1 (0 : Int) (gBo (0 : Int) (some (0 : Int))) (gIf (a1 < (σ b 6)) a1 (σ b 6) (gBo (1 : Int) (some (1 : Int))) (gBo (0 : Int) (some (0 : Int))))
set_option maxHeartbeats 4000000 in
set_option maxRecDepth 100000 in
theorem metX5_hasTask (l : Launch) (D : va_G) (G : gAd) (b : Nat) (hb : gPlan b) (σ : gSt) (μ : gLg) (a1 : Int) (r : Int) (h : DX5_hasTask b σ a1 = some r) : Met l yX5_hasTask (gWs yX5_hasTask cX5_hasTask 2 (some (Jvm.ClassFile.FieldType.boolean))) ({ frames := 0, cells := 0, slots := 0, locals := 0 } : Room) (gPc D G [.ref (G.1 b), .int (gI a1)] σ μ) (gQi D G r σ μ) 0 0 (gA G) := by
  refine Met.ofW (cc := cX5_hasTask) (maxL := 2) (ret := (some (Jvm.ClassFile.FieldType.boolean))) (by decide) rfl ?_
  intro p e s m args below meth c s₁ B hml hv
  obtain ⟨rfl, hP, hX⟩ := hv
  have hx := B.exec
  have hb0 := B.bytes
  have hr := B.returns
  have hts0 := atoms_spec (ws := (gWs yX5_hasTask cX5_hasTask 2 (some (Jvm.ClassFile.FieldType.boolean)))) B.pre
  have hts : ∀ w ∈ gLW, w.before _ s = true := fun w hw => hts0 w (List.mem_cons_of_mem _ hw)
  have hown : s.vm.findClass RX5 = some m.cls := findClass_of_methodNamed B.named
  have hlocks := B.notSynchronized
  have hH : gH D G s s.heap [] σ μ := ⟨hP, va_S.rf⟩
  have hl := lv_entry ([.ref (G.1 b), .int (gI a1)]) (n := 2) (Nat.le_of_ble_eq_true rfl)
  rw [lg_entry_eq]
  generalize (lg_sl ([.ref (G.1 b), .int (gI a1)]) ++ List.replicate (2 - (lg_sl ([.ref (G.1 b), .int (gI a1)])).length) Slot.unset).toArray = ls at hl ⊢
  have hl : lv_has ls 2 [(0, .ref (G.1 b)), (1, .int (gI a1))] := hl
  unfold DX5_hasTask at h
  refine lv_iload_n hx hb0 dX5_hasTask_0 rfl (lv_at hl 1 rfl) ?_
  refine g_if_lt (tgt := 16) hx hb0 dX5_hasTask_1 (by decide) h (fun h => ?_) (fun h => ?_)
  · refine lv_iconst (v := gI (0 : Int)) hx hb0 dX5_hasTask_16 (by decide) ?_
    exact g_zretP hx hb0 hr hH hlocks dX5_hasTask_17 h
  · refine lv_iload_n hx hb0 dX5_hasTask_4 rfl (lv_at hl 1 rfl) ?_
    refine lv_aload_n hx hb0 dX5_hasTask_5 rfl (lv_at hl 0 rfl) ?_
    refine g_getI hx hb0 hts q_ws_X5 hown hX hH (C := RX5) (T := TX5) (N := 8) (k := b) (i := 6) hb.k rfl (by decide) (hts _ q_fl_X5_47) rfl rfl dX5_hasTask_6 ?_
    refine g_icmp_ge (tgt := 16) hx hb0 dX5_hasTask_9 (by decide) h (fun h => ?_) (fun h => ?_)
    · refine lv_iconst (v := gI (0 : Int)) hx hb0 dX5_hasTask_16 (by decide) ?_
      exact g_zretP hx hb0 hr hH hlocks dX5_hasTask_17 h
    · refine lv_iconst (v := gI (1 : Int)) hx hb0 dX5_hasTask_12 (by decide) ?_
      refine lv_goto (tgt := 17) hx hb0 dX5_hasTask_13 (by decide) ?_
      exact g_zretP hx hb0 hr hH hlocks dX5_hasTask_17 h
def DX4_closeGap_L2 (n : Nat) (len : Nat) : Nat → Int → gSt → Option (gSt)
  | 0, _, _ => none
  | f2 + 1, x2_2, σ2 => gIf (x2_2 < (0 : Int)) x2_2 (0 : Int) (some σ2) (gIf (x2_2 < (((len : Nat) : Int) - (1 : Int))) x2_2 (((len : Nat) : Int) - (1 : Int)) (gAt (x2_2 + (1 : Int)) len (gAt x2_2 len (((DX4_closeGap_L2 n len f2) (x2_2 + (1 : Int)) (gUp σ2 (n + 1) (Int.toNat x2_2) (σ2 (n + 1) (Int.toNat (x2_2 + (1 : Int))))))))) (some σ2))
def DX4_closeGap (n : Nat) (len : Nat) (σ : gSt) (a1 : Int) : Option (gSt) :=
  (DX4_closeGap_L2 n len gFuel a1 σ)
set_option maxHeartbeats 4000000 in
set_option maxRecDepth 100000 in
theorem metX4_closeGap (l : Launch) (D : va_G) (G : gAd) (n : Nat) (len : Nat) (hk : gNum n len) (σ : gSt) (μ : gLg) (a1 : Int) (σ' : gSt) (h : DX4_closeGap n len σ a1 = some σ') : Met l yX4_closeGap (gWs yX4_closeGap cX4_closeGap 3 none) ({ frames := 0, cells := 0, slots := 0, locals := 0 } : Room) (gPc D G [.ref (G.1 n), .int (gI a1)] σ μ) (gQv D G σ' μ) 0 0 (gA G) := by
  refine Met.ofW (cc := cX4_closeGap) (maxL := 3) (ret := none) (by decide) rfl ?_
  intro p e s m args below meth c s₁ B hml hv
  obtain ⟨rfl, hP, hX⟩ := hv
  have hx := B.exec
  have hb0 := B.bytes
  have hr := B.returns
  have hts0 := atoms_spec (ws := (gWs yX4_closeGap cX4_closeGap 3 none)) B.pre
  have hts : ∀ w ∈ gLW, w.before _ s = true := fun w hw => hts0 w (List.mem_cons_of_mem _ hw)
  have hown : s.vm.findClass RX4 = some m.cls := findClass_of_methodNamed B.named
  have hlocks := B.notSynchronized
  have hH : gH D G s s.heap [] σ μ := ⟨hP, va_S.rf⟩
  have hl := lv_entry ([.ref (G.1 n), .int (gI a1)]) (n := 3) (Nat.le_of_ble_eq_true rfl)
  rw [lg_entry_eq]
  generalize (lg_sl ([.ref (G.1 n), .int (gI a1)]) ++ List.replicate (3 - (lg_sl ([.ref (G.1 n), .int (gI a1)])).length) Slot.unset).toArray = ls at hl ⊢
  have hl : lv_has ls 3 [(0, .ref (G.1 n)), (1, .int (gI a1))] := hl
  unfold DX4_closeGap at h
  refine lv_iload_n hx hb0 dX4_closeGap_0 rfl (lv_at hl 1 rfl) ?_
  refine lv_istore_n (lv' := [(2, .int (gI a1)), (0, .ref (G.1 n)), (1, .int (gI a1))]) hx hb0 dX4_closeGap_1 rfl hl (by decide) rfl (fun ls hl => ?_)
  have hL2 : ∀ (f2 : Nat) (x2_2 : Int) (σ2 : gSt) (H : Heap) (locs : List Loc) (ls : Array Slot), gH D G s H locs σ2 μ → lv_has ls 3 [(2, .int (gI x2_2)), (0, .ref (G.1 n))] → (DX4_closeGap_L2 n len f2 x2_2 σ2) = some σ' → W p l e (headSpec (gWs yX4_closeGap cX4_closeGap 3 none) ({ frames := 0, cells := 0, slots := 0, locals := 0 } : Room)).room s m ([.ref (G.1 n), .int (gI a1)] : List Value).toArray below meth c H locs 0 0 (MQ below (gQv D G σ' μ) ([.ref (G.1 n), .int (gI a1)] : List Value).toArray s 0 0 (gA G)) (F0 m 2 ls []) := by
    intro f2
    induction f2 with
    | zero => intro x2_2 σ2 H locs ls hH hl h; cases h
    | succ f2 ih2 =>
      intro x2_2 σ2 H locs ls hH hl h
      unfold DX4_closeGap_L2 at h
      refine lv_iload_n hx hb0 dX4_closeGap_2 rfl (lv_at hl 0 rfl) ?_
      refine g_if_lt (tgt := 37) hx hb0 dX4_closeGap_3 (by decide) h (fun h => ?_) (fun h => ?_)
      · exact g_vretS hx hb0 hr hH hlocks dX4_closeGap_37 h
      · refine lv_iload_n hx hb0 dX4_closeGap_6 rfl (lv_at hl 0 rfl) ?_
        refine lv_aload_n hx hb0 dX4_closeGap_7 rfl (lv_at hl 1 rfl) ?_
        refine g_getR hx hb0 hts q_ws_X4 hown hX hH (C := RX4) (T := TX4) (N := 1) (k := n) (i := 0) (j := (n + 1)) (hk).1 rfl (by decide) (hts _ q_fl_X4_9) rfl rfl dX4_closeGap_8 ?_
        refine g_alen hx hb0 hX hH (k := (n + 1)) (hk).2.1 dX4_closeGap_11 ?_
        refine lv_iconst (v := gI (1 : Int)) hx hb0 dX4_closeGap_12 (by decide) ?_
        refine g_isub hx hb0 dX4_closeGap_13 ?_
        refine g_icmp_ge (tgt := 37) hx hb0 dX4_closeGap_14 (by decide) h (fun h => ?_) (fun h => ?_)
        · exact g_vretS hx hb0 hr hH hlocks dX4_closeGap_37 h
        · refine lv_aload_n hx hb0 dX4_closeGap_17 rfl (lv_at hl 1 rfl) ?_
          refine g_getR hx hb0 hts q_ws_X4 hown hX hH (C := RX4) (T := TX4) (N := 1) (k := n) (i := 0) (j := (n + 1)) (hk).1 rfl (by decide) (hts _ q_fl_X4_9) rfl rfl dX4_closeGap_18 ?_
          refine lv_iload_n hx hb0 dX4_closeGap_21 rfl (lv_at hl 0 rfl) ?_
          refine lv_aload_n hx hb0 dX4_closeGap_22 rfl (lv_at hl 1 rfl) ?_
          refine g_getR hx hb0 hts q_ws_X4 hown hX hH (C := RX4) (T := TX4) (N := 1) (k := n) (i := 0) (j := (n + 1)) (hk).1 rfl (by decide) (hts _ q_fl_X4_9) rfl rfl dX4_closeGap_23 ?_
          refine lv_iload_n hx hb0 dX4_closeGap_26 rfl (lv_at hl 0 rfl) ?_
          refine lv_iconst (v := gI (1 : Int)) hx hb0 dX4_closeGap_27 (by decide) ?_
          refine g_iadd hx hb0 dX4_closeGap_28 ?_
          refine g_iald hx hb0 hX hH (k := (n + 1)) (hk).2.1 (Nat.le_trans (hk).2.2 (by decide)) dX4_closeGap_29 h (fun h => ?_)
          refine g_iast hx hb0 hX hH (k := (n + 1)) (hk).2.1 (Nat.le_trans (hk).2.2 (by decide)) dX4_closeGap_30 h (fun h H locs hH => ?_)
          refine g_iinc (k := 0) (n := (1 : Int)) (lv' := [(2, .int (gI (x2_2 + (1 : Int)))), (0, .ref (G.1 n))]) hx hb0 dX4_closeGap_31 hl rfl (by decide) rfl (fun ls hl => ?_)
          refine lv_goto (tgt := 2) hx hb0 dX4_closeGap_34 (by decide) ?_
          exact ih2 _ _ _ _ _ hH (lv_sub hl [0, 1] rfl) h
  exact hL2 gFuel _ _ _ _ _ hH (lv_sub hl [0, 1] rfl) h
def DX5_dropArrowsOf_K93 (b : Nat) (x2_93 : Int) (σ93 : gSt) : Option (Int × gSt) :=
  some (((σ93 b 7) - x2_93), (gUp σ93 b 7 x2_93))
def DX5_dropArrowsOf_J87 (R4 : Int → Int → gSt → Option (Int × gSt)) (x3_4 : Int) (x2_87 : Int) (σ87 : gSt) : Option (Int × gSt) :=
  (R4 (x3_4 + (1 : Int)) x2_87 σ87)
def DX5_dropArrowsOf_J81 (b : Nat) (R4 : Int → Int → gSt → Option (Int × gSt)) (x3_4 : Int) (x2_4 : Int) (q58 : gSt) (t0_81 : Int) : Option (Int × gSt) :=
  (DX4_put (b + 11) 30 q58 x2_4 t0_81).bind fun q81 => (DX5_dropArrowsOf_J87 R4 x3_4 (x2_4 + (1 : Int)) q81)
def DX5_dropArrowsOf_J58 (b : Nat) (a1 : Int) (R4 : Int → Int → gSt → Option (Int × gSt)) (x3_4 : Int) (x2_4 : Int) (σ4 : gSt) (q21 : Int) (t0_58 : Int) : Option (Int × gSt) :=
  (DX4_put (b + 9) 30 σ4 x2_4 t0_58).bind fun q58 => gIf (a1 < q21) q21 a1 ((DX5_dropArrowsOf_J81 b R4 x3_4 x2_4 q58 (q21 - (1 : Int)))) ((DX5_dropArrowsOf_J81 b R4 x3_4 x2_4 q58 q21))
def DX5_dropArrowsOf_L4 (K93 : Int → gSt → Option (Int × gSt)) (b : Nat) (a1 : Int) : Nat → Int → Int → gSt → Option (Int × gSt)
  | 0, _, _, _ => none
  | f4 + 1, x3_4, x2_4, σ4 => gIf (x3_4 < (σ4 b 7)) x3_4 (σ4 b 7) ((DX5_from b σ4 x3_4).bind fun q14 => (DX5_to b σ4 x3_4).bind fun q21 => gIf (q14 = a1) q14 a1 ((DX5_dropArrowsOf_J87 (DX5_dropArrowsOf_L4 K93 b a1 f4) x3_4 x2_4 σ4)) (gIf (q21 = a1) q21 a1 ((DX5_dropArrowsOf_J87 (DX5_dropArrowsOf_L4 K93 b a1 f4) x3_4 x2_4 σ4)) (gIf (a1 < q14) q14 a1 ((DX5_dropArrowsOf_J58 b a1 (DX5_dropArrowsOf_L4 K93 b a1 f4) x3_4 x2_4 σ4 q21 (q14 - (1 : Int)))) ((DX5_dropArrowsOf_J58 b a1 (DX5_dropArrowsOf_L4 K93 b a1 f4) x3_4 x2_4 σ4 q21 q14))))) ((K93 x2_4 σ4))
def DX5_dropArrowsOf (b : Nat) (σ : gSt) (a1 : Int) : Option (Int × gSt) :=
  (DX5_dropArrowsOf_L4 (DX5_dropArrowsOf_K93 b) b a1 gFuel (0 : Int) (0 : Int) σ)
set_option maxHeartbeats 4000000 in
set_option maxRecDepth 100000 in
theorem metX5_dropArrowsOf (l : Launch) (D : va_G) (G : gAd) (b : Nat) (hb : gPlan b) (σ : gSt) (μ : gLg) (a1 : Int) (r : Int) (σ' : gSt) (h : DX5_dropArrowsOf b σ a1 = some (r, σ')) : Met l yX5_dropArrowsOf (gWs yX5_dropArrowsOf cX5_dropArrowsOf 6 (some (Jvm.ClassFile.FieldType.int))) ({ frames := 2, cells := 0, slots := 0, locals := 42 } : Room) (gPc D G [.ref (G.1 b), .int (gI a1)] σ μ) (gQi D G r σ' μ) 0 0 (gA G) := by
  refine Met.ofW (cc := cX5_dropArrowsOf) (maxL := 6) (ret := (some (Jvm.ClassFile.FieldType.int))) (by decide) rfl ?_
  intro p e s m args below meth c s₁ B hml hv
  obtain ⟨rfl, hP, hX⟩ := hv
  have hx := B.exec
  have hb0 := B.bytes
  have hr := B.returns
  have hts0 := atoms_spec (ws := (gWs yX5_dropArrowsOf cX5_dropArrowsOf 6 (some (Jvm.ClassFile.FieldType.int)))) B.pre
  have hts : ∀ w ∈ gLW, w.before _ s = true := fun w hw => hts0 w (List.mem_cons_of_mem _ hw)
  have hown : s.vm.findClass RX5 = some m.cls := findClass_of_methodNamed B.named
  have hlocks := B.notSynchronized
  have hH : gH D G s s.heap [] σ μ := ⟨hP, va_S.rf⟩
  have hl := lv_entry ([.ref (G.1 b), .int (gI a1)]) (n := 6) (Nat.le_of_ble_eq_true rfl)
  rw [lg_entry_eq]
  generalize (lg_sl ([.ref (G.1 b), .int (gI a1)]) ++ List.replicate (6 - (lg_sl ([.ref (G.1 b), .int (gI a1)])).length) Slot.unset).toArray = ls at hl ⊢
  have hl : lv_has ls 6 [(0, .ref (G.1 b)), (1, .int (gI a1))] := hl
  unfold DX5_dropArrowsOf at h
  refine lv_iconst (v := gI (0 : Int)) hx hb0 dX5_dropArrowsOf_0 (by decide) ?_
  refine lv_istore_n (lv' := [(2, .int (gI (0 : Int))), (0, .ref (G.1 b)), (1, .int (gI a1))]) hx hb0 dX5_dropArrowsOf_1 rfl hl (by decide) rfl (fun ls hl => ?_)
  refine lv_iconst (v := gI (0 : Int)) hx hb0 dX5_dropArrowsOf_2 (by decide) ?_
  refine lv_istore_n (lv' := [(3, .int (gI (0 : Int))), (2, .int (gI (0 : Int))), (0, .ref (G.1 b)), (1, .int (gI a1))]) hx hb0 dX5_dropArrowsOf_3 rfl hl (by decide) rfl (fun ls hl => ?_)
  have hK93 : ∀ (x2_93 : Int) (σ93 : gSt) (H : Heap) (locs : List Loc) (ls : Array Slot), gH D G s H locs σ93 μ → lv_has ls 6 [(2, .int (gI x2_93)), (0, .ref (G.1 b))] → (DX5_dropArrowsOf_K93 b x2_93 σ93) = some (r, σ') → W p l e (headSpec (gWs yX5_dropArrowsOf cX5_dropArrowsOf 6 (some (Jvm.ClassFile.FieldType.int))) ({ frames := 2, cells := 0, slots := 0, locals := 42 } : Room)).room s m ([.ref (G.1 b), .int (gI a1)] : List Value).toArray below meth c H locs 0 0 (MQ below (gQi D G r σ' μ) ([.ref (G.1 b), .int (gI a1)] : List Value).toArray s 0 0 (gA G)) (F0 m 93 ls []) := by
    intro x2_93 σ93 H locs ls hH hl h
    unfold DX5_dropArrowsOf_K93 at h
    refine lv_aload_n hx hb0 dX5_dropArrowsOf_93 rfl (lv_at hl 1 rfl) ?_
    refine g_getI hx hb0 hts q_ws_X5 hown hX hH (C := RX5) (T := TX5) (N := 8) (k := b) (i := 7) hb.k rfl (by decide) (hts _ q_fl_X5_51) rfl rfl dX5_dropArrowsOf_94 ?_
    refine lv_iload_n hx hb0 dX5_dropArrowsOf_97 rfl (lv_at hl 0 rfl) ?_
    refine g_isub hx hb0 dX5_dropArrowsOf_98 ?_
    refine lv_istore_n (lv' := [(3, .int (gI ((σ93 b 7) - x2_93))), (2, .int (gI x2_93)), (0, .ref (G.1 b))]) hx hb0 dX5_dropArrowsOf_99 rfl hl (by decide) rfl (fun ls hl => ?_)
    refine lv_aload_n hx hb0 dX5_dropArrowsOf_100 rfl (lv_at hl 2 rfl) ?_
    refine lv_iload_n hx hb0 dX5_dropArrowsOf_101 rfl (lv_at hl 1 rfl) ?_
    refine g_putI hx hb0 hts q_ws_X5 tyX5 tyX5_ok nmX5 hown hX hH (C := RX5) (T := TX5) (N := 8) (k := b) (i := 7) hb.k rfl (by decide) (hts _ q_fl_X5_51) rfl rfl rfl rfl dX5_dropArrowsOf_102 (fun H locs hH => ?_)
    refine lv_iload_n hx hb0 dX5_dropArrowsOf_105 rfl (lv_at hl 0 rfl) ?_
    exact g_iretS hx hb0 hr hH hlocks dX5_dropArrowsOf_106 h
  have hL4 : ∀ (f4 : Nat) (x3_4 : Int) (x2_4 : Int) (σ4 : gSt) (H : Heap) (locs : List Loc) (ls : Array Slot), gH D G s H locs σ4 μ → lv_has ls 6 [(3, .int (gI x3_4)), (2, .int (gI x2_4)), (0, .ref (G.1 b)), (1, .int (gI a1))] → (DX5_dropArrowsOf_L4 (DX5_dropArrowsOf_K93 b) b a1 f4 x3_4 x2_4 σ4) = some (r, σ') → W p l e (headSpec (gWs yX5_dropArrowsOf cX5_dropArrowsOf 6 (some (Jvm.ClassFile.FieldType.int))) ({ frames := 2, cells := 0, slots := 0, locals := 42 } : Room)).room s m ([.ref (G.1 b), .int (gI a1)] : List Value).toArray below meth c H locs 0 0 (MQ below (gQi D G r σ' μ) ([.ref (G.1 b), .int (gI a1)] : List Value).toArray s 0 0 (gA G)) (F0 m 4 ls []) := by
    intro f4
    induction f4 with
    | zero => intro x3_4 x2_4 σ4 H locs ls hH hl h; cases h
    | succ f4 ih4 =>
      intro x3_4 x2_4 σ4 H locs ls hH hl h
      unfold DX5_dropArrowsOf_L4 at h
      refine lv_iload_n hx hb0 dX5_dropArrowsOf_4 rfl (lv_at hl 0 rfl) ?_
      refine lv_aload_n hx hb0 dX5_dropArrowsOf_5 rfl (lv_at hl 2 rfl) ?_
      refine g_getI hx hb0 hts q_ws_X5 hown hX hH (C := RX5) (T := TX5) (N := 8) (k := b) (i := 7) hb.k rfl (by decide) (hts _ q_fl_X5_51) rfl rfl dX5_dropArrowsOf_6 ?_
      refine g_icmp_ge (tgt := 93) hx hb0 dX5_dropArrowsOf_9 (by decide) h (fun h => ?_) (fun h => ?_)
      · exact hK93 _ _ _ _ _ hH (lv_sub hl [1, 2] rfl) h
      · refine lv_aload_n hx hb0 dX5_dropArrowsOf_12 rfl (lv_at hl 2 rfl) ?_
        refine lv_iload_n hx hb0 dX5_dropArrowsOf_13 rfl (lv_at hl 0 rfl) ?_
        obtain ⟨q14, e14, h⟩ := gBind_some h
        refine g_callVi (k := b) (T := TX5) (N := 8) (As := [.int (gI x3_4)]) (rest := []) ⟨hx, hb0, hml, hown, hts⟩ (metX5_from l D G b hb σ4 μ x3_4 q14 e14) (g_cwV (C := RX5) 1 hts q_ml_X5_60 q_im_X5_from q_se_X5_from q_in_X5 q_co_X5_from ⟨rfl, rfl⟩ (by decide +kernel) ⟨Nat.le_of_ble_eq_true rfl, Nat.le_of_ble_eq_true rfl⟩) hX hH hb.k rfl rfl hl.1 rfl (Nat.le_of_ble_eq_true rfl) dX5_dropArrowsOf_14 ⟨Nat.zero_le _, Nat.zero_le _⟩ (fun H locs hH => ?_)
        refine lv_istore (lv' := [(4, .int (gI q14)), (3, .int (gI x3_4)), (2, .int (gI x2_4)), (0, .ref (G.1 b)), (1, .int (gI a1))]) hx hb0 dX5_dropArrowsOf_17 hl (by decide) rfl (fun ls hl => ?_)
        refine lv_aload_n hx hb0 dX5_dropArrowsOf_19 rfl (lv_at hl 3 rfl) ?_
        refine lv_iload_n hx hb0 dX5_dropArrowsOf_20 rfl (lv_at hl 1 rfl) ?_
        obtain ⟨q21, e21, h⟩ := gBind_some h
        refine g_callVi (k := b) (T := TX5) (N := 8) (As := [.int (gI x3_4)]) (rest := []) ⟨hx, hb0, hml, hown, hts⟩ (metX5_to l D G b hb σ4 μ x3_4 q21 e21) (g_cwV (C := RX5) 1 hts q_ml_X5_54 q_im_X5_to q_se_X5_to q_in_X5 q_co_X5_to ⟨rfl, rfl⟩ (by decide +kernel) ⟨Nat.le_of_ble_eq_true rfl, Nat.le_of_ble_eq_true rfl⟩) hX hH hb.k rfl rfl hl.1 rfl (Nat.le_of_ble_eq_true rfl) dX5_dropArrowsOf_21 ⟨Nat.zero_le _, Nat.zero_le _⟩ (fun H locs hH => ?_)
        refine lv_istore (lv' := [(5, .int (gI q21)), (4, .int (gI q14)), (3, .int (gI x3_4)), (2, .int (gI x2_4)), (0, .ref (G.1 b)), (1, .int (gI a1))]) hx hb0 dX5_dropArrowsOf_24 hl (by decide) rfl (fun ls hl => ?_)
        refine lv_iload hx hb0 dX5_dropArrowsOf_26 (lv_at hl 1 rfl) ?_
        refine lv_iload_n hx hb0 dX5_dropArrowsOf_28 rfl (lv_at hl 5 rfl) ?_
        have hJ87 : ∀ (x2_87 : Int) (σ87 : gSt) (H : Heap) (locs : List Loc) (ls : Array Slot), gH D G s H locs σ87 μ → lv_has ls 6 [(3, .int (gI x3_4)), (2, .int (gI x2_87)), (0, .ref (G.1 b)), (1, .int (gI a1))] → (DX5_dropArrowsOf_J87 (DX5_dropArrowsOf_L4 (DX5_dropArrowsOf_K93 b) b a1 f4) x3_4 x2_87 σ87) = some (r, σ') → W p l e (headSpec (gWs yX5_dropArrowsOf cX5_dropArrowsOf 6 (some (Jvm.ClassFile.FieldType.int))) ({ frames := 2, cells := 0, slots := 0, locals := 42 } : Room)).room s m ([.ref (G.1 b), .int (gI a1)] : List Value).toArray below meth c H locs 0 0 (MQ below (gQi D G r σ' μ) ([.ref (G.1 b), .int (gI a1)] : List Value).toArray s 0 0 (gA G)) (F0 m 87 ls []) := by
          intro x2_87 σ87 H locs ls hH hl h
          unfold DX5_dropArrowsOf_J87 at h
          refine g_iinc (k := 0) (n := (1 : Int)) (lv' := [(3, .int (gI (x3_4 + (1 : Int)))), (2, .int (gI x2_87)), (0, .ref (G.1 b)), (1, .int (gI a1))]) hx hb0 dX5_dropArrowsOf_87 hl rfl (by decide) rfl (fun ls hl => ?_)
          refine lv_goto (tgt := 4) hx hb0 dX5_dropArrowsOf_90 (by decide) ?_
          exact ih4 _ _ _ _ _ _ hH (lv_sub hl [0, 1, 2, 3] rfl) h
        refine g_icmp_eq (tgt := 87) hx hb0 dX5_dropArrowsOf_29 (by decide) h (fun h => ?_) (fun h => ?_)
        · exact hJ87 _ _ _ _ _ hH (lv_sub hl [2, 3, 4, 5] rfl) h
        · refine lv_iload hx hb0 dX5_dropArrowsOf_32 (lv_at hl 0 rfl) ?_
          refine lv_iload_n hx hb0 dX5_dropArrowsOf_34 rfl (lv_at hl 5 rfl) ?_
          refine g_icmp_eq (tgt := 87) hx hb0 dX5_dropArrowsOf_35 (by decide) h (fun h => ?_) (fun h => ?_)
          · exact hJ87 _ _ _ _ _ hH (lv_sub hl [2, 3, 4, 5] rfl) h
          · refine lv_aload_n hx hb0 dX5_dropArrowsOf_38 rfl (lv_at hl 4 rfl) ?_
            refine g_getR hx hb0 hts q_ws_X5 hown hX hH (C := RX5) (T := TX5) (N := 8) (k := b) (i := 4) (j := (b + 9)) hb.k rfl (by decide) (hts _ q_fl_X5_29) rfl rfl dX5_dropArrowsOf_39 ?_
            refine lv_iload_n hx hb0 dX5_dropArrowsOf_42 rfl (lv_at hl 3 rfl) ?_
            refine lv_iload hx hb0 dX5_dropArrowsOf_43 (lv_at hl 1 rfl) ?_
            refine lv_iload_n hx hb0 dX5_dropArrowsOf_45 rfl (lv_at hl 5 rfl) ?_
            have hJ58 : ∀ (t0_58 : Int) (H : Heap) (locs : List Loc) (ls : Array Slot), gH D G s H locs σ4 μ → lv_has ls 6 [(5, .int (gI q21)), (3, .int (gI x3_4)), (2, .int (gI x2_4)), (0, .ref (G.1 b)), (1, .int (gI a1))] → (DX5_dropArrowsOf_J58 b a1 (DX5_dropArrowsOf_L4 (DX5_dropArrowsOf_K93 b) b a1 f4) x3_4 x2_4 σ4 q21 t0_58) = some (r, σ') → W p l e (headSpec (gWs yX5_dropArrowsOf cX5_dropArrowsOf 6 (some (Jvm.ClassFile.FieldType.int))) ({ frames := 2, cells := 0, slots := 0, locals := 42 } : Room)).room s m ([.ref (G.1 b), .int (gI a1)] : List Value).toArray below meth c H locs 0 0 (MQ below (gQi D G r σ' μ) ([.ref (G.1 b), .int (gI a1)] : List Value).toArray s 0 0 (gA G)) (F0 m 58 ls [.int (gI t0_58), .int (gI x2_4), .ref (G.1 (b + 9))]) := by
              intro t0_58 H locs ls hH hl h
              unfold DX5_dropArrowsOf_J58 at h
              obtain ⟨q58, e58, h⟩ := gBind_some h
              refine g_callVv (k := (b + 9)) (T := TX4) (N := 1) (As := [.int (gI x2_4), .int (gI t0_58)]) (rest := []) ⟨hx, hb0, hml, hown, hts⟩ (metX4_put l D G (b + 9) 30 (hb.n4) σ4 μ x2_4 t0_58 q58 e58) (g_cwV (C := RX4) 2 hts q_ml_X5_39 q_im_X4_put q_se_X4_put q_in_X4 q_co_X4_put ⟨rfl, rfl⟩ (by decide +kernel) ⟨Nat.le_of_ble_eq_true rfl, Nat.le_of_ble_eq_true rfl⟩) hX hH ((hb.n4)).1 rfl rfl hl.1 rfl (Nat.le_of_ble_eq_true rfl) dX5_dropArrowsOf_58 ⟨Nat.zero_le _, Nat.zero_le _⟩ (fun H locs hH => ?_)
              refine lv_aload_n hx hb0 dX5_dropArrowsOf_61 rfl (lv_at hl 3 rfl) ?_
              refine g_getR hx hb0 hts q_ws_X5 hown hX hH (C := RX5) (T := TX5) (N := 8) (k := b) (i := 5) (j := (b + 11)) hb.k rfl (by decide) (hts _ q_fl_X5_32) rfl rfl dX5_dropArrowsOf_62 ?_
              refine lv_iload_n hx hb0 dX5_dropArrowsOf_65 rfl (lv_at hl 2 rfl) ?_
              refine lv_iload hx hb0 dX5_dropArrowsOf_66 (lv_at hl 0 rfl) ?_
              refine lv_iload_n hx hb0 dX5_dropArrowsOf_68 rfl (lv_at hl 4 rfl) ?_
              have hJ81 : ∀ (t0_81 : Int) (H : Heap) (locs : List Loc) (ls : Array Slot), gH D G s H locs q58 μ → lv_has ls 6 [(3, .int (gI x3_4)), (2, .int (gI x2_4)), (0, .ref (G.1 b)), (1, .int (gI a1))] → (DX5_dropArrowsOf_J81 b (DX5_dropArrowsOf_L4 (DX5_dropArrowsOf_K93 b) b a1 f4) x3_4 x2_4 q58 t0_81) = some (r, σ') → W p l e (headSpec (gWs yX5_dropArrowsOf cX5_dropArrowsOf 6 (some (Jvm.ClassFile.FieldType.int))) ({ frames := 2, cells := 0, slots := 0, locals := 42 } : Room)).room s m ([.ref (G.1 b), .int (gI a1)] : List Value).toArray below meth c H locs 0 0 (MQ below (gQi D G r σ' μ) ([.ref (G.1 b), .int (gI a1)] : List Value).toArray s 0 0 (gA G)) (F0 m 81 ls [.int (gI t0_81), .int (gI x2_4), .ref (G.1 (b + 11))]) := by
                intro t0_81 H locs ls hH hl h
                unfold DX5_dropArrowsOf_J81 at h
                obtain ⟨q81, e81, h⟩ := gBind_some h
                refine g_callVv (k := (b + 11)) (T := TX4) (N := 1) (As := [.int (gI x2_4), .int (gI t0_81)]) (rest := []) ⟨hx, hb0, hml, hown, hts⟩ (metX4_put l D G (b + 11) 30 (hb.n5) q58 μ x2_4 t0_81 q81 e81) (g_cwV (C := RX4) 2 hts q_ml_X5_39 q_im_X4_put q_se_X4_put q_in_X4 q_co_X4_put ⟨rfl, rfl⟩ (by decide +kernel) ⟨Nat.le_of_ble_eq_true rfl, Nat.le_of_ble_eq_true rfl⟩) hX hH ((hb.n5)).1 rfl rfl hl.1 rfl (Nat.le_of_ble_eq_true rfl) dX5_dropArrowsOf_81 ⟨Nat.zero_le _, Nat.zero_le _⟩ (fun H locs hH => ?_)
                refine g_iinc (k := 1) (n := (1 : Int)) (lv' := [(2, .int (gI (x2_4 + (1 : Int)))), (3, .int (gI x3_4)), (0, .ref (G.1 b)), (1, .int (gI a1))]) hx hb0 dX5_dropArrowsOf_84 hl rfl (by decide) rfl (fun ls hl => ?_)
                exact hJ87 _ _ _ _ _ hH (lv_sub hl [1, 0, 2, 3] rfl) h
              refine g_icmp_le (tgt := 79) hx hb0 dX5_dropArrowsOf_69 (by decide) h (fun h => ?_) (fun h => ?_)
              · refine lv_iload hx hb0 dX5_dropArrowsOf_79 (lv_at hl 0 rfl) ?_
                exact hJ81 _ _ _ _ hH (lv_sub hl [1, 2, 3, 4] rfl) h
              · refine lv_iload hx hb0 dX5_dropArrowsOf_72 (lv_at hl 0 rfl) ?_
                refine lv_iconst (v := gI (1 : Int)) hx hb0 dX5_dropArrowsOf_74 (by decide) ?_
                refine g_isub hx hb0 dX5_dropArrowsOf_75 ?_
                refine lv_goto (tgt := 81) hx hb0 dX5_dropArrowsOf_76 (by decide) ?_
                exact hJ81 _ _ _ _ hH (lv_sub hl [1, 2, 3, 4] rfl) h
            refine g_icmp_le (tgt := 56) hx hb0 dX5_dropArrowsOf_46 (by decide) h (fun h => ?_) (fun h => ?_)
            · refine lv_iload hx hb0 dX5_dropArrowsOf_56 (lv_at hl 1 rfl) ?_
              exact hJ58 _ _ _ _ hH (lv_sub hl [0, 2, 3, 4, 5] rfl) h
            · refine lv_iload hx hb0 dX5_dropArrowsOf_49 (lv_at hl 1 rfl) ?_
              refine lv_iconst (v := gI (1 : Int)) hx hb0 dX5_dropArrowsOf_51 (by decide) ?_
              refine g_isub hx hb0 dX5_dropArrowsOf_52 ?_
              refine lv_goto (tgt := 58) hx hb0 dX5_dropArrowsOf_53 (by decide) ?_
              exact hJ58 _ _ _ _ hH (lv_sub hl [0, 2, 3, 4, 5] rfl) h
  exact hL4 gFuel _ _ _ _ _ _ hH (lv_sub hl [0, 1, 2, 3] rfl) h
def DX5_dropTask (b : Nat) (σ : gSt) (a1 : Int) : Option (Int × gSt) :=
  (DX5_hasTask b σ a1).bind fun q2 => gIf (q2 = (0 : Int)) q2 (0 : Int) (some ((0 : Int), σ)) ((DX4_closeGap (b + 3) 24 σ a1).bind fun q15 => (DX4_closeGap (b + 5) 24 q15 a1).bind fun q23 => (DX4_closeGap (b + 7) 24 q23 a1).bind fun q31 => (DX5_dropArrowsOf b (gUp q31 b 6 ((q31 b 6) - (1 : Int))) a1).bind fun q46 => some (q46.1, q46.2))
set_option maxHeartbeats 4000000 in
set_option maxRecDepth 100000 in
theorem metX5_dropTask (l : Launch) (D : va_G) (G : gAd) (b : Nat) (hb : gPlan b) (σ : gSt) (μ : gLg) (a1 : Int) (r : Int) (σ' : gSt) (h : DX5_dropTask b σ a1 = some (r, σ')) : Met l yX5_dropTask (gWs yX5_dropTask cX5_dropTask 2 (some (Jvm.ClassFile.FieldType.int))) ({ frames := 3, cells := 0, slots := 0, locals := 67 } : Room) (gPc D G [.ref (G.1 b), .int (gI a1)] σ μ) (gQi D G r σ' μ) 0 0 (gA G) := by
  refine Met.ofW (cc := cX5_dropTask) (maxL := 2) (ret := (some (Jvm.ClassFile.FieldType.int))) (by decide) rfl ?_
  intro p e s m args below meth c s₁ B hml hv
  obtain ⟨rfl, hP, hX⟩ := hv
  have hx := B.exec
  have hb0 := B.bytes
  have hr := B.returns
  have hts0 := atoms_spec (ws := (gWs yX5_dropTask cX5_dropTask 2 (some (Jvm.ClassFile.FieldType.int)))) B.pre
  have hts : ∀ w ∈ gLW, w.before _ s = true := fun w hw => hts0 w (List.mem_cons_of_mem _ hw)
  have hown : s.vm.findClass RX5 = some m.cls := findClass_of_methodNamed B.named
  have hlocks := B.notSynchronized
  have hH : gH D G s s.heap [] σ μ := ⟨hP, va_S.rf⟩
  have hl := lv_entry ([.ref (G.1 b), .int (gI a1)]) (n := 2) (Nat.le_of_ble_eq_true rfl)
  rw [lg_entry_eq]
  generalize (lg_sl ([.ref (G.1 b), .int (gI a1)]) ++ List.replicate (2 - (lg_sl ([.ref (G.1 b), .int (gI a1)])).length) Slot.unset).toArray = ls at hl ⊢
  have hl : lv_has ls 2 [(0, .ref (G.1 b)), (1, .int (gI a1))] := hl
  unfold DX5_dropTask at h
  refine lv_aload_n hx hb0 dX5_dropTask_0 rfl (lv_at hl 0 rfl) ?_
  refine lv_iload_n hx hb0 dX5_dropTask_1 rfl (lv_at hl 1 rfl) ?_
  obtain ⟨q2, e2, h⟩ := gBind_some h
  refine g_callVi (k := b) (T := TX5) (N := 8) (As := [.int (gI a1)]) (rest := []) ⟨hx, hb0, hml, hown, hts⟩ (metX5_hasTask l D G b hb σ μ a1 q2 e2) (g_cwV (C := RX5) 1 hts q_ml_X5_66 q_im_X5_hasTask q_se_X5_hasTask q_in_X5 q_co_X5_hasTask ⟨rfl, rfl⟩ (by decide +kernel) ⟨Nat.le_of_ble_eq_true rfl, Nat.le_of_ble_eq_true rfl⟩) hX hH hb.k rfl rfl hl.1 rfl (Nat.le_of_ble_eq_true rfl) dX5_dropTask_2 ⟨Nat.zero_le _, Nat.zero_le _⟩ (fun H locs hH => ?_)
  refine g_if_ne (tgt := 10) hx hb0 dX5_dropTask_5 (by decide) h (fun h => ?_) (fun h => ?_)
  · refine lv_aload_n hx hb0 dX5_dropTask_10 rfl (lv_at hl 0 rfl) ?_
    refine g_getR hx hb0 hts q_ws_X5 hown hX hH (C := RX5) (T := TX5) (N := 8) (k := b) (i := 1) (j := (b + 3)) hb.k rfl (by decide) (hts _ q_fl_X5_20) rfl rfl dX5_dropTask_11 ?_
    refine lv_iload_n hx hb0 dX5_dropTask_14 rfl (lv_at hl 1 rfl) ?_
    obtain ⟨q15, e15, h⟩ := gBind_some h
    refine g_callVv (k := (b + 3)) (T := TX4) (N := 1) (As := [.int (gI a1)]) (rest := []) ⟨hx, hb0, hml, hown, hts⟩ (metX4_closeGap l D G (b + 3) 24 (hb.n1) σ μ a1 q15 e15) (g_cwV (C := RX4) 1 hts q_ml_X5_80 q_im_X4_closeGap q_se_X4_closeGap q_in_X4 q_co_X4_closeGap ⟨rfl, rfl⟩ (by decide +kernel) ⟨Nat.le_of_ble_eq_true rfl, Nat.le_of_ble_eq_true rfl⟩) hX hH ((hb.n1)).1 rfl rfl hl.1 rfl (Nat.le_of_ble_eq_true rfl) dX5_dropTask_15 ⟨Nat.zero_le _, Nat.zero_le _⟩ (fun H locs hH => ?_)
    refine lv_aload_n hx hb0 dX5_dropTask_18 rfl (lv_at hl 0 rfl) ?_
    refine g_getR hx hb0 hts q_ws_X5 hown hX hH (C := RX5) (T := TX5) (N := 8) (k := b) (i := 2) (j := (b + 5)) hb.k rfl (by decide) (hts _ q_fl_X5_23) rfl rfl dX5_dropTask_19 ?_
    refine lv_iload_n hx hb0 dX5_dropTask_22 rfl (lv_at hl 1 rfl) ?_
    obtain ⟨q23, e23, h⟩ := gBind_some h
    refine g_callVv (k := (b + 5)) (T := TX4) (N := 1) (As := [.int (gI a1)]) (rest := []) ⟨hx, hb0, hml, hown, hts⟩ (metX4_closeGap l D G (b + 5) 24 (hb.n2) q15 μ a1 q23 e23) (g_cwV (C := RX4) 1 hts q_ml_X5_80 q_im_X4_closeGap q_se_X4_closeGap q_in_X4 q_co_X4_closeGap ⟨rfl, rfl⟩ (by decide +kernel) ⟨Nat.le_of_ble_eq_true rfl, Nat.le_of_ble_eq_true rfl⟩) hX hH ((hb.n2)).1 rfl rfl hl.1 rfl (Nat.le_of_ble_eq_true rfl) dX5_dropTask_23 ⟨Nat.zero_le _, Nat.zero_le _⟩ (fun H locs hH => ?_)
    refine lv_aload_n hx hb0 dX5_dropTask_26 rfl (lv_at hl 0 rfl) ?_
    refine g_getR hx hb0 hts q_ws_X5 hown hX hH (C := RX5) (T := TX5) (N := 8) (k := b) (i := 3) (j := (b + 7)) hb.k rfl (by decide) (hts _ q_fl_X5_26) rfl rfl dX5_dropTask_27 ?_
    refine lv_iload_n hx hb0 dX5_dropTask_30 rfl (lv_at hl 1 rfl) ?_
    obtain ⟨q31, e31, h⟩ := gBind_some h
    refine g_callVv (k := (b + 7)) (T := TX4) (N := 1) (As := [.int (gI a1)]) (rest := []) ⟨hx, hb0, hml, hown, hts⟩ (metX4_closeGap l D G (b + 7) 24 (hb.n3) q23 μ a1 q31 e31) (g_cwV (C := RX4) 1 hts q_ml_X5_80 q_im_X4_closeGap q_se_X4_closeGap q_in_X4 q_co_X4_closeGap ⟨rfl, rfl⟩ (by decide +kernel) ⟨Nat.le_of_ble_eq_true rfl, Nat.le_of_ble_eq_true rfl⟩) hX hH ((hb.n3)).1 rfl rfl hl.1 rfl (Nat.le_of_ble_eq_true rfl) dX5_dropTask_31 ⟨Nat.zero_le _, Nat.zero_le _⟩ (fun H locs hH => ?_)
    refine lv_aload_n hx hb0 dX5_dropTask_34 rfl (lv_at hl 0 rfl) ?_
    refine lv_dup hx hb0 dX5_dropTask_35 rfl ?_
    refine g_getI hx hb0 hts q_ws_X5 hown hX hH (C := RX5) (T := TX5) (N := 8) (k := b) (i := 6) hb.k rfl (by decide) (hts _ q_fl_X5_47) rfl rfl dX5_dropTask_36 ?_
    refine lv_iconst (v := gI (1 : Int)) hx hb0 dX5_dropTask_39 (by decide) ?_
    refine g_isub hx hb0 dX5_dropTask_40 ?_
    refine g_putI hx hb0 hts q_ws_X5 tyX5 tyX5_ok nmX5 hown hX hH (C := RX5) (T := TX5) (N := 8) (k := b) (i := 6) hb.k rfl (by decide) (hts _ q_fl_X5_47) rfl rfl rfl rfl dX5_dropTask_41 (fun H locs hH => ?_)
    refine lv_aload_n hx hb0 dX5_dropTask_44 rfl (lv_at hl 0 rfl) ?_
    refine lv_iload_n hx hb0 dX5_dropTask_45 rfl (lv_at hl 1 rfl) ?_
    obtain ⟨q46, e46, h⟩ := gBind_some h
    refine g_callVi (k := b) (T := TX5) (N := 8) (As := [.int (gI a1)]) (rest := []) ⟨hx, hb0, hml, hown, hts⟩ (metX5_dropArrowsOf l D G b hb (gUp q31 b 6 ((q31 b 6) - (1 : Int))) μ a1 q46.1 q46.2 e46) (g_cwV (C := RX5) 1 hts q_ml_X5_83 q_im_X5_dropArrowsOf q_se_X5_dropArrowsOf q_in_X5 q_co_X5_dropArrowsOf ⟨rfl, rfl⟩ (by decide +kernel) ⟨Nat.le_of_ble_eq_true rfl, Nat.le_of_ble_eq_true rfl⟩) hX hH hb.k rfl rfl hl.1 rfl (Nat.le_of_ble_eq_true rfl) dX5_dropTask_46 ⟨Nat.zero_le _, Nat.zero_le _⟩ (fun H locs hH => ?_)
    exact g_iretS hx hb0 hr hH hlocks dX5_dropTask_49 h
  · refine lv_iconst (v := gI (0 : Int)) hx hb0 dX5_dropTask_8 (by decide) ?_
    exact g_iretS hx hb0 hr hH hlocks dX5_dropTask_9 h
def DX5_hasArrowBetween_J30 (R2 : Int → Option (Int)) (x3_2 : Int) : Option (Int) :=
  (R2 (x3_2 + (1 : Int)))
def DX5_hasArrowBetween_L2 (b : Nat) (σ : gSt) (a1 : Int) (a2 : Int) : Nat → Int → Option (Int)
  | 0, _ => none
  | f2 + 1, x3_2 => gIf (x3_2 < (σ b 7)) x3_2 (σ b 7) ((DX5_from b σ x3_2).bind fun q12 => gIf (q12 = a1) q12 a1 ((DX5_to b σ x3_2).bind fun q21 => gIf (q21 = a2) q21 a2 (gBo (1 : Int) (some (1 : Int))) ((DX5_hasArrowBetween_J30 (DX5_hasArrowBetween_L2 b σ a1 a2 f2) x3_2))) ((DX5_hasArrowBetween_J30 (DX5_hasArrowBetween_L2 b σ a1 a2 f2) x3_2))) (gBo (0 : Int) (some (0 : Int)))
def DX5_hasArrowBetween (b : Nat) (σ : gSt) (a1 : Int) (a2 : Int) : Option (Int) :=
  (DX5_hasArrowBetween_L2 b σ a1 a2 gFuel (0 : Int))
set_option maxHeartbeats 4000000 in
set_option maxRecDepth 100000 in
theorem metX5_hasArrowBetween (l : Launch) (D : va_G) (G : gAd) (b : Nat) (hb : gPlan b) (σ : gSt) (μ : gLg) (a1 : Int) (a2 : Int) (r : Int) (h : DX5_hasArrowBetween b σ a1 a2 = some r) : Met l yX5_hasArrowBetween (gWs yX5_hasArrowBetween cX5_hasArrowBetween 4 (some (Jvm.ClassFile.FieldType.boolean))) ({ frames := 2, cells := 0, slots := 0, locals := 42 } : Room) (gPc D G [.ref (G.1 b), .int (gI a1), .int (gI a2)] σ μ) (gQi D G r σ μ) 0 0 (gA G) := by
  refine Met.ofW (cc := cX5_hasArrowBetween) (maxL := 4) (ret := (some (Jvm.ClassFile.FieldType.boolean))) (by decide) rfl ?_
  intro p e s m args below meth c s₁ B hml hv
  obtain ⟨rfl, hP, hX⟩ := hv
  have hx := B.exec
  have hb0 := B.bytes
  have hr := B.returns
  have hts0 := atoms_spec (ws := (gWs yX5_hasArrowBetween cX5_hasArrowBetween 4 (some (Jvm.ClassFile.FieldType.boolean)))) B.pre
  have hts : ∀ w ∈ gLW, w.before _ s = true := fun w hw => hts0 w (List.mem_cons_of_mem _ hw)
  have hown : s.vm.findClass RX5 = some m.cls := findClass_of_methodNamed B.named
  have hlocks := B.notSynchronized
  have hH : gH D G s s.heap [] σ μ := ⟨hP, va_S.rf⟩
  have hl := lv_entry ([.ref (G.1 b), .int (gI a1), .int (gI a2)]) (n := 4) (Nat.le_of_ble_eq_true rfl)
  rw [lg_entry_eq]
  generalize (lg_sl ([.ref (G.1 b), .int (gI a1), .int (gI a2)]) ++ List.replicate (4 - (lg_sl ([.ref (G.1 b), .int (gI a1), .int (gI a2)])).length) Slot.unset).toArray = ls at hl ⊢
  have hl : lv_has ls 4 [(0, .ref (G.1 b)), (1, .int (gI a1)), (2, .int (gI a2))] := hl
  unfold DX5_hasArrowBetween at h
  refine lv_iconst (v := gI (0 : Int)) hx hb0 dX5_hasArrowBetween_0 (by decide) ?_
  refine lv_istore_n (lv' := [(3, .int (gI (0 : Int))), (0, .ref (G.1 b)), (1, .int (gI a1)), (2, .int (gI a2))]) hx hb0 dX5_hasArrowBetween_1 rfl hl (by decide) rfl (fun ls hl => ?_)
  have hL2 : ∀ (f2 : Nat) (x3_2 : Int) (H : Heap) (locs : List Loc) (ls : Array Slot), gH D G s H locs σ μ → lv_has ls 4 [(3, .int (gI x3_2)), (0, .ref (G.1 b)), (1, .int (gI a1)), (2, .int (gI a2))] → (DX5_hasArrowBetween_L2 b σ a1 a2 f2 x3_2) = some r → W p l e (headSpec (gWs yX5_hasArrowBetween cX5_hasArrowBetween 4 (some (Jvm.ClassFile.FieldType.boolean))) ({ frames := 2, cells := 0, slots := 0, locals := 42 } : Room)).room s m ([.ref (G.1 b), .int (gI a1), .int (gI a2)] : List Value).toArray below meth c H locs 0 0 (MQ below (gQi D G r σ μ) ([.ref (G.1 b), .int (gI a1), .int (gI a2)] : List Value).toArray s 0 0 (gA G)) (F0 m 2 ls []) := by
    intro f2
    induction f2 with
    | zero => intro x3_2 H locs ls hH hl h; cases h
    | succ f2 ih2 =>
      intro x3_2 H locs ls hH hl h
      unfold DX5_hasArrowBetween_L2 at h
      refine lv_iload_n hx hb0 dX5_hasArrowBetween_2 rfl (lv_at hl 0 rfl) ?_
      refine lv_aload_n hx hb0 dX5_hasArrowBetween_3 rfl (lv_at hl 1 rfl) ?_
      refine g_getI hx hb0 hts q_ws_X5 hown hX hH (C := RX5) (T := TX5) (N := 8) (k := b) (i := 7) hb.k rfl (by decide) (hts _ q_fl_X5_51) rfl rfl dX5_hasArrowBetween_4 ?_
      refine g_icmp_ge (tgt := 36) hx hb0 dX5_hasArrowBetween_7 (by decide) h (fun h => ?_) (fun h => ?_)
      · refine lv_iconst (v := gI (0 : Int)) hx hb0 dX5_hasArrowBetween_36 (by decide) ?_
        exact g_zretP hx hb0 hr hH hlocks dX5_hasArrowBetween_37 h
      · refine lv_aload_n hx hb0 dX5_hasArrowBetween_10 rfl (lv_at hl 1 rfl) ?_
        refine lv_iload_n hx hb0 dX5_hasArrowBetween_11 rfl (lv_at hl 0 rfl) ?_
        obtain ⟨q12, e12, h⟩ := gBind_some h
        refine g_callVi (k := b) (T := TX5) (N := 8) (As := [.int (gI x3_2)]) (rest := []) ⟨hx, hb0, hml, hown, hts⟩ (metX5_from l D G b hb σ μ x3_2 q12 e12) (g_cwV (C := RX5) 1 hts q_ml_X5_60 q_im_X5_from q_se_X5_from q_in_X5 q_co_X5_from ⟨rfl, rfl⟩ (by decide +kernel) ⟨Nat.le_of_ble_eq_true rfl, Nat.le_of_ble_eq_true rfl⟩) hX hH hb.k rfl rfl hl.1 rfl (Nat.le_of_ble_eq_true rfl) dX5_hasArrowBetween_12 ⟨Nat.zero_le _, Nat.zero_le _⟩ (fun H locs hH => ?_)
        refine lv_iload_n hx hb0 dX5_hasArrowBetween_15 rfl (lv_at hl 2 rfl) ?_
        have hJ30 : ∀  (H : Heap) (locs : List Loc) (ls : Array Slot), gH D G s H locs σ μ → lv_has ls 4 [(3, .int (gI x3_2)), (0, .ref (G.1 b)), (1, .int (gI a1)), (2, .int (gI a2))] → (DX5_hasArrowBetween_J30 (DX5_hasArrowBetween_L2 b σ a1 a2 f2) x3_2) = some r → W p l e (headSpec (gWs yX5_hasArrowBetween cX5_hasArrowBetween 4 (some (Jvm.ClassFile.FieldType.boolean))) ({ frames := 2, cells := 0, slots := 0, locals := 42 } : Room)).room s m ([.ref (G.1 b), .int (gI a1), .int (gI a2)] : List Value).toArray below meth c H locs 0 0 (MQ below (gQi D G r σ μ) ([.ref (G.1 b), .int (gI a1), .int (gI a2)] : List Value).toArray s 0 0 (gA G)) (F0 m 30 ls []) := by
          intro H locs ls hH hl h
          unfold DX5_hasArrowBetween_J30 at h
          refine g_iinc (k := 0) (n := (1 : Int)) (lv' := [(3, .int (gI (x3_2 + (1 : Int)))), (0, .ref (G.1 b)), (1, .int (gI a1)), (2, .int (gI a2))]) hx hb0 dX5_hasArrowBetween_30 hl rfl (by decide) rfl (fun ls hl => ?_)
          refine lv_goto (tgt := 2) hx hb0 dX5_hasArrowBetween_33 (by decide) ?_
          exact ih2 _ _ _ _ hH (lv_sub hl [0, 1, 2, 3] rfl) h
        refine g_icmp_ne (tgt := 30) hx hb0 dX5_hasArrowBetween_16 (by decide) h (fun h => ?_) (fun h => ?_)
        · exact hJ30  _ _ _ hH (lv_sub hl [0, 1, 2, 3] rfl) h
        · refine lv_aload_n hx hb0 dX5_hasArrowBetween_19 rfl (lv_at hl 1 rfl) ?_
          refine lv_iload_n hx hb0 dX5_hasArrowBetween_20 rfl (lv_at hl 0 rfl) ?_
          obtain ⟨q21, e21, h⟩ := gBind_some h
          refine g_callVi (k := b) (T := TX5) (N := 8) (As := [.int (gI x3_2)]) (rest := []) ⟨hx, hb0, hml, hown, hts⟩ (metX5_to l D G b hb σ μ x3_2 q21 e21) (g_cwV (C := RX5) 1 hts q_ml_X5_54 q_im_X5_to q_se_X5_to q_in_X5 q_co_X5_to ⟨rfl, rfl⟩ (by decide +kernel) ⟨Nat.le_of_ble_eq_true rfl, Nat.le_of_ble_eq_true rfl⟩) hX hH hb.k rfl rfl hl.1 rfl (Nat.le_of_ble_eq_true rfl) dX5_hasArrowBetween_21 ⟨Nat.zero_le _, Nat.zero_le _⟩ (fun H locs hH => ?_)
          refine lv_iload_n hx hb0 dX5_hasArrowBetween_24 rfl (lv_at hl 3 rfl) ?_
          refine g_icmp_ne (tgt := 30) hx hb0 dX5_hasArrowBetween_25 (by decide) h (fun h => ?_) (fun h => ?_)
          · exact hJ30  _ _ _ hH (lv_sub hl [0, 1, 2, 3] rfl) h
          · refine lv_iconst (v := gI (1 : Int)) hx hb0 dX5_hasArrowBetween_28 (by decide) ?_
            exact g_zretP hx hb0 hr hH hlocks dX5_hasArrowBetween_29 h
  exact hL2 gFuel _ _ _ _ hH (lv_sub hl [0, 1, 2, 3] rfl) h
def DX5_tellArrow (b : Nat) (σ : gSt) (a1 : Int) (a2 : Int) : Option (Int × gSt) :=
  gIf ((σ b 7) < (30 : Int)) (σ b 7) (30 : Int) ((DX4_put (b + 9) 30 σ (σ b 7) a1).bind fun q20 => (DX4_put (b + 11) 30 q20 (q20 b 7) a2).bind fun q32 => some ((((gUp q32 b 7 ((q32 b 7) + (1 : Int))) b 7) - (1 : Int)), (gUp q32 b 7 ((q32 b 7) + (1 : Int))))) (some ((-1 : Int), σ))
set_option maxHeartbeats 4000000 in
set_option maxRecDepth 100000 in
theorem metX5_tellArrow (l : Launch) (D : va_G) (G : gAd) (b : Nat) (hb : gPlan b) (σ : gSt) (μ : gLg) (a1 : Int) (a2 : Int) (r : Int) (σ' : gSt) (h : DX5_tellArrow b σ a1 a2 = some (r, σ')) : Met l yX5_tellArrow (gWs yX5_tellArrow cX5_tellArrow 3 (some (Jvm.ClassFile.FieldType.int))) ({ frames := 1, cells := 0, slots := 0, locals := 22 } : Room) (gPc D G [.ref (G.1 b), .int (gI a1), .int (gI a2)] σ μ) (gQi D G r σ' μ) 0 0 (gA G) := by
  refine Met.ofW (cc := cX5_tellArrow) (maxL := 3) (ret := (some (Jvm.ClassFile.FieldType.int))) (by decide) rfl ?_
  intro p e s m args below meth c s₁ B hml hv
  obtain ⟨rfl, hP, hX⟩ := hv
  have hx := B.exec
  have hb0 := B.bytes
  have hr := B.returns
  have hts0 := atoms_spec (ws := (gWs yX5_tellArrow cX5_tellArrow 3 (some (Jvm.ClassFile.FieldType.int)))) B.pre
  have hts : ∀ w ∈ gLW, w.before _ s = true := fun w hw => hts0 w (List.mem_cons_of_mem _ hw)
  have hown : s.vm.findClass RX5 = some m.cls := findClass_of_methodNamed B.named
  have hlocks := B.notSynchronized
  have hH : gH D G s s.heap [] σ μ := ⟨hP, va_S.rf⟩
  have hl := lv_entry ([.ref (G.1 b), .int (gI a1), .int (gI a2)]) (n := 3) (Nat.le_of_ble_eq_true rfl)
  rw [lg_entry_eq]
  generalize (lg_sl ([.ref (G.1 b), .int (gI a1), .int (gI a2)]) ++ List.replicate (3 - (lg_sl ([.ref (G.1 b), .int (gI a1), .int (gI a2)])).length) Slot.unset).toArray = ls at hl ⊢
  have hl : lv_has ls 3 [(0, .ref (G.1 b)), (1, .int (gI a1)), (2, .int (gI a2))] := hl
  unfold DX5_tellArrow at h
  refine lv_aload_n hx hb0 dX5_tellArrow_0 rfl (lv_at hl 0 rfl) ?_
  refine g_getI hx hb0 hts q_ws_X5 hown hX hH (C := RX5) (T := TX5) (N := 8) (k := b) (i := 7) hb.k rfl (by decide) (hts _ q_fl_X5_51) rfl rfl dX5_tellArrow_1 ?_
  refine lv_bipush (v := gI (30 : Int)) hx hb0 dX5_tellArrow_4 (by decide) ?_
  refine g_icmp_lt (tgt := 11) hx hb0 dX5_tellArrow_6 (by decide) h (fun h => ?_) (fun h => ?_)
  · refine lv_aload_n hx hb0 dX5_tellArrow_11 rfl (lv_at hl 0 rfl) ?_
    refine g_getR hx hb0 hts q_ws_X5 hown hX hH (C := RX5) (T := TX5) (N := 8) (k := b) (i := 4) (j := (b + 9)) hb.k rfl (by decide) (hts _ q_fl_X5_29) rfl rfl dX5_tellArrow_12 ?_
    refine lv_aload_n hx hb0 dX5_tellArrow_15 rfl (lv_at hl 0 rfl) ?_
    refine g_getI hx hb0 hts q_ws_X5 hown hX hH (C := RX5) (T := TX5) (N := 8) (k := b) (i := 7) hb.k rfl (by decide) (hts _ q_fl_X5_51) rfl rfl dX5_tellArrow_16 ?_
    refine lv_iload_n hx hb0 dX5_tellArrow_19 rfl (lv_at hl 1 rfl) ?_
    obtain ⟨q20, e20, h⟩ := gBind_some h
    refine g_callVv (k := (b + 9)) (T := TX4) (N := 1) (As := [.int (gI (σ b 7)), .int (gI a1)]) (rest := []) ⟨hx, hb0, hml, hown, hts⟩ (metX4_put l D G (b + 9) 30 (hb.n4) σ μ (σ b 7) a1 q20 e20) (g_cwV (C := RX4) 2 hts q_ml_X5_39 q_im_X4_put q_se_X4_put q_in_X4 q_co_X4_put ⟨rfl, rfl⟩ (by decide +kernel) ⟨Nat.le_of_ble_eq_true rfl, Nat.le_of_ble_eq_true rfl⟩) hX hH ((hb.n4)).1 rfl rfl hl.1 rfl (Nat.le_of_ble_eq_true rfl) dX5_tellArrow_20 ⟨Nat.zero_le _, Nat.zero_le _⟩ (fun H locs hH => ?_)
    refine lv_aload_n hx hb0 dX5_tellArrow_23 rfl (lv_at hl 0 rfl) ?_
    refine g_getR hx hb0 hts q_ws_X5 hown hX hH (C := RX5) (T := TX5) (N := 8) (k := b) (i := 5) (j := (b + 11)) hb.k rfl (by decide) (hts _ q_fl_X5_32) rfl rfl dX5_tellArrow_24 ?_
    refine lv_aload_n hx hb0 dX5_tellArrow_27 rfl (lv_at hl 0 rfl) ?_
    refine g_getI hx hb0 hts q_ws_X5 hown hX hH (C := RX5) (T := TX5) (N := 8) (k := b) (i := 7) hb.k rfl (by decide) (hts _ q_fl_X5_51) rfl rfl dX5_tellArrow_28 ?_
    refine lv_iload_n hx hb0 dX5_tellArrow_31 rfl (lv_at hl 2 rfl) ?_
    obtain ⟨q32, e32, h⟩ := gBind_some h
    refine g_callVv (k := (b + 11)) (T := TX4) (N := 1) (As := [.int (gI (q20 b 7)), .int (gI a2)]) (rest := []) ⟨hx, hb0, hml, hown, hts⟩ (metX4_put l D G (b + 11) 30 (hb.n5) q20 μ (q20 b 7) a2 q32 e32) (g_cwV (C := RX4) 2 hts q_ml_X5_39 q_im_X4_put q_se_X4_put q_in_X4 q_co_X4_put ⟨rfl, rfl⟩ (by decide +kernel) ⟨Nat.le_of_ble_eq_true rfl, Nat.le_of_ble_eq_true rfl⟩) hX hH ((hb.n5)).1 rfl rfl hl.1 rfl (Nat.le_of_ble_eq_true rfl) dX5_tellArrow_32 ⟨Nat.zero_le _, Nat.zero_le _⟩ (fun H locs hH => ?_)
    refine lv_aload_n hx hb0 dX5_tellArrow_35 rfl (lv_at hl 0 rfl) ?_
    refine lv_dup hx hb0 dX5_tellArrow_36 rfl ?_
    refine g_getI hx hb0 hts q_ws_X5 hown hX hH (C := RX5) (T := TX5) (N := 8) (k := b) (i := 7) hb.k rfl (by decide) (hts _ q_fl_X5_51) rfl rfl dX5_tellArrow_37 ?_
    refine lv_iconst (v := gI (1 : Int)) hx hb0 dX5_tellArrow_40 (by decide) ?_
    refine g_iadd hx hb0 dX5_tellArrow_41 ?_
    refine g_putI hx hb0 hts q_ws_X5 tyX5 tyX5_ok nmX5 hown hX hH (C := RX5) (T := TX5) (N := 8) (k := b) (i := 7) hb.k rfl (by decide) (hts _ q_fl_X5_51) rfl rfl rfl rfl dX5_tellArrow_42 (fun H locs hH => ?_)
    refine lv_aload_n hx hb0 dX5_tellArrow_45 rfl (lv_at hl 0 rfl) ?_
    refine g_getI hx hb0 hts q_ws_X5 hown hX hH (C := RX5) (T := TX5) (N := 8) (k := b) (i := 7) hb.k rfl (by decide) (hts _ q_fl_X5_51) rfl rfl dX5_tellArrow_46 ?_
    refine lv_iconst (v := gI (1 : Int)) hx hb0 dX5_tellArrow_49 (by decide) ?_
    refine g_isub hx hb0 dX5_tellArrow_50 ?_
    exact g_iretS hx hb0 hr hH hlocks dX5_tellArrow_51 h
  · refine lv_iconst (v := gI (-1 : Int)) hx hb0 dX5_tellArrow_9 (by decide) ?_
    exact g_iretS hx hb0 hr hH hlocks dX5_tellArrow_10 h
def DX5_hasArrow (b : Nat) (σ : gSt) (a1 : Int) : Option (Int) :=
  gIf (a1 < (0 : Int)) a1 (0 : Int) (gBo (0 : Int) (some (0 : Int))) (gIf (a1 < (σ b 7)) a1 (σ b 7) (gBo (1 : Int) (some (1 : Int))) (gBo (0 : Int) (some (0 : Int))))
set_option maxHeartbeats 4000000 in
set_option maxRecDepth 100000 in
theorem metX5_hasArrow (l : Launch) (D : va_G) (G : gAd) (b : Nat) (hb : gPlan b) (σ : gSt) (μ : gLg) (a1 : Int) (r : Int) (h : DX5_hasArrow b σ a1 = some r) : Met l yX5_hasArrow (gWs yX5_hasArrow cX5_hasArrow 2 (some (Jvm.ClassFile.FieldType.boolean))) ({ frames := 0, cells := 0, slots := 0, locals := 0 } : Room) (gPc D G [.ref (G.1 b), .int (gI a1)] σ μ) (gQi D G r σ μ) 0 0 (gA G) := by
  refine Met.ofW (cc := cX5_hasArrow) (maxL := 2) (ret := (some (Jvm.ClassFile.FieldType.boolean))) (by decide) rfl ?_
  intro p e s m args below meth c s₁ B hml hv
  obtain ⟨rfl, hP, hX⟩ := hv
  have hx := B.exec
  have hb0 := B.bytes
  have hr := B.returns
  have hts0 := atoms_spec (ws := (gWs yX5_hasArrow cX5_hasArrow 2 (some (Jvm.ClassFile.FieldType.boolean)))) B.pre
  have hts : ∀ w ∈ gLW, w.before _ s = true := fun w hw => hts0 w (List.mem_cons_of_mem _ hw)
  have hown : s.vm.findClass RX5 = some m.cls := findClass_of_methodNamed B.named
  have hlocks := B.notSynchronized
  have hH : gH D G s s.heap [] σ μ := ⟨hP, va_S.rf⟩
  have hl := lv_entry ([.ref (G.1 b), .int (gI a1)]) (n := 2) (Nat.le_of_ble_eq_true rfl)
  rw [lg_entry_eq]
  generalize (lg_sl ([.ref (G.1 b), .int (gI a1)]) ++ List.replicate (2 - (lg_sl ([.ref (G.1 b), .int (gI a1)])).length) Slot.unset).toArray = ls at hl ⊢
  have hl : lv_has ls 2 [(0, .ref (G.1 b)), (1, .int (gI a1))] := hl
  unfold DX5_hasArrow at h
  refine lv_iload_n hx hb0 dX5_hasArrow_0 rfl (lv_at hl 1 rfl) ?_
  refine g_if_lt (tgt := 16) hx hb0 dX5_hasArrow_1 (by decide) h (fun h => ?_) (fun h => ?_)
  · refine lv_iconst (v := gI (0 : Int)) hx hb0 dX5_hasArrow_16 (by decide) ?_
    exact g_zretP hx hb0 hr hH hlocks dX5_hasArrow_17 h
  · refine lv_iload_n hx hb0 dX5_hasArrow_4 rfl (lv_at hl 1 rfl) ?_
    refine lv_aload_n hx hb0 dX5_hasArrow_5 rfl (lv_at hl 0 rfl) ?_
    refine g_getI hx hb0 hts q_ws_X5 hown hX hH (C := RX5) (T := TX5) (N := 8) (k := b) (i := 7) hb.k rfl (by decide) (hts _ q_fl_X5_51) rfl rfl dX5_hasArrow_6 ?_
    refine g_icmp_ge (tgt := 16) hx hb0 dX5_hasArrow_9 (by decide) h (fun h => ?_) (fun h => ?_)
    · refine lv_iconst (v := gI (0 : Int)) hx hb0 dX5_hasArrow_16 (by decide) ?_
      exact g_zretP hx hb0 hr hH hlocks dX5_hasArrow_17 h
    · refine lv_iconst (v := gI (1 : Int)) hx hb0 dX5_hasArrow_12 (by decide) ?_
      refine lv_goto (tgt := 17) hx hb0 dX5_hasArrow_13 (by decide) ?_
      exact g_zretP hx hb0 hr hH hlocks dX5_hasArrow_17 h
def DX5_dropArrow (b : Nat) (σ : gSt) (a1 : Int) : Option (gSt) :=
  (DX5_hasArrow b σ a1).bind fun q2 => gIf (q2 = (0 : Int)) q2 (0 : Int) (some σ) ((DX4_closeGap (b + 9) 30 σ a1).bind fun q13 => (DX4_closeGap (b + 11) 30 q13 a1).bind fun q21 => some (gUp q21 b 7 ((q21 b 7) - (1 : Int))))
set_option maxHeartbeats 4000000 in
set_option maxRecDepth 100000 in
theorem metX5_dropArrow (l : Launch) (D : va_G) (G : gAd) (b : Nat) (hb : gPlan b) (σ : gSt) (μ : gLg) (a1 : Int) (σ' : gSt) (h : DX5_dropArrow b σ a1 = some σ') : Met l yX5_dropArrow (gWs yX5_dropArrow cX5_dropArrow 2 none) ({ frames := 1, cells := 0, slots := 0, locals := 22 } : Room) (gPc D G [.ref (G.1 b), .int (gI a1)] σ μ) (gQv D G σ' μ) 0 0 (gA G) := by
  refine Met.ofW (cc := cX5_dropArrow) (maxL := 2) (ret := none) (by decide) rfl ?_
  intro p e s m args below meth c s₁ B hml hv
  obtain ⟨rfl, hP, hX⟩ := hv
  have hx := B.exec
  have hb0 := B.bytes
  have hr := B.returns
  have hts0 := atoms_spec (ws := (gWs yX5_dropArrow cX5_dropArrow 2 none)) B.pre
  have hts : ∀ w ∈ gLW, w.before _ s = true := fun w hw => hts0 w (List.mem_cons_of_mem _ hw)
  have hown : s.vm.findClass RX5 = some m.cls := findClass_of_methodNamed B.named
  have hlocks := B.notSynchronized
  have hH : gH D G s s.heap [] σ μ := ⟨hP, va_S.rf⟩
  have hl := lv_entry ([.ref (G.1 b), .int (gI a1)]) (n := 2) (Nat.le_of_ble_eq_true rfl)
  rw [lg_entry_eq]
  generalize (lg_sl ([.ref (G.1 b), .int (gI a1)]) ++ List.replicate (2 - (lg_sl ([.ref (G.1 b), .int (gI a1)])).length) Slot.unset).toArray = ls at hl ⊢
  have hl : lv_has ls 2 [(0, .ref (G.1 b)), (1, .int (gI a1))] := hl
  unfold DX5_dropArrow at h
  refine lv_aload_n hx hb0 dX5_dropArrow_0 rfl (lv_at hl 0 rfl) ?_
  refine lv_iload_n hx hb0 dX5_dropArrow_1 rfl (lv_at hl 1 rfl) ?_
  obtain ⟨q2, e2, h⟩ := gBind_some h
  refine g_callVi (k := b) (T := TX5) (N := 8) (As := [.int (gI a1)]) (rest := []) ⟨hx, hb0, hml, hown, hts⟩ (metX5_hasArrow l D G b hb σ μ a1 q2 e2) (g_cwV (C := RX5) 1 hts q_ml_X5_77 q_im_X5_hasArrow q_se_X5_hasArrow q_in_X5 q_co_X5_hasArrow ⟨rfl, rfl⟩ (by decide +kernel) ⟨Nat.le_of_ble_eq_true rfl, Nat.le_of_ble_eq_true rfl⟩) hX hH hb.k rfl rfl hl.1 rfl (Nat.le_of_ble_eq_true rfl) dX5_dropArrow_2 ⟨Nat.zero_le _, Nat.zero_le _⟩ (fun H locs hH => ?_)
  refine g_if_eq (tgt := 34) hx hb0 dX5_dropArrow_5 (by decide) h (fun h => ?_) (fun h => ?_)
  · exact g_vretS hx hb0 hr hH hlocks dX5_dropArrow_34 h
  · refine lv_aload_n hx hb0 dX5_dropArrow_8 rfl (lv_at hl 0 rfl) ?_
    refine g_getR hx hb0 hts q_ws_X5 hown hX hH (C := RX5) (T := TX5) (N := 8) (k := b) (i := 4) (j := (b + 9)) hb.k rfl (by decide) (hts _ q_fl_X5_29) rfl rfl dX5_dropArrow_9 ?_
    refine lv_iload_n hx hb0 dX5_dropArrow_12 rfl (lv_at hl 1 rfl) ?_
    obtain ⟨q13, e13, h⟩ := gBind_some h
    refine g_callVv (k := (b + 9)) (T := TX4) (N := 1) (As := [.int (gI a1)]) (rest := []) ⟨hx, hb0, hml, hown, hts⟩ (metX4_closeGap l D G (b + 9) 30 (hb.n4) σ μ a1 q13 e13) (g_cwV (C := RX4) 1 hts q_ml_X5_80 q_im_X4_closeGap q_se_X4_closeGap q_in_X4 q_co_X4_closeGap ⟨rfl, rfl⟩ (by decide +kernel) ⟨Nat.le_of_ble_eq_true rfl, Nat.le_of_ble_eq_true rfl⟩) hX hH ((hb.n4)).1 rfl rfl hl.1 rfl (Nat.le_of_ble_eq_true rfl) dX5_dropArrow_13 ⟨Nat.zero_le _, Nat.zero_le _⟩ (fun H locs hH => ?_)
    refine lv_aload_n hx hb0 dX5_dropArrow_16 rfl (lv_at hl 0 rfl) ?_
    refine g_getR hx hb0 hts q_ws_X5 hown hX hH (C := RX5) (T := TX5) (N := 8) (k := b) (i := 5) (j := (b + 11)) hb.k rfl (by decide) (hts _ q_fl_X5_32) rfl rfl dX5_dropArrow_17 ?_
    refine lv_iload_n hx hb0 dX5_dropArrow_20 rfl (lv_at hl 1 rfl) ?_
    obtain ⟨q21, e21, h⟩ := gBind_some h
    refine g_callVv (k := (b + 11)) (T := TX4) (N := 1) (As := [.int (gI a1)]) (rest := []) ⟨hx, hb0, hml, hown, hts⟩ (metX4_closeGap l D G (b + 11) 30 (hb.n5) q13 μ a1 q21 e21) (g_cwV (C := RX4) 1 hts q_ml_X5_80 q_im_X4_closeGap q_se_X4_closeGap q_in_X4 q_co_X4_closeGap ⟨rfl, rfl⟩ (by decide +kernel) ⟨Nat.le_of_ble_eq_true rfl, Nat.le_of_ble_eq_true rfl⟩) hX hH ((hb.n5)).1 rfl rfl hl.1 rfl (Nat.le_of_ble_eq_true rfl) dX5_dropArrow_21 ⟨Nat.zero_le _, Nat.zero_le _⟩ (fun H locs hH => ?_)
    refine lv_aload_n hx hb0 dX5_dropArrow_24 rfl (lv_at hl 0 rfl) ?_
    refine lv_dup hx hb0 dX5_dropArrow_25 rfl ?_
    refine g_getI hx hb0 hts q_ws_X5 hown hX hH (C := RX5) (T := TX5) (N := 8) (k := b) (i := 7) hb.k rfl (by decide) (hts _ q_fl_X5_51) rfl rfl dX5_dropArrow_26 ?_
    refine lv_iconst (v := gI (1 : Int)) hx hb0 dX5_dropArrow_29 (by decide) ?_
    refine g_isub hx hb0 dX5_dropArrow_30 ?_
    refine g_putI hx hb0 hts q_ws_X5 tyX5 tyX5_ok nmX5 hown hX hH (C := RX5) (T := TX5) (N := 8) (k := b) (i := 7) hb.k rfl (by decide) (hts _ q_fl_X5_51) rfl rfl rfl rfl dX5_dropArrow_31 (fun H locs hH => ?_)
    exact g_vretS hx hb0 hr hH hlocks dX5_dropArrow_34 h
def DX5_length (b : Nat) (σ : gSt) (a1 : Int) : Option (Int) :=
  (DX4_at (b + 7) 24 σ a1).bind fun q5 => some q5
set_option maxHeartbeats 4000000 in
set_option maxRecDepth 100000 in
theorem metX5_length (l : Launch) (D : va_G) (G : gAd) (b : Nat) (hb : gPlan b) (σ : gSt) (μ : gLg) (a1 : Int) (r : Int) (h : DX5_length b σ a1 = some r) : Met l yX5_length (gWs yX5_length cX5_length 2 (some (Jvm.ClassFile.FieldType.int))) ({ frames := 1, cells := 0, slots := 0, locals := 21 } : Room) (gPc D G [.ref (G.1 b), .int (gI a1)] σ μ) (gQi D G r σ μ) 0 0 (gA G) := by
  refine Met.ofW (cc := cX5_length) (maxL := 2) (ret := (some (Jvm.ClassFile.FieldType.int))) (by decide) rfl ?_
  intro p e s m args below meth c s₁ B hml hv
  obtain ⟨rfl, hP, hX⟩ := hv
  have hx := B.exec
  have hb0 := B.bytes
  have hr := B.returns
  have hts0 := atoms_spec (ws := (gWs yX5_length cX5_length 2 (some (Jvm.ClassFile.FieldType.int)))) B.pre
  have hts : ∀ w ∈ gLW, w.before _ s = true := fun w hw => hts0 w (List.mem_cons_of_mem _ hw)
  have hown : s.vm.findClass RX5 = some m.cls := findClass_of_methodNamed B.named
  have hlocks := B.notSynchronized
  have hH : gH D G s s.heap [] σ μ := ⟨hP, va_S.rf⟩
  have hl := lv_entry ([.ref (G.1 b), .int (gI a1)]) (n := 2) (Nat.le_of_ble_eq_true rfl)
  rw [lg_entry_eq]
  generalize (lg_sl ([.ref (G.1 b), .int (gI a1)]) ++ List.replicate (2 - (lg_sl ([.ref (G.1 b), .int (gI a1)])).length) Slot.unset).toArray = ls at hl ⊢
  have hl : lv_has ls 2 [(0, .ref (G.1 b)), (1, .int (gI a1))] := hl
  unfold DX5_length at h
  refine lv_aload_n hx hb0 dX5_length_0 rfl (lv_at hl 0 rfl) ?_
  refine g_getR hx hb0 hts q_ws_X5 hown hX hH (C := RX5) (T := TX5) (N := 8) (k := b) (i := 3) (j := (b + 7)) hb.k rfl (by decide) (hts _ q_fl_X5_26) rfl rfl dX5_length_1 ?_
  refine lv_iload_n hx hb0 dX5_length_4 rfl (lv_at hl 1 rfl) ?_
  obtain ⟨q5, e5, h⟩ := gBind_some h
  refine g_callVi (k := (b + 7)) (T := TX4) (N := 1) (As := [.int (gI a1)]) (rest := []) ⟨hx, hb0, hml, hown, hts⟩ (metX4_at l D G (b + 7) 24 (hb.n3) σ μ a1 q5 e5) (g_cwV (C := RX4) 1 hts q_ml_X5_43 q_im_X4_at q_se_X4_at q_in_X4 q_co_X4_at ⟨rfl, rfl⟩ (by decide +kernel) ⟨Nat.le_of_ble_eq_true rfl, Nat.le_of_ble_eq_true rfl⟩) hX hH ((hb.n3)).1 rfl rfl hl.1 rfl (Nat.le_of_ble_eq_true rfl) dX5_length_5 ⟨Nat.zero_le _, Nat.zero_le _⟩ (fun H locs hH => ?_)
  exact g_iretP hx hb0 hr hH hlocks dX5_length_8 h
def DX0_rowOf (b : Nat) (σ : gSt) (a1 : Int) : Option (Int) :=
  (DX4_at (b + 5) 24 σ a1).bind fun q5 => some q5
set_option maxHeartbeats 4000000 in
set_option maxRecDepth 100000 in
theorem metX0_rowOf (l : Launch) (D : va_G) (G : gAd) (b : Nat) (hb : gBands b) (σ : gSt) (μ : gLg) (a1 : Int) (r : Int) (h : DX0_rowOf b σ a1 = some r) : Met l yX0_rowOf (gWs yX0_rowOf cX0_rowOf 2 (some (Jvm.ClassFile.FieldType.int))) ({ frames := 1, cells := 0, slots := 0, locals := 21 } : Room) (gPc D G [.ref (G.1 b), .int (gI a1)] σ μ) (gQi D G r σ μ) 0 0 (gA G) := by
  refine Met.ofW (cc := cX0_rowOf) (maxL := 2) (ret := (some (Jvm.ClassFile.FieldType.int))) (by decide) rfl ?_
  intro p e s m args below meth c s₁ B hml hv
  obtain ⟨rfl, hP, hX⟩ := hv
  have hx := B.exec
  have hb0 := B.bytes
  have hr := B.returns
  have hts0 := atoms_spec (ws := (gWs yX0_rowOf cX0_rowOf 2 (some (Jvm.ClassFile.FieldType.int)))) B.pre
  have hts : ∀ w ∈ gLW, w.before _ s = true := fun w hw => hts0 w (List.mem_cons_of_mem _ hw)
  have hown : s.vm.findClass RX0 = some m.cls := findClass_of_methodNamed B.named
  have hlocks := B.notSynchronized
  have hH : gH D G s s.heap [] σ μ := ⟨hP, va_S.rf⟩
  have hl := lv_entry ([.ref (G.1 b), .int (gI a1)]) (n := 2) (Nat.le_of_ble_eq_true rfl)
  rw [lg_entry_eq]
  generalize (lg_sl ([.ref (G.1 b), .int (gI a1)]) ++ List.replicate (2 - (lg_sl ([.ref (G.1 b), .int (gI a1)])).length) Slot.unset).toArray = ls at hl ⊢
  have hl : lv_has ls 2 [(0, .ref (G.1 b)), (1, .int (gI a1))] := hl
  unfold DX0_rowOf at h
  refine lv_aload_n hx hb0 dX0_rowOf_0 rfl (lv_at hl 0 rfl) ?_
  refine g_getR hx hb0 hts q_ws_X0 hown hX hH (C := RX0) (T := TX0) (N := 8) (k := b) (i := 2) (j := (b + 5)) hb.k rfl (by decide) (hts _ q_fl_X0_23) rfl rfl dX0_rowOf_1 ?_
  refine lv_iload_n hx hb0 dX0_rowOf_4 rfl (lv_at hl 1 rfl) ?_
  obtain ⟨q5, e5, h⟩ := gBind_some h
  refine g_callVi (k := (b + 5)) (T := TX4) (N := 1) (As := [.int (gI a1)]) (rest := []) ⟨hx, hb0, hml, hown, hts⟩ (metX4_at l D G (b + 5) 24 (hb.n2) σ μ a1 q5 e5) (g_cwV (C := RX4) 1 hts q_ml_X0_33 q_im_X4_at q_se_X4_at q_in_X4 q_co_X4_at ⟨rfl, rfl⟩ (by decide +kernel) ⟨Nat.le_of_ble_eq_true rfl, Nat.le_of_ble_eq_true rfl⟩) hX hH ((hb.n2)).1 rfl rfl hl.1 rfl (Nat.le_of_ble_eq_true rfl) dX0_rowOf_5 ⟨Nat.zero_le _, Nat.zero_le _⟩ (fun H locs hH => ?_)
  exact g_iretP hx hb0 hr hH hlocks dX0_rowOf_8 h
def DX8_partsOf (σ : gSt) (a1 : Int) : Option (Int) :=
  (DX5_setting 1 σ (1 : Int)).bind fun q5 => (DX5_last 1 σ a1).bind fun q14 => (DX8_stripOfDay σ q14 q5).bind fun q18 => (DX5_first 1 σ a1).bind fun q26 => (DX8_stripOfDay σ q26 q5).bind fun q30 => some ((q18 - q30) + (1 : Int))
set_option maxHeartbeats 4000000 in
set_option maxRecDepth 100000 in
theorem metX8_partsOf (l : Launch) (D : va_G) (G : gAd) (σ : gSt) (μ : gLg) (a1 : Int) (r : Int) (h : DX8_partsOf σ a1 = some r) : Met l yX8_partsOf (gWs yX8_partsOf cX8_partsOf 3 (some (Jvm.ClassFile.FieldType.int))) ({ frames := 2, cells := 0, slots := 0, locals := 42 } : Room) (gPc D G [.ref (G.1 0), .int (gI a1)] σ μ) (gQi D G r σ μ) 0 0 (gA G) := by
  refine Met.ofW (cc := cX8_partsOf) (maxL := 3) (ret := (some (Jvm.ClassFile.FieldType.int))) (by decide) rfl ?_
  intro p e s m args below meth c s₁ B hml hv
  obtain ⟨rfl, hP, hX⟩ := hv
  have hx := B.exec
  have hb0 := B.bytes
  have hr := B.returns
  have hts0 := atoms_spec (ws := (gWs yX8_partsOf cX8_partsOf 3 (some (Jvm.ClassFile.FieldType.int)))) B.pre
  have hts : ∀ w ∈ gLW, w.before _ s = true := fun w hw => hts0 w (List.mem_cons_of_mem _ hw)
  have hown : s.vm.findClass RX8 = some m.cls := findClass_of_methodNamed B.named
  have hlocks := B.notSynchronized
  have hH : gH D G s s.heap [] σ μ := ⟨hP, va_S.rf⟩
  have hl := lv_entry ([.ref (G.1 0), .int (gI a1)]) (n := 3) (Nat.le_of_ble_eq_true rfl)
  rw [lg_entry_eq]
  generalize (lg_sl ([.ref (G.1 0), .int (gI a1)]) ++ List.replicate (3 - (lg_sl ([.ref (G.1 0), .int (gI a1)])).length) Slot.unset).toArray = ls at hl ⊢
  have hl : lv_has ls 3 [(0, .ref (G.1 0)), (1, .int (gI a1))] := hl
  unfold DX8_partsOf at h
  refine lv_aload_n hx hb0 dX8_partsOf_0 rfl (lv_at hl 0 rfl) ?_
  refine g_getR hx hb0 hts q_ws_X8 hown hX hH (C := RX8) (T := TX8) (N := 10) (k := 0) (i := 0) (j := 1) (rfl : gKinds[0]? = _) rfl (by decide) (hts _ q_fl_X8_12) rfl rfl dX8_partsOf_1 ?_
  refine lv_iconst (v := gI (1 : Int)) hx hb0 dX8_partsOf_4 (by decide) ?_
  obtain ⟨q5, e5, h⟩ := gBind_some h
  refine g_callVi (k := 1) (T := TX5) (N := 8) (As := [.int (gI (1 : Int))]) (rest := []) ⟨hx, hb0, hml, hown, hts⟩ (metX5_setting l D G 1 gPlan_1 σ μ (1 : Int) q5 e5) (g_cwV (C := RX5) 1 hts q_ml_X8_82 q_im_X5_setting q_se_X5_setting q_in_X5 q_co_X5_setting ⟨rfl, rfl⟩ (by decide +kernel) ⟨Nat.le_of_ble_eq_true rfl, Nat.le_of_ble_eq_true rfl⟩) hX hH gPlan_1.k rfl rfl hl.1 rfl (Nat.le_of_ble_eq_true rfl) dX8_partsOf_5 ⟨Nat.zero_le _, Nat.zero_le _⟩ (fun H locs hH => ?_)
  refine lv_istore_n (lv' := [(2, .int (gI q5)), (0, .ref (G.1 0)), (1, .int (gI a1))]) hx hb0 dX8_partsOf_8 rfl hl (by decide) rfl (fun ls hl => ?_)
  refine lv_aload_n hx hb0 dX8_partsOf_9 rfl (lv_at hl 1 rfl) ?_
  refine g_getR hx hb0 hts q_ws_X8 hown hX hH (C := RX8) (T := TX8) (N := 10) (k := 0) (i := 0) (j := 1) (rfl : gKinds[0]? = _) rfl (by decide) (hts _ q_fl_X8_12) rfl rfl dX8_partsOf_10 ?_
  refine lv_iload_n hx hb0 dX8_partsOf_13 rfl (lv_at hl 2 rfl) ?_
  obtain ⟨q14, e14, h⟩ := gBind_some h
  refine g_callVi (k := 1) (T := TX5) (N := 8) (As := [.int (gI a1)]) (rest := []) ⟨hx, hb0, hml, hown, hts⟩ (metX5_last l D G 1 gPlan_1 σ μ a1 q14 e14) (g_cwV (C := RX5) 1 hts q_ml_X8_240 q_im_X5_last q_se_X5_last q_in_X5 q_co_X5_last ⟨rfl, rfl⟩ (by decide +kernel) ⟨Nat.le_of_ble_eq_true rfl, Nat.le_of_ble_eq_true rfl⟩) hX hH gPlan_1.k rfl rfl hl.1 rfl (Nat.le_of_ble_eq_true rfl) dX8_partsOf_14 ⟨Nat.zero_le _, Nat.zero_le _⟩ (fun H locs hH => ?_)
  refine lv_iload_n hx hb0 dX8_partsOf_17 rfl (lv_at hl 0 rfl) ?_
  obtain ⟨q18, e18, h⟩ := gBind_some h
  refine g_callSi (As := [.int (gI q14), .int (gI q5)]) (rest := []) ⟨hx, hb0, hml, hown, hts⟩ (metX8_stripOfDay l D G σ μ q14 q5 q18 e18) (g_cwS 2 hts q_ml_X8_322 q_st_X8_stripOfDay q_in_X8 q_co_X8_stripOfDay ⟨rfl, rfl⟩ (by decide +kernel) ⟨Nat.le_of_ble_eq_true rfl, Nat.le_of_ble_eq_true rfl⟩) hX hH rfl hl.1 rfl (Nat.le_of_ble_eq_true rfl) dX8_partsOf_18 ⟨Nat.zero_le _, Nat.zero_le _⟩ (fun H locs hH => ?_)
  refine lv_aload_n hx hb0 dX8_partsOf_21 rfl (lv_at hl 1 rfl) ?_
  refine g_getR hx hb0 hts q_ws_X8 hown hX hH (C := RX8) (T := TX8) (N := 10) (k := 0) (i := 0) (j := 1) (rfl : gKinds[0]? = _) rfl (by decide) (hts _ q_fl_X8_12) rfl rfl dX8_partsOf_22 ?_
  refine lv_iload_n hx hb0 dX8_partsOf_25 rfl (lv_at hl 2 rfl) ?_
  obtain ⟨q26, e26, h⟩ := gBind_some h
  refine g_callVi (k := 1) (T := TX5) (N := 8) (As := [.int (gI a1)]) (rest := [.int (gI q18)]) ⟨hx, hb0, hml, hown, hts⟩ (metX5_first l D G 1 gPlan_1 σ μ a1 q26 e26) (g_cwV (C := RX5) 1 hts q_ml_X8_122 q_im_X5_first q_se_X5_first q_in_X5 q_co_X5_first ⟨rfl, rfl⟩ (by decide +kernel) ⟨Nat.le_of_ble_eq_true rfl, Nat.le_of_ble_eq_true rfl⟩) hX hH gPlan_1.k rfl rfl hl.1 rfl (Nat.le_of_ble_eq_true rfl) dX8_partsOf_26 ⟨Nat.zero_le _, Nat.zero_le _⟩ (fun H locs hH => ?_)
  refine lv_iload_n hx hb0 dX8_partsOf_29 rfl (lv_at hl 0 rfl) ?_
  obtain ⟨q30, e30, h⟩ := gBind_some h
  refine g_callSi (As := [.int (gI q26), .int (gI q5)]) (rest := [.int (gI q18)]) ⟨hx, hb0, hml, hown, hts⟩ (metX8_stripOfDay l D G σ μ q26 q5 q30 e30) (g_cwS 2 hts q_ml_X8_322 q_st_X8_stripOfDay q_in_X8 q_co_X8_stripOfDay ⟨rfl, rfl⟩ (by decide +kernel) ⟨Nat.le_of_ble_eq_true rfl, Nat.le_of_ble_eq_true rfl⟩) hX hH rfl hl.1 rfl (Nat.le_of_ble_eq_true rfl) dX8_partsOf_30 ⟨Nat.zero_le _, Nat.zero_le _⟩ (fun H locs hH => ?_)
  refine g_isub hx hb0 dX8_partsOf_33 ?_
  refine lv_iconst (v := gI (1 : Int)) hx hb0 dX8_partsOf_34 (by decide) ?_
  refine g_iadd hx hb0 dX8_partsOf_35 ?_
  exact g_iretP hx hb0 hr hH hlocks dX8_partsOf_36 h
def DX8_numberOfTask (σ : gSt) (a1 : Int) (a2 : Int) : Option (Int) :=
  gIf (a2 = (0 : Int)) a2 (0 : Int) ((DX5_group 1 σ a1).bind fun q45 => some q45) (gIf (a2 = (1 : Int)) a2 (1 : Int) ((DX5_first 1 σ a1).bind fun q54 => some q54) (gIf (a2 = (2 : Int)) a2 (2 : Int) ((DX5_length 1 σ a1).bind fun q63 => some q63) (gIf (a2 = (3 : Int)) a2 (3 : Int) ((DX5_last 1 σ a1).bind fun q72 => some q72) (gIf (a2 = (4 : Int)) a2 (4 : Int) ((DX0_bandOf 87 σ a1).bind fun q81 => some q81) (gIf (a2 = (5 : Int)) a2 (5 : Int) ((DX0_rowOf 87 σ a1).bind fun q90 => some q90) ((DX8_partsOf σ a1).bind fun q96 => some q96))))))
set_option maxHeartbeats 4000000 in
set_option maxRecDepth 100000 in
theorem metX8_numberOfTask (l : Launch) (D : va_G) (G : gAd) (σ : gSt) (μ : gLg) (a1 : Int) (a2 : Int) (r : Int) (h : DX8_numberOfTask σ a1 a2 = some r) : Met l yX8_numberOfTask (gWs yX8_numberOfTask cX8_numberOfTask 3 (some (Jvm.ClassFile.FieldType.int))) ({ frames := 3, cells := 0, slots := 0, locals := 64 } : Room) (gPc D G [.ref (G.1 0), .int (gI a1), .int (gI a2)] σ μ) (gQi D G r σ μ) 0 0 (gA G) := by
  refine Met.ofW (cc := cX8_numberOfTask) (maxL := 3) (ret := (some (Jvm.ClassFile.FieldType.int))) (by decide) rfl ?_
  intro p e s m args below meth c s₁ B hml hv
  obtain ⟨rfl, hP, hX⟩ := hv
  have hx := B.exec
  have hb0 := B.bytes
  have hr := B.returns
  have hts0 := atoms_spec (ws := (gWs yX8_numberOfTask cX8_numberOfTask 3 (some (Jvm.ClassFile.FieldType.int)))) B.pre
  have hts : ∀ w ∈ gLW, w.before _ s = true := fun w hw => hts0 w (List.mem_cons_of_mem _ hw)
  have hown : s.vm.findClass RX8 = some m.cls := findClass_of_methodNamed B.named
  have hlocks := B.notSynchronized
  have hH : gH D G s s.heap [] σ μ := ⟨hP, va_S.rf⟩
  have hl := lv_entry ([.ref (G.1 0), .int (gI a1), .int (gI a2)]) (n := 3) (Nat.le_of_ble_eq_true rfl)
  rw [lg_entry_eq]
  generalize (lg_sl ([.ref (G.1 0), .int (gI a1), .int (gI a2)]) ++ List.replicate (3 - (lg_sl ([.ref (G.1 0), .int (gI a1), .int (gI a2)])).length) Slot.unset).toArray = ls at hl ⊢
  have hl : lv_has ls 3 [(0, .ref (G.1 0)), (1, .int (gI a1)), (2, .int (gI a2))] := hl
  unfold DX8_numberOfTask at h
  refine lv_iload_n hx hb0 dX8_numberOfTask_0 rfl (lv_at hl 2 rfl) ?_
  obtain ⟨hgr, -, h⟩ := gIf_some h
  rcases h with ⟨hc0, h⟩ | ⟨hc0, h⟩
  · refine g_tabIn (i := (0 : Int)) (tgt := 40) hx hb0 dX8_numberOfTask_1 hc0 (by decide) (by decide) (by decide) rfl (by decide) ?_
    refine lv_aload_n hx hb0 dX8_numberOfTask_40 rfl (lv_at hl 0 rfl) ?_
    refine g_getR hx hb0 hts q_ws_X8 hown hX hH (C := RX8) (T := TX8) (N := 10) (k := 0) (i := 0) (j := 1) (rfl : gKinds[0]? = _) rfl (by decide) (hts _ q_fl_X8_12) rfl rfl dX8_numberOfTask_41 ?_
    refine lv_iload_n hx hb0 dX8_numberOfTask_44 rfl (lv_at hl 1 rfl) ?_
    obtain ⟨q45, e45, h⟩ := gBind_some h
    refine g_callVi (k := 1) (T := TX5) (N := 8) (As := [.int (gI a1)]) (rest := []) ⟨hx, hb0, hml, hown, hts⟩ (metX5_group l D G 1 gPlan_1 σ μ a1 q45 e45) (g_cwV (C := RX5) 1 hts q_ml_X8_326 q_im_X5_group q_se_X5_group q_in_X5 q_co_X5_group ⟨rfl, rfl⟩ (by decide +kernel) ⟨Nat.le_of_ble_eq_true rfl, Nat.le_of_ble_eq_true rfl⟩) hX hH gPlan_1.k rfl rfl hl.1 rfl (Nat.le_of_ble_eq_true rfl) dX8_numberOfTask_45 ⟨Nat.zero_le _, Nat.zero_le _⟩ (fun H locs hH => ?_)
    exact g_iretP hx hb0 hr hH hlocks dX8_numberOfTask_48 h
  · obtain ⟨hgr, -, h⟩ := gIf_some h
    rcases h with ⟨hc1, h⟩ | ⟨hc1, h⟩
    · refine g_tabIn (i := (1 : Int)) (tgt := 49) hx hb0 dX8_numberOfTask_1 hc1 (by decide) (by decide) (by decide) rfl (by decide) ?_
      refine lv_aload_n hx hb0 dX8_numberOfTask_49 rfl (lv_at hl 0 rfl) ?_
      refine g_getR hx hb0 hts q_ws_X8 hown hX hH (C := RX8) (T := TX8) (N := 10) (k := 0) (i := 0) (j := 1) (rfl : gKinds[0]? = _) rfl (by decide) (hts _ q_fl_X8_12) rfl rfl dX8_numberOfTask_50 ?_
      refine lv_iload_n hx hb0 dX8_numberOfTask_53 rfl (lv_at hl 1 rfl) ?_
      obtain ⟨q54, e54, h⟩ := gBind_some h
      refine g_callVi (k := 1) (T := TX5) (N := 8) (As := [.int (gI a1)]) (rest := []) ⟨hx, hb0, hml, hown, hts⟩ (metX5_first l D G 1 gPlan_1 σ μ a1 q54 e54) (g_cwV (C := RX5) 1 hts q_ml_X8_122 q_im_X5_first q_se_X5_first q_in_X5 q_co_X5_first ⟨rfl, rfl⟩ (by decide +kernel) ⟨Nat.le_of_ble_eq_true rfl, Nat.le_of_ble_eq_true rfl⟩) hX hH gPlan_1.k rfl rfl hl.1 rfl (Nat.le_of_ble_eq_true rfl) dX8_numberOfTask_54 ⟨Nat.zero_le _, Nat.zero_le _⟩ (fun H locs hH => ?_)
      exact g_iretP hx hb0 hr hH hlocks dX8_numberOfTask_57 h
    · obtain ⟨hgr, -, h⟩ := gIf_some h
      rcases h with ⟨hc2, h⟩ | ⟨hc2, h⟩
      · refine g_tabIn (i := (2 : Int)) (tgt := 58) hx hb0 dX8_numberOfTask_1 hc2 (by decide) (by decide) (by decide) rfl (by decide) ?_
        refine lv_aload_n hx hb0 dX8_numberOfTask_58 rfl (lv_at hl 0 rfl) ?_
        refine g_getR hx hb0 hts q_ws_X8 hown hX hH (C := RX8) (T := TX8) (N := 10) (k := 0) (i := 0) (j := 1) (rfl : gKinds[0]? = _) rfl (by decide) (hts _ q_fl_X8_12) rfl rfl dX8_numberOfTask_59 ?_
        refine lv_iload_n hx hb0 dX8_numberOfTask_62 rfl (lv_at hl 1 rfl) ?_
        obtain ⟨q63, e63, h⟩ := gBind_some h
        refine g_callVi (k := 1) (T := TX5) (N := 8) (As := [.int (gI a1)]) (rest := []) ⟨hx, hb0, hml, hown, hts⟩ (metX5_length l D G 1 gPlan_1 σ μ a1 q63 e63) (g_cwV (C := RX5) 1 hts q_ml_X8_329 q_im_X5_length q_se_X5_length q_in_X5 q_co_X5_length ⟨rfl, rfl⟩ (by decide +kernel) ⟨Nat.le_of_ble_eq_true rfl, Nat.le_of_ble_eq_true rfl⟩) hX hH gPlan_1.k rfl rfl hl.1 rfl (Nat.le_of_ble_eq_true rfl) dX8_numberOfTask_63 ⟨Nat.zero_le _, Nat.zero_le _⟩ (fun H locs hH => ?_)
        exact g_iretP hx hb0 hr hH hlocks dX8_numberOfTask_66 h
      · obtain ⟨hgr, -, h⟩ := gIf_some h
        rcases h with ⟨hc3, h⟩ | ⟨hc3, h⟩
        · refine g_tabIn (i := (3 : Int)) (tgt := 67) hx hb0 dX8_numberOfTask_1 hc3 (by decide) (by decide) (by decide) rfl (by decide) ?_
          refine lv_aload_n hx hb0 dX8_numberOfTask_67 rfl (lv_at hl 0 rfl) ?_
          refine g_getR hx hb0 hts q_ws_X8 hown hX hH (C := RX8) (T := TX8) (N := 10) (k := 0) (i := 0) (j := 1) (rfl : gKinds[0]? = _) rfl (by decide) (hts _ q_fl_X8_12) rfl rfl dX8_numberOfTask_68 ?_
          refine lv_iload_n hx hb0 dX8_numberOfTask_71 rfl (lv_at hl 1 rfl) ?_
          obtain ⟨q72, e72, h⟩ := gBind_some h
          refine g_callVi (k := 1) (T := TX5) (N := 8) (As := [.int (gI a1)]) (rest := []) ⟨hx, hb0, hml, hown, hts⟩ (metX5_last l D G 1 gPlan_1 σ μ a1 q72 e72) (g_cwV (C := RX5) 1 hts q_ml_X8_240 q_im_X5_last q_se_X5_last q_in_X5 q_co_X5_last ⟨rfl, rfl⟩ (by decide +kernel) ⟨Nat.le_of_ble_eq_true rfl, Nat.le_of_ble_eq_true rfl⟩) hX hH gPlan_1.k rfl rfl hl.1 rfl (Nat.le_of_ble_eq_true rfl) dX8_numberOfTask_72 ⟨Nat.zero_le _, Nat.zero_le _⟩ (fun H locs hH => ?_)
          exact g_iretP hx hb0 hr hH hlocks dX8_numberOfTask_75 h
        · obtain ⟨hgr, -, h⟩ := gIf_some h
          rcases h with ⟨hc4, h⟩ | ⟨hc4, h⟩
          · refine g_tabIn (i := (4 : Int)) (tgt := 76) hx hb0 dX8_numberOfTask_1 hc4 (by decide) (by decide) (by decide) rfl (by decide) ?_
            refine lv_aload_n hx hb0 dX8_numberOfTask_76 rfl (lv_at hl 0 rfl) ?_
            refine g_getR hx hb0 hts q_ws_X8 hown hX hH (C := RX8) (T := TX8) (N := 10) (k := 0) (i := 5) (j := 87) (rfl : gKinds[0]? = _) rfl (by decide) (hts _ q_fl_X8_43) rfl rfl dX8_numberOfTask_77 ?_
            refine lv_iload_n hx hb0 dX8_numberOfTask_80 rfl (lv_at hl 1 rfl) ?_
            obtain ⟨q81, e81, h⟩ := gBind_some h
            refine g_callVi (k := 87) (T := TX0) (N := 8) (As := [.int (gI a1)]) (rest := []) ⟨hx, hb0, hml, hown, hts⟩ (metX0_bandOf l D G 87 gBands_87 σ μ a1 q81 e81) (g_cwV (C := RX0) 1 hts q_ml_X8_325 q_im_X0_bandOf q_se_X0_bandOf q_in_X0 q_co_X0_bandOf ⟨rfl, rfl⟩ (by decide +kernel) ⟨Nat.le_of_ble_eq_true rfl, Nat.le_of_ble_eq_true rfl⟩) hX hH gBands_87.k rfl rfl hl.1 rfl (Nat.le_of_ble_eq_true rfl) dX8_numberOfTask_81 ⟨Nat.zero_le _, Nat.zero_le _⟩ (fun H locs hH => ?_)
            exact g_iretP hx hb0 hr hH hlocks dX8_numberOfTask_84 h
          · obtain ⟨hgr, -, h⟩ := gIf_some h
            rcases h with ⟨hc5, h⟩ | ⟨hc5, h⟩
            · refine g_tabIn (i := (5 : Int)) (tgt := 85) hx hb0 dX8_numberOfTask_1 hc5 (by decide) (by decide) (by decide) rfl (by decide) ?_
              refine lv_aload_n hx hb0 dX8_numberOfTask_85 rfl (lv_at hl 0 rfl) ?_
              refine g_getR hx hb0 hts q_ws_X8 hown hX hH (C := RX8) (T := TX8) (N := 10) (k := 0) (i := 5) (j := 87) (rfl : gKinds[0]? = _) rfl (by decide) (hts _ q_fl_X8_43) rfl rfl dX8_numberOfTask_86 ?_
              refine lv_iload_n hx hb0 dX8_numberOfTask_89 rfl (lv_at hl 1 rfl) ?_
              obtain ⟨q90, e90, h⟩ := gBind_some h
              refine g_callVi (k := 87) (T := TX0) (N := 8) (As := [.int (gI a1)]) (rest := []) ⟨hx, hb0, hml, hown, hts⟩ (metX0_rowOf l D G 87 gBands_87 σ μ a1 q90 e90) (g_cwV (C := RX0) 1 hts q_ml_X8_331 q_im_X0_rowOf q_se_X0_rowOf q_in_X0 q_co_X0_rowOf ⟨rfl, rfl⟩ (by decide +kernel) ⟨Nat.le_of_ble_eq_true rfl, Nat.le_of_ble_eq_true rfl⟩) hX hH gBands_87.k rfl rfl hl.1 rfl (Nat.le_of_ble_eq_true rfl) dX8_numberOfTask_90 ⟨Nat.zero_le _, Nat.zero_le _⟩ (fun H locs hH => ?_)
              exact g_iretP hx hb0 hr hH hlocks dX8_numberOfTask_93 h
            · refine g_tabOut (tgt := 94) hx hb0 dX8_numberOfTask_1 hgr (by omega) (by decide) ?_
              refine lv_aload_n hx hb0 dX8_numberOfTask_94 rfl (lv_at hl 0 rfl) ?_
              refine lv_iload_n hx hb0 dX8_numberOfTask_95 rfl (lv_at hl 1 rfl) ?_
              obtain ⟨q96, e96, h⟩ := gBind_some h
              refine g_callVi (k := 0) (T := TX8) (N := 10) (As := [.int (gI a1)]) (rest := []) ⟨hx, hb0, hml, hown, hts⟩ (metX8_partsOf l D G σ μ a1 q96 e96) (g_cwV (C := RX8) 1 hts q_ml_X8_183 q_im_X8_partsOf q_se_X8_partsOf q_in_X8 q_co_X8_partsOf ⟨rfl, rfl⟩ (by decide +kernel) ⟨Nat.le_of_ble_eq_true rfl, Nat.le_of_ble_eq_true rfl⟩) hX hH (rfl : gKinds[0]? = _) rfl rfl hl.1 rfl (Nat.le_of_ble_eq_true rfl) dX8_numberOfTask_96 ⟨Nat.zero_le _, Nat.zero_le _⟩ (fun H locs hH => ?_)
              exact g_iretP hx hb0 hr hH hlocks dX8_numberOfTask_99 h
def DX8_bands (σ : gSt) : Option (Int) :=
  (DX0_count 87 σ).bind fun q4 => some q4
set_option maxHeartbeats 4000000 in
set_option maxRecDepth 100000 in
theorem metX8_bands (l : Launch) (D : va_G) (G : gAd) (σ : gSt) (μ : gLg) (r : Int) (h : DX8_bands σ = some r) : Met l yX8_bands (gWs yX8_bands cX8_bands 1 (some (Jvm.ClassFile.FieldType.int))) ({ frames := 1, cells := 0, slots := 0, locals := 20 } : Room) (gPc D G [.ref (G.1 0)] σ μ) (gQi D G r σ μ) 0 0 (gA G) := by
  refine Met.ofW (cc := cX8_bands) (maxL := 1) (ret := (some (Jvm.ClassFile.FieldType.int))) (by decide) rfl ?_
  intro p e s m args below meth c s₁ B hml hv
  obtain ⟨rfl, hP, hX⟩ := hv
  have hx := B.exec
  have hb0 := B.bytes
  have hr := B.returns
  have hts0 := atoms_spec (ws := (gWs yX8_bands cX8_bands 1 (some (Jvm.ClassFile.FieldType.int)))) B.pre
  have hts : ∀ w ∈ gLW, w.before _ s = true := fun w hw => hts0 w (List.mem_cons_of_mem _ hw)
  have hown : s.vm.findClass RX8 = some m.cls := findClass_of_methodNamed B.named
  have hlocks := B.notSynchronized
  have hH : gH D G s s.heap [] σ μ := ⟨hP, va_S.rf⟩
  have hl := lv_entry ([.ref (G.1 0)]) (n := 1) (Nat.le_of_ble_eq_true rfl)
  rw [lg_entry_eq]
  generalize (lg_sl ([.ref (G.1 0)]) ++ List.replicate (1 - (lg_sl ([.ref (G.1 0)])).length) Slot.unset).toArray = ls at hl ⊢
  have hl : lv_has ls 1 [(0, .ref (G.1 0))] := hl
  unfold DX8_bands at h
  refine lv_aload_n hx hb0 dX8_bands_0 rfl (lv_at hl 0 rfl) ?_
  refine g_getR hx hb0 hts q_ws_X8 hown hX hH (C := RX8) (T := TX8) (N := 10) (k := 0) (i := 5) (j := 87) (rfl : gKinds[0]? = _) rfl (by decide) (hts _ q_fl_X8_43) rfl rfl dX8_bands_1 ?_
  obtain ⟨q4, e4, h⟩ := gBind_some h
  refine g_callVi (k := 87) (T := TX0) (N := 8) (As := []) (rest := []) ⟨hx, hb0, hml, hown, hts⟩ (metX0_count l D G 87 gBands_87 σ μ q4 e4) (g_cwV (C := RX0) 0 hts q_ml_X8_157 q_im_X0_count q_se_X0_count q_in_X0 q_co_X0_count ⟨rfl, rfl⟩ (by decide +kernel) ⟨Nat.le_of_ble_eq_true rfl, Nat.le_of_ble_eq_true rfl⟩) hX hH gBands_87.k rfl rfl hl.1 rfl (Nat.le_of_ble_eq_true rfl) dX8_bands_4 ⟨Nat.zero_le _, Nat.zero_le _⟩ (fun H locs hH => ?_)
  exact g_iretP hx hb0 hr hH hlocks dX8_bands_7 h
def DX0_content (b : Nat) (σ : gSt) (a1 : Int) (a2 : Int) : Option (Int) :=
  (DX4_at (b + 1) 480 σ ((a1 * (20 : Int)) + a2)).bind fun q10 => some q10
set_option maxHeartbeats 4000000 in
set_option maxRecDepth 100000 in
theorem metX0_content (l : Launch) (D : va_G) (G : gAd) (b : Nat) (hb : gBands b) (σ : gSt) (μ : gLg) (a1 : Int) (a2 : Int) (r : Int) (h : DX0_content b σ a1 a2 = some r) : Met l yX0_content (gWs yX0_content cX0_content 3 (some (Jvm.ClassFile.FieldType.int))) ({ frames := 1, cells := 0, slots := 0, locals := 21 } : Room) (gPc D G [.ref (G.1 b), .int (gI a1), .int (gI a2)] σ μ) (gQi D G r σ μ) 0 0 (gA G) := by
  refine Met.ofW (cc := cX0_content) (maxL := 3) (ret := (some (Jvm.ClassFile.FieldType.int))) (by decide) rfl ?_
  intro p e s m args below meth c s₁ B hml hv
  obtain ⟨rfl, hP, hX⟩ := hv
  have hx := B.exec
  have hb0 := B.bytes
  have hr := B.returns
  have hts0 := atoms_spec (ws := (gWs yX0_content cX0_content 3 (some (Jvm.ClassFile.FieldType.int)))) B.pre
  have hts : ∀ w ∈ gLW, w.before _ s = true := fun w hw => hts0 w (List.mem_cons_of_mem _ hw)
  have hown : s.vm.findClass RX0 = some m.cls := findClass_of_methodNamed B.named
  have hlocks := B.notSynchronized
  have hH : gH D G s s.heap [] σ μ := ⟨hP, va_S.rf⟩
  have hl := lv_entry ([.ref (G.1 b), .int (gI a1), .int (gI a2)]) (n := 3) (Nat.le_of_ble_eq_true rfl)
  rw [lg_entry_eq]
  generalize (lg_sl ([.ref (G.1 b), .int (gI a1), .int (gI a2)]) ++ List.replicate (3 - (lg_sl ([.ref (G.1 b), .int (gI a1), .int (gI a2)])).length) Slot.unset).toArray = ls at hl ⊢
  have hl : lv_has ls 3 [(0, .ref (G.1 b)), (1, .int (gI a1)), (2, .int (gI a2))] := hl
  unfold DX0_content at h
  refine lv_aload_n hx hb0 dX0_content_0 rfl (lv_at hl 0 rfl) ?_
  refine g_getR hx hb0 hts q_ws_X0 hown hX hH (C := RX0) (T := TX0) (N := 8) (k := b) (i := 0) (j := (b + 1)) hb.k rfl (by decide) (hts _ q_fl_X0_14) rfl rfl dX0_content_1 ?_
  refine lv_iload_n hx hb0 dX0_content_4 rfl (lv_at hl 1 rfl) ?_
  refine lv_bipush (v := gI (20 : Int)) hx hb0 dX0_content_5 (by decide) ?_
  refine g_imul hx hb0 dX0_content_7 ?_
  refine lv_iload_n hx hb0 dX0_content_8 rfl (lv_at hl 2 rfl) ?_
  refine g_iadd hx hb0 dX0_content_9 ?_
  obtain ⟨q10, e10, h⟩ := gBind_some h
  refine g_callVi (k := (b + 1)) (T := TX4) (N := 1) (As := [.int (gI ((a1 * (20 : Int)) + a2))]) (rest := []) ⟨hx, hb0, hml, hown, hts⟩ (metX4_at l D G (b + 1) 480 (hb.n0) σ μ ((a1 * (20 : Int)) + a2) q10 e10) (g_cwV (C := RX4) 1 hts q_ml_X0_33 q_im_X4_at q_se_X4_at q_in_X4 q_co_X4_at ⟨rfl, rfl⟩ (by decide +kernel) ⟨Nat.le_of_ble_eq_true rfl, Nat.le_of_ble_eq_true rfl⟩) hX hH ((hb.n0)).1 rfl rfl hl.1 rfl (Nat.le_of_ble_eq_true rfl) dX0_content_10 ⟨Nat.zero_le _, Nat.zero_le _⟩ (fun H locs hH => ?_)
  exact g_iretP hx hb0 hr hH hlocks dX0_content_13 h
def DX8_sheets (σ : gSt) : Option (Int) :=
  (DX6_count 96 σ).bind fun q4 => some q4
set_option maxHeartbeats 4000000 in
set_option maxRecDepth 100000 in
theorem metX8_sheets (l : Launch) (D : va_G) (G : gAd) (σ : gSt) (μ : gLg) (r : Int) (h : DX8_sheets σ = some r) : Met l yX8_sheets (gWs yX8_sheets cX8_sheets 1 (some (Jvm.ClassFile.FieldType.int))) ({ frames := 1, cells := 0, slots := 0, locals := 20 } : Room) (gPc D G [.ref (G.1 0)] σ μ) (gQi D G r σ μ) 0 0 (gA G) := by
  refine Met.ofW (cc := cX8_sheets) (maxL := 1) (ret := (some (Jvm.ClassFile.FieldType.int))) (by decide) rfl ?_
  intro p e s m args below meth c s₁ B hml hv
  obtain ⟨rfl, hP, hX⟩ := hv
  have hx := B.exec
  have hb0 := B.bytes
  have hr := B.returns
  have hts0 := atoms_spec (ws := (gWs yX8_sheets cX8_sheets 1 (some (Jvm.ClassFile.FieldType.int)))) B.pre
  have hts : ∀ w ∈ gLW, w.before _ s = true := fun w hw => hts0 w (List.mem_cons_of_mem _ hw)
  have hown : s.vm.findClass RX8 = some m.cls := findClass_of_methodNamed B.named
  have hlocks := B.notSynchronized
  have hH : gH D G s s.heap [] σ μ := ⟨hP, va_S.rf⟩
  have hl := lv_entry ([.ref (G.1 0)]) (n := 1) (Nat.le_of_ble_eq_true rfl)
  rw [lg_entry_eq]
  generalize (lg_sl ([.ref (G.1 0)]) ++ List.replicate (1 - (lg_sl ([.ref (G.1 0)])).length) Slot.unset).toArray = ls at hl ⊢
  have hl : lv_has ls 1 [(0, .ref (G.1 0))] := hl
  unfold DX8_sheets at h
  refine lv_aload_n hx hb0 dX8_sheets_0 rfl (lv_at hl 0 rfl) ?_
  refine g_getR hx hb0 hts q_ws_X8 hown hX hH (C := RX8) (T := TX8) (N := 10) (k := 0) (i := 6) (j := 96) (rfl : gKinds[0]? = _) rfl (by decide) (hts _ q_fl_X8_50) rfl rfl dX8_sheets_1 ?_
  obtain ⟨q4, e4, h⟩ := gBind_some h
  refine g_callVi (k := 96) (T := TX6) (N := 5) (As := []) (rest := []) ⟨hx, hb0, hml, hown, hts⟩ (metX6_count l D G 96 gSheets_96 σ μ q4 e4) (g_cwV (C := RX6) 0 hts q_ml_X8_169 q_im_X6_count q_se_X6_count q_in_X6 q_co_X6_count ⟨rfl, rfl⟩ (by decide +kernel) ⟨Nat.le_of_ble_eq_true rfl, Nat.le_of_ble_eq_true rfl⟩) hX hH gSheets_96.k rfl rfl hl.1 rfl (Nat.le_of_ble_eq_true rfl) dX8_sheets_4 ⟨Nat.zero_le _, Nat.zero_le _⟩ (fun H locs hH => ?_)
  exact g_iretP hx hb0 hr hH hlocks dX8_sheets_7 h
def DX6_bandOf (b : Nat) (σ : gSt) (a1 : Int) : Option (Int) :=
  (DX4_at (b + 5) 312 σ a1).bind fun q5 => some q5
set_option maxHeartbeats 4000000 in
set_option maxRecDepth 100000 in
theorem metX6_bandOf (l : Launch) (D : va_G) (G : gAd) (b : Nat) (hb : gSheets b) (σ : gSt) (μ : gLg) (a1 : Int) (r : Int) (h : DX6_bandOf b σ a1 = some r) : Met l yX6_bandOf (gWs yX6_bandOf cX6_bandOf 2 (some (Jvm.ClassFile.FieldType.int))) ({ frames := 1, cells := 0, slots := 0, locals := 21 } : Room) (gPc D G [.ref (G.1 b), .int (gI a1)] σ μ) (gQi D G r σ μ) 0 0 (gA G) := by
  refine Met.ofW (cc := cX6_bandOf) (maxL := 2) (ret := (some (Jvm.ClassFile.FieldType.int))) (by decide) rfl ?_
  intro p e s m args below meth c s₁ B hml hv
  obtain ⟨rfl, hP, hX⟩ := hv
  have hx := B.exec
  have hb0 := B.bytes
  have hr := B.returns
  have hts0 := atoms_spec (ws := (gWs yX6_bandOf cX6_bandOf 2 (some (Jvm.ClassFile.FieldType.int)))) B.pre
  have hts : ∀ w ∈ gLW, w.before _ s = true := fun w hw => hts0 w (List.mem_cons_of_mem _ hw)
  have hown : s.vm.findClass RX6 = some m.cls := findClass_of_methodNamed B.named
  have hlocks := B.notSynchronized
  have hH : gH D G s s.heap [] σ μ := ⟨hP, va_S.rf⟩
  have hl := lv_entry ([.ref (G.1 b), .int (gI a1)]) (n := 2) (Nat.le_of_ble_eq_true rfl)
  rw [lg_entry_eq]
  generalize (lg_sl ([.ref (G.1 b), .int (gI a1)]) ++ List.replicate (2 - (lg_sl ([.ref (G.1 b), .int (gI a1)])).length) Slot.unset).toArray = ls at hl ⊢
  have hl : lv_has ls 2 [(0, .ref (G.1 b)), (1, .int (gI a1))] := hl
  unfold DX6_bandOf at h
  refine lv_aload_n hx hb0 dX6_bandOf_0 rfl (lv_at hl 0 rfl) ?_
  refine g_getR hx hb0 hts q_ws_X6 hown hX hH (C := RX6) (T := TX6) (N := 5) (k := b) (i := 2) (j := (b + 5)) hb.k rfl (by decide) (hts _ q_fl_X6_23) rfl rfl dX6_bandOf_1 ?_
  refine lv_iload_n hx hb0 dX6_bandOf_4 rfl (lv_at hl 1 rfl) ?_
  obtain ⟨q5, e5, h⟩ := gBind_some h
  refine g_callVi (k := (b + 5)) (T := TX4) (N := 1) (As := [.int (gI a1)]) (rest := []) ⟨hx, hb0, hml, hown, hts⟩ (metX4_at l D G (b + 5) 312 (hb.n2) σ μ a1 q5 e5) (g_cwV (C := RX4) 1 hts q_ml_X6_33 q_im_X4_at q_se_X4_at q_in_X4 q_co_X4_at ⟨rfl, rfl⟩ (by decide +kernel) ⟨Nat.le_of_ble_eq_true rfl, Nat.le_of_ble_eq_true rfl⟩) hX hH ((hb.n2)).1 rfl rfl hl.1 rfl (Nat.le_of_ble_eq_true rfl) dX6_bandOf_5 ⟨Nat.zero_le _, Nat.zero_le _⟩ (fun H locs hH => ?_)
  exact g_iretP hx hb0 hr hH hlocks dX6_bandOf_8 h
def DX6_stripOf (b : Nat) (σ : gSt) (a1 : Int) : Option (Int) :=
  (DX4_at (b + 7) 312 σ a1).bind fun q5 => some q5
set_option maxHeartbeats 4000000 in
set_option maxRecDepth 100000 in
theorem metX6_stripOf (l : Launch) (D : va_G) (G : gAd) (b : Nat) (hb : gSheets b) (σ : gSt) (μ : gLg) (a1 : Int) (r : Int) (h : DX6_stripOf b σ a1 = some r) : Met l yX6_stripOf (gWs yX6_stripOf cX6_stripOf 2 (some (Jvm.ClassFile.FieldType.int))) ({ frames := 1, cells := 0, slots := 0, locals := 21 } : Room) (gPc D G [.ref (G.1 b), .int (gI a1)] σ μ) (gQi D G r σ μ) 0 0 (gA G) := by
  refine Met.ofW (cc := cX6_stripOf) (maxL := 2) (ret := (some (Jvm.ClassFile.FieldType.int))) (by decide) rfl ?_
  intro p e s m args below meth c s₁ B hml hv
  obtain ⟨rfl, hP, hX⟩ := hv
  have hx := B.exec
  have hb0 := B.bytes
  have hr := B.returns
  have hts0 := atoms_spec (ws := (gWs yX6_stripOf cX6_stripOf 2 (some (Jvm.ClassFile.FieldType.int)))) B.pre
  have hts : ∀ w ∈ gLW, w.before _ s = true := fun w hw => hts0 w (List.mem_cons_of_mem _ hw)
  have hown : s.vm.findClass RX6 = some m.cls := findClass_of_methodNamed B.named
  have hlocks := B.notSynchronized
  have hH : gH D G s s.heap [] σ μ := ⟨hP, va_S.rf⟩
  have hl := lv_entry ([.ref (G.1 b), .int (gI a1)]) (n := 2) (Nat.le_of_ble_eq_true rfl)
  rw [lg_entry_eq]
  generalize (lg_sl ([.ref (G.1 b), .int (gI a1)]) ++ List.replicate (2 - (lg_sl ([.ref (G.1 b), .int (gI a1)])).length) Slot.unset).toArray = ls at hl ⊢
  have hl : lv_has ls 2 [(0, .ref (G.1 b)), (1, .int (gI a1))] := hl
  unfold DX6_stripOf at h
  refine lv_aload_n hx hb0 dX6_stripOf_0 rfl (lv_at hl 0 rfl) ?_
  refine g_getR hx hb0 hts q_ws_X6 hown hX hH (C := RX6) (T := TX6) (N := 5) (k := b) (i := 3) (j := (b + 7)) hb.k rfl (by decide) (hts _ q_fl_X6_26) rfl rfl dX6_stripOf_1 ?_
  refine lv_iload_n hx hb0 dX6_stripOf_4 rfl (lv_at hl 1 rfl) ?_
  obtain ⟨q5, e5, h⟩ := gBind_some h
  refine g_callVi (k := (b + 7)) (T := TX4) (N := 1) (As := [.int (gI a1)]) (rest := []) ⟨hx, hb0, hml, hown, hts⟩ (metX4_at l D G (b + 7) 312 (hb.n3) σ μ a1 q5 e5) (g_cwV (C := RX4) 1 hts q_ml_X6_33 q_im_X4_at q_se_X4_at q_in_X4 q_co_X4_at ⟨rfl, rfl⟩ (by decide +kernel) ⟨Nat.le_of_ble_eq_true rfl, Nat.le_of_ble_eq_true rfl⟩) hX hH ((hb.n3)).1 rfl rfl hl.1 rfl (Nat.le_of_ble_eq_true rfl) dX6_stripOf_5 ⟨Nat.zero_le _, Nat.zero_le _⟩ (fun H locs hH => ?_)
  exact g_iretP hx hb0 hr hH hlocks dX6_stripOf_8 h
def DX6_partsOn (b : Nat) (σ : gSt) (a1 : Int) : Option (Int) :=
  (DX6_bandOf b σ a1).bind fun q6 => (DX6_stripOf b σ a1).bind fun q11 => (DX6_spot σ q6 q11).bind fun q14 => (DX4_at (b + 1) 1248 σ q14).bind fun q17 => some q17
set_option maxHeartbeats 4000000 in
set_option maxRecDepth 100000 in
theorem metX6_partsOn (l : Launch) (D : va_G) (G : gAd) (b : Nat) (hb : gSheets b) (σ : gSt) (μ : gLg) (a1 : Int) (r : Int) (h : DX6_partsOn b σ a1 = some r) : Met l yX6_partsOn (gWs yX6_partsOn cX6_partsOn 2 (some (Jvm.ClassFile.FieldType.int))) ({ frames := 2, cells := 0, slots := 0, locals := 42 } : Room) (gPc D G [.ref (G.1 b), .int (gI a1)] σ μ) (gQi D G r σ μ) 0 0 (gA G) := by
  refine Met.ofW (cc := cX6_partsOn) (maxL := 2) (ret := (some (Jvm.ClassFile.FieldType.int))) (by decide) rfl ?_
  intro p e s m args below meth c s₁ B hml hv
  obtain ⟨rfl, hP, hX⟩ := hv
  have hx := B.exec
  have hb0 := B.bytes
  have hr := B.returns
  have hts0 := atoms_spec (ws := (gWs yX6_partsOn cX6_partsOn 2 (some (Jvm.ClassFile.FieldType.int)))) B.pre
  have hts : ∀ w ∈ gLW, w.before _ s = true := fun w hw => hts0 w (List.mem_cons_of_mem _ hw)
  have hown : s.vm.findClass RX6 = some m.cls := findClass_of_methodNamed B.named
  have hlocks := B.notSynchronized
  have hH : gH D G s s.heap [] σ μ := ⟨hP, va_S.rf⟩
  have hl := lv_entry ([.ref (G.1 b), .int (gI a1)]) (n := 2) (Nat.le_of_ble_eq_true rfl)
  rw [lg_entry_eq]
  generalize (lg_sl ([.ref (G.1 b), .int (gI a1)]) ++ List.replicate (2 - (lg_sl ([.ref (G.1 b), .int (gI a1)])).length) Slot.unset).toArray = ls at hl ⊢
  have hl : lv_has ls 2 [(0, .ref (G.1 b)), (1, .int (gI a1))] := hl
  unfold DX6_partsOn at h
  refine lv_aload_n hx hb0 dX6_partsOn_0 rfl (lv_at hl 0 rfl) ?_
  refine g_getR hx hb0 hts q_ws_X6 hown hX hH (C := RX6) (T := TX6) (N := 5) (k := b) (i := 0) (j := (b + 1)) hb.k rfl (by decide) (hts _ q_fl_X6_14) rfl rfl dX6_partsOn_1 ?_
  refine lv_aload_n hx hb0 dX6_partsOn_4 rfl (lv_at hl 0 rfl) ?_
  refine lv_iload_n hx hb0 dX6_partsOn_5 rfl (lv_at hl 1 rfl) ?_
  obtain ⟨q6, e6, h⟩ := gBind_some h
  refine g_callVi (k := b) (T := TX6) (N := 5) (As := [.int (gI a1)]) (rest := [.ref (G.1 (b + 1))]) ⟨hx, hb0, hml, hown, hts⟩ (metX6_bandOf l D G b hb σ μ a1 q6 e6) (g_cwV (C := RX6) 1 hts q_ml_X6_37 q_im_X6_bandOf q_se_X6_bandOf q_in_X6 q_co_X6_bandOf ⟨rfl, rfl⟩ (by decide +kernel) ⟨Nat.le_of_ble_eq_true rfl, Nat.le_of_ble_eq_true rfl⟩) hX hH hb.k rfl rfl hl.1 rfl (Nat.le_of_ble_eq_true rfl) dX6_partsOn_6 ⟨Nat.zero_le _, Nat.zero_le _⟩ (fun H locs hH => ?_)
  refine lv_aload_n hx hb0 dX6_partsOn_9 rfl (lv_at hl 0 rfl) ?_
  refine lv_iload_n hx hb0 dX6_partsOn_10 rfl (lv_at hl 1 rfl) ?_
  obtain ⟨q11, e11, h⟩ := gBind_some h
  refine g_callVi (k := b) (T := TX6) (N := 5) (As := [.int (gI a1)]) (rest := [.int (gI q6), .ref (G.1 (b + 1))]) ⟨hx, hb0, hml, hown, hts⟩ (metX6_stripOf l D G b hb σ μ a1 q11 e11) (g_cwV (C := RX6) 1 hts q_ml_X6_40 q_im_X6_stripOf q_se_X6_stripOf q_in_X6 q_co_X6_stripOf ⟨rfl, rfl⟩ (by decide +kernel) ⟨Nat.le_of_ble_eq_true rfl, Nat.le_of_ble_eq_true rfl⟩) hX hH hb.k rfl rfl hl.1 rfl (Nat.le_of_ble_eq_true rfl) dX6_partsOn_11 ⟨Nat.zero_le _, Nat.zero_le _⟩ (fun H locs hH => ?_)
  obtain ⟨q14, e14, h⟩ := gBind_some h
  refine g_callSi (As := [.int (gI q6), .int (gI q11)]) (rest := [.ref (G.1 (b + 1))]) ⟨hx, hb0, hml, hown, hts⟩ (metX6_spot l D G σ μ q6 q11 q14 e14) (g_cwS 2 hts q_ml_X6_43 q_st_X6_spot q_in_X6 q_co_X6_spot ⟨rfl, rfl⟩ (by decide +kernel) ⟨Nat.le_of_ble_eq_true rfl, Nat.le_of_ble_eq_true rfl⟩) hX hH rfl hl.1 rfl (Nat.le_of_ble_eq_true rfl) dX6_partsOn_14 ⟨Nat.zero_le _, Nat.zero_le _⟩ (fun H locs hH => ?_)
  obtain ⟨q17, e17, h⟩ := gBind_some h
  refine g_callVi (k := (b + 1)) (T := TX4) (N := 1) (As := [.int (gI q14)]) (rest := []) ⟨hx, hb0, hml, hown, hts⟩ (metX4_at l D G (b + 1) 1248 (hb.n0) σ μ q14 q17 e17) (g_cwV (C := RX4) 1 hts q_ml_X6_33 q_im_X4_at q_se_X4_at q_in_X4 q_co_X4_at ⟨rfl, rfl⟩ (by decide +kernel) ⟨Nat.le_of_ble_eq_true rfl, Nat.le_of_ble_eq_true rfl⟩) hX hH ((hb.n0)).1 rfl rfl hl.1 rfl (Nat.le_of_ble_eq_true rfl) dX6_partsOn_17 ⟨Nat.zero_le _, Nat.zero_le _⟩ (fun H locs hH => ?_)
  exact g_iretP hx hb0 hr hH hlocks dX6_partsOn_20 h
def DX2_standingOn (b : Nat) (σ : gSt) (a1 : Int) : Option (Int) :=
  (DX4_at (b + 9) 312 σ a1).bind fun q5 => some q5
set_option maxHeartbeats 4000000 in
set_option maxRecDepth 100000 in
theorem metX2_standingOn (l : Launch) (D : va_G) (G : gAd) (b : Nat) (hb : gExits b) (σ : gSt) (μ : gLg) (a1 : Int) (r : Int) (h : DX2_standingOn b σ a1 = some r) : Met l yX2_standingOn (gWs yX2_standingOn cX2_standingOn 2 (some (Jvm.ClassFile.FieldType.int))) ({ frames := 1, cells := 0, slots := 0, locals := 21 } : Room) (gPc D G [.ref (G.1 b), .int (gI a1)] σ μ) (gQi D G r σ μ) 0 0 (gA G) := by
  refine Met.ofW (cc := cX2_standingOn) (maxL := 2) (ret := (some (Jvm.ClassFile.FieldType.int))) (by decide) rfl ?_
  intro p e s m args below meth c s₁ B hml hv
  obtain ⟨rfl, hP, hX⟩ := hv
  have hx := B.exec
  have hb0 := B.bytes
  have hr := B.returns
  have hts0 := atoms_spec (ws := (gWs yX2_standingOn cX2_standingOn 2 (some (Jvm.ClassFile.FieldType.int)))) B.pre
  have hts : ∀ w ∈ gLW, w.before _ s = true := fun w hw => hts0 w (List.mem_cons_of_mem _ hw)
  have hown : s.vm.findClass RX2 = some m.cls := findClass_of_methodNamed B.named
  have hlocks := B.notSynchronized
  have hH : gH D G s s.heap [] σ μ := ⟨hP, va_S.rf⟩
  have hl := lv_entry ([.ref (G.1 b), .int (gI a1)]) (n := 2) (Nat.le_of_ble_eq_true rfl)
  rw [lg_entry_eq]
  generalize (lg_sl ([.ref (G.1 b), .int (gI a1)]) ++ List.replicate (2 - (lg_sl ([.ref (G.1 b), .int (gI a1)])).length) Slot.unset).toArray = ls at hl ⊢
  have hl : lv_has ls 2 [(0, .ref (G.1 b)), (1, .int (gI a1))] := hl
  unfold DX2_standingOn at h
  refine lv_aload_n hx hb0 dX2_standingOn_0 rfl (lv_at hl 0 rfl) ?_
  refine g_getR hx hb0 hts q_ws_X2 hown hX hH (C := RX2) (T := TX2) (N := 7) (k := b) (i := 4) (j := (b + 9)) hb.k rfl (by decide) (hts _ q_fl_X2_29) rfl rfl dX2_standingOn_1 ?_
  refine lv_iload_n hx hb0 dX2_standingOn_4 rfl (lv_at hl 1 rfl) ?_
  obtain ⟨q5, e5, h⟩ := gBind_some h
  refine g_callVi (k := (b + 9)) (T := TX4) (N := 1) (As := [.int (gI a1)]) (rest := []) ⟨hx, hb0, hml, hown, hts⟩ (metX4_at l D G (b + 9) 312 (hb.n4) σ μ a1 q5 e5) (g_cwV (C := RX4) 1 hts q_ml_X2_39 q_im_X4_at q_se_X4_at q_in_X4 q_co_X4_at ⟨rfl, rfl⟩ (by decide +kernel) ⟨Nat.le_of_ble_eq_true rfl, Nat.le_of_ble_eq_true rfl⟩) hX hH ((hb.n4)).1 rfl rfl hl.1 rfl (Nat.le_of_ble_eq_true rfl) dX2_standingOn_5 ⟨Nat.zero_le _, Nat.zero_le _⟩ (fun H locs hH => ?_)
  exact g_iretP hx hb0 hr hH hlocks dX2_standingOn_8 h
def DX2_drawnOn (b : Nat) (σ : gSt) (a1 : Int) : Option (Int) :=
  (DX4_at (b + 11) 312 σ a1).bind fun q5 => some q5
set_option maxHeartbeats 4000000 in
set_option maxRecDepth 100000 in
theorem metX2_drawnOn (l : Launch) (D : va_G) (G : gAd) (b : Nat) (hb : gExits b) (σ : gSt) (μ : gLg) (a1 : Int) (r : Int) (h : DX2_drawnOn b σ a1 = some r) : Met l yX2_drawnOn (gWs yX2_drawnOn cX2_drawnOn 2 (some (Jvm.ClassFile.FieldType.int))) ({ frames := 1, cells := 0, slots := 0, locals := 21 } : Room) (gPc D G [.ref (G.1 b), .int (gI a1)] σ μ) (gQi D G r σ μ) 0 0 (gA G) := by
  refine Met.ofW (cc := cX2_drawnOn) (maxL := 2) (ret := (some (Jvm.ClassFile.FieldType.int))) (by decide) rfl ?_
  intro p e s m args below meth c s₁ B hml hv
  obtain ⟨rfl, hP, hX⟩ := hv
  have hx := B.exec
  have hb0 := B.bytes
  have hr := B.returns
  have hts0 := atoms_spec (ws := (gWs yX2_drawnOn cX2_drawnOn 2 (some (Jvm.ClassFile.FieldType.int)))) B.pre
  have hts : ∀ w ∈ gLW, w.before _ s = true := fun w hw => hts0 w (List.mem_cons_of_mem _ hw)
  have hown : s.vm.findClass RX2 = some m.cls := findClass_of_methodNamed B.named
  have hlocks := B.notSynchronized
  have hH : gH D G s s.heap [] σ μ := ⟨hP, va_S.rf⟩
  have hl := lv_entry ([.ref (G.1 b), .int (gI a1)]) (n := 2) (Nat.le_of_ble_eq_true rfl)
  rw [lg_entry_eq]
  generalize (lg_sl ([.ref (G.1 b), .int (gI a1)]) ++ List.replicate (2 - (lg_sl ([.ref (G.1 b), .int (gI a1)])).length) Slot.unset).toArray = ls at hl ⊢
  have hl : lv_has ls 2 [(0, .ref (G.1 b)), (1, .int (gI a1))] := hl
  unfold DX2_drawnOn at h
  refine lv_aload_n hx hb0 dX2_drawnOn_0 rfl (lv_at hl 0 rfl) ?_
  refine g_getR hx hb0 hts q_ws_X2 hown hX hH (C := RX2) (T := TX2) (N := 7) (k := b) (i := 5) (j := (b + 11)) hb.k rfl (by decide) (hts _ q_fl_X2_32) rfl rfl dX2_drawnOn_1 ?_
  refine lv_iload_n hx hb0 dX2_drawnOn_4 rfl (lv_at hl 1 rfl) ?_
  obtain ⟨q5, e5, h⟩ := gBind_some h
  refine g_callVi (k := (b + 11)) (T := TX4) (N := 1) (As := [.int (gI a1)]) (rest := []) ⟨hx, hb0, hml, hown, hts⟩ (metX4_at l D G (b + 11) 312 (hb.n5) σ μ a1 q5 e5) (g_cwV (C := RX4) 1 hts q_ml_X2_39 q_im_X4_at q_se_X4_at q_in_X4 q_co_X4_at ⟨rfl, rfl⟩ (by decide +kernel) ⟨Nat.le_of_ble_eq_true rfl, Nat.le_of_ble_eq_true rfl⟩) hX hH ((hb.n5)).1 rfl rfl hl.1 rfl (Nat.le_of_ble_eq_true rfl) dX2_drawnOn_5 ⟨Nat.zero_le _, Nat.zero_le _⟩ (fun H locs hH => ?_)
  exact g_iretP hx hb0 hr hH hlocks dX2_drawnOn_8 h
