def DX5_hasArrowBetween_J30 (R2 : Int → Option (Int)) (x3_2 : Int) : Option (Int) :=
  (R2 (x3_2 + (1 : Int)))
def DX5_hasArrowBetween_L2 (b : Nat) (σ : gSt) (a1 : Int) (a2 : Int) : Nat → Int → Option (Int)
  | 0, _ => none
  | f2 + 1, x3_2 => gIf (x3_2 < (σ b 7)) x3_2 (σ b 7) ((DX5_from b σ x3_2).bind fun q12 => gIf (q12 = a1) q12 a1 ((DX5_to b σ x3_2).bind fun q21 => gIf (q21 = a2) q21 a2 (gBo (1 : Int) (some (1 : Int))) ((DX5_hasArrowBetween_J30 (DX5_hasArrowBetween_L2 b σ a1 a2 f2) x3_2))) ((DX5_hasArrowBetween_J30 (DX5_hasArrowBetween_L2 b σ a1 a2 f2) x3_2))) (gBo (0 : Int) (some (0 : Int)))
def DX5_hasArrowBetween (b : Nat) (σ : gSt) (a1 : Int) (a2 : Int) : Option (Int) :=
  (DX5_hasArrowBetween_L2 b σ a1 a2 gFuel (0 : Int))
set_option maxHeartbeats 4000000 in
set_option maxRecDepth 100000 in
theorem metX5_hasArrowBetween (l : Launch) (D : va_G) (G : gAd) (b : Nat) (hb : gPlan b) (σ : gSt) (μ : gLg) (a1 : Int) (a2 : Int) (r : Int) (h : DX5_hasArrowBetween b σ a1 a2 = some r) : Met l yX5_hasArrowBetween (gWs yX5_hasArrowBetween cX5_hasArrowBetween 4 (some (Jvm.ClassFile.FieldType.boolean))) ({ frames := 2, cells := 0, slots := 0, locals := 42 } : Room) (gPc D G [.ref (G.1 b), .int (gI a1), .int (gI a2)] σ μ) (gQi D G r σ μ) 0 0 (gA G) := by
  refine Met.ofW (cc := cX5_hasArrowBetween) (maxL := 4) (ret := (some (Jvm.ClassFile.FieldType.boolean))) (by decide) rfl ?_
  intro p e s m args below meth c s₁ B hml hv
  obtain ⟨rfl, hP, hX⟩ := hv
  have hx := B.exec
  have hb0 := B.bytes
  have hr := B.returns
  have hts0 := atoms_spec (ws := (gWs yX5_hasArrowBetween cX5_hasArrowBetween 4 (some (Jvm.ClassFile.FieldType.boolean)))) B.pre
  have hts : ∀ w ∈ gLW, w.before _ s = true := fun w hw => hts0 w (List.mem_cons_of_mem _ hw)
  have hown : s.vm.findClass RX5 = some m.cls := findClass_of_methodNamed B.named
  have hlocks := B.notSynchronized
  have hH : gH D G s s.heap [] σ μ := ⟨hP, va_S.rf⟩
  have hl := lv_entry ([.ref (G.1 b), .int (gI a1), .int (gI a2)]) (n := 4) (Nat.le_of_ble_eq_true rfl)
  rw [lg_entry_eq]
  generalize (lg_sl ([.ref (G.1 b), .int (gI a1), .int (gI a2)]) ++ List.replicate (4 - (lg_sl ([.ref (G.1 b), .int (gI a1), .int (gI a2)])).length) Slot.unset).toArray = ls at hl ⊢
  have hl : lv_has ls 4 [(0, .ref (G.1 b)), (1, .int (gI a1)), (2, .int (gI a2))] := hl
  unfold DX5_hasArrowBetween at h
  refine lv_iconst (v := gI (0 : Int)) hx hb0 dX5_hasArrowBetween_0 (by decide) ?_
  refine lv_istore_n (lv' := [(3, .int (gI (0 : Int))), (0, .ref (G.1 b)), (1, .int (gI a1)), (2, .int (gI a2))]) hx hb0 dX5_hasArrowBetween_1 rfl hl (by decide) rfl (fun ls hl => ?_)
  have hL2 : ∀ (f2 : Nat) (x3_2 : Int) (H : Heap) (locs : List Loc) (ls : Array Slot), gH D G s H locs σ μ → lv_has ls 4 [(3, .int (gI x3_2)), (0, .ref (G.1 b)), (1, .int (gI a1)), (2, .int (gI a2))] → (DX5_hasArrowBetween_L2 b σ a1 a2 f2 x3_2) = some r → W p l e (headSpec (gWs yX5_hasArrowBetween cX5_hasArrowBetween 4 (some (Jvm.ClassFile.FieldType.boolean))) ({ frames := 2, cells := 0, slots := 0, locals := 42 } : Room)).room s m ([.ref (G.1 b), .int (gI a1), .int (gI a2)] : List Value).toArray below meth c H locs 0 0 (MQ below (gQi D G r σ μ) ([.ref (G.1 b), .int (gI a1), .int (gI a2)] : List Value).toArray s 0 0 (gA G)) (F0 m 2 ls []) := by
    intro f2
    induction f2 with
    | zero => intro x3_2 H locs ls hH hl h; cases h
    | succ f2 ih2 =>
      intro x3_2 H locs ls hH hl h
      unfold DX5_hasArrowBetween_L2 at h
      refine lv_iload_n hx hb0 dX5_hasArrowBetween_2 rfl (lv_at hl 0 rfl) ?_
      refine lv_aload_n hx hb0 dX5_hasArrowBetween_3 rfl (lv_at hl 1 rfl) ?_
      refine g_getI hx hb0 hts q_ws_X5 hown hX hH (C := RX5) (T := TX5) (N := 8) (k := b) (i := 7) hb.k rfl (by decide) (hts _ q_fl_X5_51) rfl rfl dX5_hasArrowBetween_4 ?_
      refine g_icmp_ge (tgt := 36) hx hb0 dX5_hasArrowBetween_7 (by decide) h (fun h => ?_) (fun h => ?_)
      · refine lv_iconst (v := gI (0 : Int)) hx hb0 dX5_hasArrowBetween_36 (by decide) ?_
        exact g_zretP hx hb0 hr hH hlocks dX5_hasArrowBetween_37 h
      · refine lv_aload_n hx hb0 dX5_hasArrowBetween_10 rfl (lv_at hl 1 rfl) ?_
        refine lv_iload_n hx hb0 dX5_hasArrowBetween_11 rfl (lv_at hl 0 rfl) ?_
        obtain ⟨q12, e12, h⟩ := gBind_some h
        refine g_callVi (k := b) (T := TX5) (N := 8) (As := [.int (gI x3_2)]) (rest := []) ⟨hx, hb0, hml, hown, hts⟩ (metX5_from l D G b hb σ μ x3_2 q12 e12) (g_cwV (C := RX5) 1 hts q_ml_X5_60 q_im_X5_from q_se_X5_from q_in_X5 q_co_X5_from ⟨rfl, rfl⟩ (by decide +kernel) ⟨Nat.le_of_ble_eq_true rfl, Nat.le_of_ble_eq_true rfl⟩) hX hH hb.k rfl rfl hl.1 rfl (Nat.le_of_ble_eq_true rfl) dX5_hasArrowBetween_12 ⟨Nat.zero_le _, Nat.zero_le _⟩ (fun H locs hH => ?_)
        refine lv_iload_n hx hb0 dX5_hasArrowBetween_15 rfl (lv_at hl 2 rfl) ?_
        have hJ30 : ∀  (H : Heap) (locs : List Loc) (ls : Array Slot), gH D G s H locs σ μ → lv_has ls 4 [(3, .int (gI x3_2)), (0, .ref (G.1 b)), (1, .int (gI a1)), (2, .int (gI a2))] → (DX5_hasArrowBetween_J30 (DX5_hasArrowBetween_L2 b σ a1 a2 f2) x3_2) = some r → W p l e (headSpec (gWs yX5_hasArrowBetween cX5_hasArrowBetween 4 (some (Jvm.ClassFile.FieldType.boolean))) ({ frames := 2, cells := 0, slots := 0, locals := 42 } : Room)).room s m ([.ref (G.1 b), .int (gI a1), .int (gI a2)] : List Value).toArray below meth c H locs 0 0 (MQ below (gQi D G r σ μ) ([.ref (G.1 b), .int (gI a1), .int (gI a2)] : List Value).toArray s 0 0 (gA G)) (F0 m 30 ls []) := by
          intro H locs ls hH hl h
          unfold DX5_hasArrowBetween_J30 at h
          refine g_iinc (k := 0) (n := (1 : Int)) (lv' := [(3, .int (gI (x3_2 + (1 : Int)))), (0, .ref (G.1 b)), (1, .int (gI a1)), (2, .int (gI a2))]) hx hb0 dX5_hasArrowBetween_30 hl rfl (by decide) rfl (fun ls hl => ?_)
          refine lv_goto (tgt := 2) hx hb0 dX5_hasArrowBetween_33 (by decide) ?_
          exact ih2 _ _ _ _ hH (lv_sub hl [0, 1, 2, 3] rfl) h
        refine g_icmp_ne (tgt := 30) hx hb0 dX5_hasArrowBetween_16 (by decide) h (fun h => ?_) (fun h => ?_)
        · exact hJ30  _ _ _ hH (lv_sub hl [0, 1, 2, 3] rfl) h
        · refine lv_aload_n hx hb0 dX5_hasArrowBetween_19 rfl (lv_at hl 1 rfl) ?_
          refine lv_iload_n hx hb0 dX5_hasArrowBetween_20 rfl (lv_at hl 0 rfl) ?_
          obtain ⟨q21, e21, h⟩ := gBind_some h
          refine g_callVi (k := b) (T := TX5) (N := 8) (As := [.int (gI x3_2)]) (rest := []) ⟨hx, hb0, hml, hown, hts⟩ (metX5_to l D G b hb σ μ x3_2 q21 e21) (g_cwV (C := RX5) 1 hts q_ml_X5_54 q_im_X5_to q_se_X5_to q_in_X5 q_co_X5_to ⟨rfl, rfl⟩ (by decide +kernel) ⟨Nat.le_of_ble_eq_true rfl, Nat.le_of_ble_eq_true rfl⟩) hX hH hb.k rfl rfl hl.1 rfl (Nat.le_of_ble_eq_true rfl) dX5_hasArrowBetween_21 ⟨Nat.zero_le _, Nat.zero_le _⟩ (fun H locs hH => ?_)
          refine lv_iload_n hx hb0 dX5_hasArrowBetween_24 rfl (lv_at hl 3 rfl) ?_
          refine g_icmp_ne (tgt := 30) hx hb0 dX5_hasArrowBetween_25 (by decide) h (fun h => ?_) (fun h => ?_)
          · exact hJ30  _ _ _ hH (lv_sub hl [0, 1, 2, 3] rfl) h
          · refine lv_iconst (v := gI (1 : Int)) hx hb0 dX5_hasArrowBetween_28 (by decide) ?_
            exact g_zretP hx hb0 hr hH hlocks dX5_hasArrowBetween_29 h
  exact hL2 gFuel _ _ _ _ hH (lv_sub hl [0, 1, 2, 3] rfl) h
def DX5_tellArrow (b : Nat) (σ : gSt) (a1 : Int) (a2 : Int) : Option (Int × gSt) :=
  gIf ((σ b 7) < (30 : Int)) (σ b 7) (30 : Int) ((DX4_put (b + 9) 30 σ (σ b 7) a1).bind fun q20 => (DX4_put (b + 11) 30 q20 (q20 b 7) a2).bind fun q32 => some ((((gUp q32 b 7 ((q32 b 7) + (1 : Int))) b 7) - (1 : Int)), (gUp q32 b 7 ((q32 b 7) + (1 : Int))))) (some ((-1 : Int), σ))
set_option maxHeartbeats 4000000 in
set_option maxRecDepth 100000 in
theorem metX5_tellArrow (l : Launch) (D : va_G) (G : gAd) (b : Nat) (hb : gPlan b) (σ : gSt) (μ : gLg) (a1 : Int) (a2 : Int) (r : Int) (σ' : gSt) (h : DX5_tellArrow b σ a1 a2 = some (r, σ')) : Met l yX5_tellArrow (gWs yX5_tellArrow cX5_tellArrow 3 (some (Jvm.ClassFile.FieldType.int))) ({ frames := 1, cells := 0, slots := 0, locals := 22 } : Room) (gPc D G [.ref (G.1 b), .int (gI a1), .int (gI a2)] σ μ) (gQi D G r σ' μ) 0 0 (gA G) := by
  refine Met.ofW (cc := cX5_tellArrow) (maxL := 3) (ret := (some (Jvm.ClassFile.FieldType.int))) (by decide) rfl ?_
  intro p e s m args below meth c s₁ B hml hv
  obtain ⟨rfl, hP, hX⟩ := hv
  have hx := B.exec
  have hb0 := B.bytes
  have hr := B.returns
  have hts0 := atoms_spec (ws := (gWs yX5_tellArrow cX5_tellArrow 3 (some (Jvm.ClassFile.FieldType.int)))) B.pre
  have hts : ∀ w ∈ gLW, w.before _ s = true := fun w hw => hts0 w (List.mem_cons_of_mem _ hw)
  have hown : s.vm.findClass RX5 = some m.cls := findClass_of_methodNamed B.named
  have hlocks := B.notSynchronized
  have hH : gH D G s s.heap [] σ μ := ⟨hP, va_S.rf⟩
  have hl := lv_entry ([.ref (G.1 b), .int (gI a1), .int (gI a2)]) (n := 3) (Nat.le_of_ble_eq_true rfl)
  rw [lg_entry_eq]
  generalize (lg_sl ([.ref (G.1 b), .int (gI a1), .int (gI a2)]) ++ List.replicate (3 - (lg_sl ([.ref (G.1 b), .int (gI a1), .int (gI a2)])).length) Slot.unset).toArray = ls at hl ⊢
  have hl : lv_has ls 3 [(0, .ref (G.1 b)), (1, .int (gI a1)), (2, .int (gI a2))] := hl
  unfold DX5_tellArrow at h
  refine lv_aload_n hx hb0 dX5_tellArrow_0 rfl (lv_at hl 0 rfl) ?_
  refine g_getI hx hb0 hts q_ws_X5 hown hX hH (C := RX5) (T := TX5) (N := 8) (k := b) (i := 7) hb.k rfl (by decide) (hts _ q_fl_X5_51) rfl rfl dX5_tellArrow_1 ?_
  refine lv_bipush (v := gI (30 : Int)) hx hb0 dX5_tellArrow_4 (by decide) ?_
  refine g_icmp_lt (tgt := 11) hx hb0 dX5_tellArrow_6 (by decide) h (fun h => ?_) (fun h => ?_)
  · refine lv_aload_n hx hb0 dX5_tellArrow_11 rfl (lv_at hl 0 rfl) ?_
    refine g_getR hx hb0 hts q_ws_X5 hown hX hH (C := RX5) (T := TX5) (N := 8) (k := b) (i := 4) (j := (b + 9)) hb.k rfl (by decide) (hts _ q_fl_X5_29) rfl rfl dX5_tellArrow_12 ?_
    refine lv_aload_n hx hb0 dX5_tellArrow_15 rfl (lv_at hl 0 rfl) ?_
    refine g_getI hx hb0 hts q_ws_X5 hown hX hH (C := RX5) (T := TX5) (N := 8) (k := b) (i := 7) hb.k rfl (by decide) (hts _ q_fl_X5_51) rfl rfl dX5_tellArrow_16 ?_
    refine lv_iload_n hx hb0 dX5_tellArrow_19 rfl (lv_at hl 1 rfl) ?_
    obtain ⟨q20, e20, h⟩ := gBind_some h
    refine g_callVv (k := (b + 9)) (T := TX4) (N := 1) (As := [.int (gI (σ b 7)), .int (gI a1)]) (rest := []) ⟨hx, hb0, hml, hown, hts⟩ (metX4_put l D G (b + 9) 30 (hb.n4) σ μ (σ b 7) a1 q20 e20) (g_cwV (C := RX4) 2 hts q_ml_X5_39 q_im_X4_put q_se_X4_put q_in_X4 q_co_X4_put ⟨rfl, rfl⟩ (by decide +kernel) ⟨Nat.le_of_ble_eq_true rfl, Nat.le_of_ble_eq_true rfl⟩) hX hH ((hb.n4)).1 rfl rfl hl.1 rfl (Nat.le_of_ble_eq_true rfl) dX5_tellArrow_20 ⟨Nat.zero_le _, Nat.zero_le _⟩ (fun H locs hH => ?_)
    refine lv_aload_n hx hb0 dX5_tellArrow_23 rfl (lv_at hl 0 rfl) ?_
    refine g_getR hx hb0 hts q_ws_X5 hown hX hH (C := RX5) (T := TX5) (N := 8) (k := b) (i := 5) (j := (b + 11)) hb.k rfl (by decide) (hts _ q_fl_X5_32) rfl rfl dX5_tellArrow_24 ?_
    refine lv_aload_n hx hb0 dX5_tellArrow_27 rfl (lv_at hl 0 rfl) ?_
    refine g_getI hx hb0 hts q_ws_X5 hown hX hH (C := RX5) (T := TX5) (N := 8) (k := b) (i := 7) hb.k rfl (by decide) (hts _ q_fl_X5_51) rfl rfl dX5_tellArrow_28 ?_
    refine lv_iload_n hx hb0 dX5_tellArrow_31 rfl (lv_at hl 2 rfl) ?_
    obtain ⟨q32, e32, h⟩ := gBind_some h
    refine g_callVv (k := (b + 11)) (T := TX4) (N := 1) (As := [.int (gI (q20 b 7)), .int (gI a2)]) (rest := []) ⟨hx, hb0, hml, hown, hts⟩ (metX4_put l D G (b + 11) 30 (hb.n5) q20 μ (q20 b 7) a2 q32 e32) (g_cwV (C := RX4) 2 hts q_ml_X5_39 q_im_X4_put q_se_X4_put q_in_X4 q_co_X4_put ⟨rfl, rfl⟩ (by decide +kernel) ⟨Nat.le_of_ble_eq_true rfl, Nat.le_of_ble_eq_true rfl⟩) hX hH ((hb.n5)).1 rfl rfl hl.1 rfl (Nat.le_of_ble_eq_true rfl) dX5_tellArrow_32 ⟨Nat.zero_le _, Nat.zero_le _⟩ (fun H locs hH => ?_)
    refine lv_aload_n hx hb0 dX5_tellArrow_35 rfl (lv_at hl 0 rfl) ?_
    refine lv_dup hx hb0 dX5_tellArrow_36 rfl ?_
    refine g_getI hx hb0 hts q_ws_X5 hown hX hH (C := RX5) (T := TX5) (N := 8) (k := b) (i := 7) hb.k rfl (by decide) (hts _ q_fl_X5_51) rfl rfl dX5_tellArrow_37 ?_
    refine lv_iconst (v := gI (1 : Int)) hx hb0 dX5_tellArrow_40 (by decide) ?_
    refine g_iadd hx hb0 dX5_tellArrow_41 ?_
    refine g_putI hx hb0 hts q_ws_X5 tyX5 tyX5_ok nmX5 hown hX hH (C := RX5) (T := TX5) (N := 8) (k := b) (i := 7) hb.k rfl (by decide) (hts _ q_fl_X5_51) rfl rfl rfl rfl dX5_tellArrow_42 (fun H locs hH => ?_)
    refine lv_aload_n hx hb0 dX5_tellArrow_45 rfl (lv_at hl 0 rfl) ?_
    refine g_getI hx hb0 hts q_ws_X5 hown hX hH (C := RX5) (T := TX5) (N := 8) (k := b) (i := 7) hb.k rfl (by decide) (hts _ q_fl_X5_51) rfl rfl dX5_tellArrow_46 ?_
    refine lv_iconst (v := gI (1 : Int)) hx hb0 dX5_tellArrow_49 (by decide) ?_
    refine g_isub hx hb0 dX5_tellArrow_50 ?_
    exact g_iretS hx hb0 hr hH hlocks dX5_tellArrow_51 h
  · refine lv_iconst (v := gI (-1 : Int)) hx hb0 dX5_tellArrow_9 (by decide) ?_
    exact g_iretS hx hb0 hr hH hlocks dX5_tellArrow_10 h
def DX8_addArrow_J49  : Option (Nat ⊕ (Int × gSt)) :=
  some (.inl 2)
def DX8_addArrow (σ : gSt) (a1 : Int) (a2 : Int) : Option (Nat ⊕ (Int × gSt)) :=
  gXb (DX8_requireTask σ a1) fun _ => gXb (DX8_requireTask σ a2) fun _ => gIf (a1 = a2) a1 a2 (some (.inl 1)) ((DX5_hasArrowBetween 1 σ a1 a2).bind fun q31 => gIf (q31 = (0 : Int)) q31 (0 : Int) ((DX5_arrowCount 1 σ).bind fun q41 => gIf (q41 < (30 : Int)) q41 (30 : Int) ((DX3_save 1 σ).bind fun q67 => (DX5_tellArrow 1 q67 a1 a2).bind fun q76 => (DX8_printAnew q76.2).bind fun q81 => some (.inr (q76.1, q81))) ((DX8_addArrow_J49))) ((DX8_addArrow_J49)))
set_option maxHeartbeats 4000000 in
set_option maxRecDepth 100000 in
theorem metX8_addArrow (l : Launch) (hlt : l.stackTraces = false) (D : va_G) (G : gAd) (σ : gSt) (μ : gLg) (a1 : Int) (a2 : Int) (r : Nat ⊕ (Int × gSt)) (h : DX8_addArrow σ a1 a2 = some r) : vx_Met l yX8_addArrow (gWs yX8_addArrow cX8_addArrow 4 (some (Jvm.ClassFile.FieldType.int))) ({ frames := 7, cells := 3, slots := 18, locals := 131 } : Room) (gPc D G [.ref (G.1 0), .int (gI a1), .int (gI a2)] σ μ) (gXs D G r μ) (gXC D G r σ μ) 3 18 (gA G) := by
  refine vx_ofW (cc := cX8_addArrow) (maxL := 4) (ret := (some (Jvm.ClassFile.FieldType.int))) (by decide) rfl ?_
  intro p e s m args below meth c s₁ B hml hxt hv
  obtain ⟨rfl, hP, hX⟩ := hv
  have hx := B.exec
  have hb0 := B.bytes
  have hr := B.returns
  have hts0 := atoms_spec (ws := (gWs yX8_addArrow cX8_addArrow 4 (some (Jvm.ClassFile.FieldType.int)))) B.pre
  have hts : ∀ w ∈ gLW, w.before _ s = true := fun w hw => hts0 w (List.mem_cons_of_mem _ hw)
  have hown : s.vm.findClass RX8 = some m.cls := findClass_of_methodNamed B.named
  have hlocks := B.notSynchronized
  have hH : gH D G s s.heap [] σ μ := ⟨hP, va_S.rf⟩
  have hl := lv_entry ([.ref (G.1 0), .int (gI a1), .int (gI a2)]) (n := 4) (Nat.le_of_ble_eq_true rfl)
  rw [lg_entry_eq]
  generalize (lg_sl ([.ref (G.1 0), .int (gI a1), .int (gI a2)]) ++ List.replicate (4 - (lg_sl ([.ref (G.1 0), .int (gI a1), .int (gI a2)])).length) Slot.unset).toArray = ls at hl ⊢
  have hl : lv_has ls 4 [(0, .ref (G.1 0)), (1, .int (gI a1)), (2, .int (gI a2))] := hl
  unfold DX8_addArrow at h
  refine lv_aload_n hx hb0 dX8_addArrow_0 rfl (lv_at hl 0 rfl) ?_
  refine lv_iload_n hx hb0 dX8_addArrow_1 rfl (lv_at hl 1 rfl) ?_
  obtain ⟨q2, e2, h⟩ := gXb_some h
  refine g_xcallVv (k := 0) (T := TX8) (N := 10) (As := [.int (gI a1)]) (rest := []) (x := q2) ⟨hx, hb0, hml, hown, hts⟩ (metX8_requireTask l hlt D G σ μ a1 q2 e2) (g_cwX (C := RX8) 1 hts q_ml_X8_116 q_im_X8_requireTask q_se_X8_requireTask q_in_X8 q_co_X8_requireTask ⟨rfl, rfl⟩ (by decide +kernel) ⟨Nat.le_of_ble_eq_true rfl, Nat.le_of_ble_eq_true rfl⟩) hX hH (rfl : gKinds[0]? = _) rfl rfl hl.1 rfl (Nat.le_of_ble_eq_true rfl) dX8_addArrow_2 ⟨Nat.le_of_ble_eq_true rfl, Nat.le_of_ble_eq_true rfl⟩ (fun k9 E9 ce9 q9 H locs hk9 hE9 hH h1 h2 h3 => ?_) (fun hk9 H locs hH => ?_)
  · rcases h with ⟨k8, h8, h⟩ | ⟨a8, h8, h⟩
    · rw [h8] at hk9
      cases hk9
      exact g_xout hxt hlocks hE9 hH h1 h2 h3 (Nat.le_of_ble_eq_true rfl) (Nat.le_of_ble_eq_true rfl) h
    · rw [h8] at hk9
      cases hk9
  · rcases h with ⟨k8, h8, h⟩ | ⟨a8, h8, h⟩
    · rw [h8] at hk9
      cases hk9
    · refine lv_aload_n hx hb0 dX8_addArrow_5 rfl (lv_at hl 0 rfl) ?_
      refine lv_iload_n hx hb0 dX8_addArrow_6 rfl (lv_at hl 2 rfl) ?_
      obtain ⟨q7, e7, h⟩ := gXb_some h
      refine g_xcallVv (k := 0) (T := TX8) (N := 10) (As := [.int (gI a2)]) (rest := []) (x := q7) ⟨hx, hb0, hml, hown, hts⟩ (metX8_requireTask l hlt D G σ μ a2 q7 e7) (g_cwX (C := RX8) 1 hts q_ml_X8_116 q_im_X8_requireTask q_se_X8_requireTask q_in_X8 q_co_X8_requireTask ⟨rfl, rfl⟩ (by decide +kernel) ⟨Nat.le_of_ble_eq_true rfl, Nat.le_of_ble_eq_true rfl⟩) hX hH (rfl : gKinds[0]? = _) rfl rfl hl.1 rfl (Nat.le_of_ble_eq_true rfl) dX8_addArrow_7 ⟨Nat.le_of_ble_eq_true rfl, Nat.le_of_ble_eq_true rfl⟩ (fun k9 E9 ce9 q9 H locs hk9 hE9 hH h1 h2 h3 => ?_) (fun hk9 H locs hH => ?_)
      · rcases h with ⟨k8, h8, h⟩ | ⟨a8, h8, h⟩
        · rw [h8] at hk9
          cases hk9
          exact g_xout hxt hlocks hE9 hH h1 h2 h3 (Nat.le_of_ble_eq_true rfl) (Nat.le_of_ble_eq_true rfl) h
        · rw [h8] at hk9
          cases hk9
      · rcases h with ⟨k8, h8, h⟩ | ⟨a8, h8, h⟩
        · rw [h8] at hk9
          cases hk9
        · refine lv_iload_n hx hb0 dX8_addArrow_10 rfl (lv_at hl 1 rfl) ?_
          refine lv_iload_n hx hb0 dX8_addArrow_11 rfl (lv_at hl 2 rfl) ?_
          refine g_icmp_ne (tgt := 25) hx hb0 dX8_addArrow_12 (by decide) h (fun h => ?_) (fun h => ?_)
          · refine lv_aload_n hx hb0 dX8_addArrow_25 rfl (lv_at hl 0 rfl) ?_
            refine g_getR hx hb0 hts q_ws_X8 hown hX hH (C := RX8) (T := TX8) (N := 10) (k := 0) (i := 0) (j := 1) (rfl : gKinds[0]? = _) rfl (by decide) (hts _ q_fl_X8_12) rfl rfl dX8_addArrow_26 ?_
            refine lv_iload_n hx hb0 dX8_addArrow_29 rfl (lv_at hl 1 rfl) ?_
            refine lv_iload_n hx hb0 dX8_addArrow_30 rfl (lv_at hl 2 rfl) ?_
            obtain ⟨q31, e31, h⟩ := gBind_some h
            refine g_callVi (k := 1) (T := TX5) (N := 8) (As := [.int (gI a1), .int (gI a2)]) (rest := []) ⟨hx, hb0, hml, hown, hts⟩ (metX5_hasArrowBetween l D G 1 gPlan_1 σ μ a1 a2 q31 e31) (g_cwV (C := RX5) 2 hts q_ml_X8_134 q_im_X5_hasArrowBetween q_se_X5_hasArrowBetween q_in_X5 q_co_X5_hasArrowBetween ⟨rfl, rfl⟩ (by decide +kernel) ⟨Nat.le_of_ble_eq_true rfl, Nat.le_of_ble_eq_true rfl⟩) hX hH gPlan_1.k rfl rfl hl.1 rfl (Nat.le_of_ble_eq_true rfl) dX8_addArrow_31 ⟨Nat.le_of_ble_eq_true rfl, Nat.le_of_ble_eq_true rfl⟩ (fun H locs hH => ?_)
            have hJ49 : ∀  (H : Heap) (locs : List Loc) (ls : Array Slot), gH D G s H locs σ μ → lv_has ls 4 [] → (DX8_addArrow_J49) = some r → W p l e (headSpec (gWs yX8_addArrow cX8_addArrow 4 (some (Jvm.ClassFile.FieldType.int))) ({ frames := 7, cells := 3, slots := 18, locals := 131 } : Room)).room s m ([.ref (G.1 0), .int (gI a1), .int (gI a2)] : List Value).toArray below meth c H locs 2 12 (vx_MQ below (gXs D G r μ) (gXC D G r σ μ) ([.ref (G.1 0), .int (gI a1), .int (gI a2)] : List Value).toArray s 3 18 (gA G)) (F0 m 49 ls []) := by
              intro H locs ls hH hl h
              unfold DX8_addArrow_J49 at h
              exact g_throwS (text := "there is such an arrow, or there are 30 arrows") (k := 2) hx hb0 hlt hown hts hX hH rfl q_cl_X8_107 q_in_java_lang_IllegalStateException g_bad2 g_ok2 g_ot2 (by decide +kernel) (by decide +kernel) (hl.1.trans hml.symm) dX8_addArrow_49 dX8_addArrow_52 dX8_addArrow_53 dX8_addArrow_55 dX8_addArrow_58 hxt ⟨⟨Nat.le_of_ble_eq_true rfl, Nat.le_of_ble_eq_true rfl⟩, Nat.le_of_ble_eq_true rfl, Nat.le_of_ble_eq_true rfl⟩ hlocks ⟨Nat.le_of_ble_eq_true rfl, Nat.le_of_ble_eq_true rfl⟩ h
            refine g_if_ne (tgt := 49) hx hb0 dX8_addArrow_34 (by decide) h (fun h => ?_) (fun h => ?_)
            · exact hJ49  _ _ _ hH (lv_sub hl [] rfl) h
            · refine lv_aload_n hx hb0 dX8_addArrow_37 rfl (lv_at hl 0 rfl) ?_
              refine g_getR hx hb0 hts q_ws_X8 hown hX hH (C := RX8) (T := TX8) (N := 10) (k := 0) (i := 0) (j := 1) (rfl : gKinds[0]? = _) rfl (by decide) (hts _ q_fl_X8_12) rfl rfl dX8_addArrow_38 ?_
              obtain ⟨q41, e41, h⟩ := gBind_some h
              refine g_callVi (k := 1) (T := TX5) (N := 8) (As := []) (rest := []) ⟨hx, hb0, hml, hown, hts⟩ (metX5_arrowCount l D G 1 gPlan_1 σ μ q41 e41) (g_cwV (C := RX5) 0 hts q_ml_X8_137 q_im_X5_arrowCount q_se_X5_arrowCount q_in_X5 q_co_X5_arrowCount ⟨rfl, rfl⟩ (by decide +kernel) ⟨Nat.le_of_ble_eq_true rfl, Nat.le_of_ble_eq_true rfl⟩) hX hH gPlan_1.k rfl rfl hl.1 rfl (Nat.le_of_ble_eq_true rfl) dX8_addArrow_41 ⟨Nat.le_of_ble_eq_true rfl, Nat.le_of_ble_eq_true rfl⟩ (fun H locs hH => ?_)
              refine lv_bipush (v := gI (30 : Int)) hx hb0 dX8_addArrow_44 (by decide) ?_
              refine g_icmp_lt (tgt := 59) hx hb0 dX8_addArrow_46 (by decide) h (fun h => ?_) (fun h => ?_)
              · refine lv_aload_n hx hb0 dX8_addArrow_59 rfl (lv_at hl 0 rfl) ?_
                refine g_getR hx hb0 hts q_ws_X8 hown hX hH (C := RX8) (T := TX8) (N := 10) (k := 0) (i := 2) (j := 27) (rfl : gKinds[0]? = _) rfl (by decide) (hts _ q_fl_X8_22) rfl rfl dX8_addArrow_60 ?_
                refine lv_aload_n hx hb0 dX8_addArrow_63 rfl (lv_at hl 0 rfl) ?_
                refine g_getR hx hb0 hts q_ws_X8 hown hX hH (C := RX8) (T := TX8) (N := 10) (k := 0) (i := 0) (j := 1) (rfl : gKinds[0]? = _) rfl (by decide) (hts _ q_fl_X8_12) rfl rfl dX8_addArrow_64 ?_
                obtain ⟨q67, e67, h⟩ := gBind_some h
                refine g_callVv (k := 27) (T := TX3) (N := 3) (As := [.ref (G.1 1)]) (rest := []) ⟨hx, hb0, hml, hown, hts⟩ (metX3_save l D G 1 gPlan_1 σ μ q67 e67) (g_cwV (C := RX3) 1 hts q_ml_X8_78 q_im_X3_save q_se_X3_save q_in_X3 q_co_X3_save ⟨rfl, rfl⟩ (by decide +kernel) ⟨Nat.le_of_ble_eq_true rfl, Nat.le_of_ble_eq_true rfl⟩) hX hH (rfl : gKinds[27]? = _) rfl rfl hl.1 rfl (Nat.le_of_ble_eq_true rfl) dX8_addArrow_67 ⟨Nat.le_of_ble_eq_true rfl, Nat.le_of_ble_eq_true rfl⟩ (fun H locs hH => ?_)
                refine lv_aload_n hx hb0 dX8_addArrow_70 rfl (lv_at hl 0 rfl) ?_
                refine g_getR hx hb0 hts q_ws_X8 hown hX hH (C := RX8) (T := TX8) (N := 10) (k := 0) (i := 0) (j := 1) (rfl : gKinds[0]? = _) rfl (by decide) (hts _ q_fl_X8_12) rfl rfl dX8_addArrow_71 ?_
                refine lv_iload_n hx hb0 dX8_addArrow_74 rfl (lv_at hl 1 rfl) ?_
                refine lv_iload_n hx hb0 dX8_addArrow_75 rfl (lv_at hl 2 rfl) ?_
                obtain ⟨q76, e76, h⟩ := gBind_some h
                refine g_callVi (k := 1) (T := TX5) (N := 8) (As := [.int (gI a1), .int (gI a2)]) (rest := []) ⟨hx, hb0, hml, hown, hts⟩ (metX5_tellArrow l D G 1 gPlan_1 q67 μ a1 a2 q76.1 q76.2 e76) (g_cwV (C := RX5) 2 hts q_ml_X8_142 q_im_X5_tellArrow q_se_X5_tellArrow q_in_X5 q_co_X5_tellArrow ⟨rfl, rfl⟩ (by decide +kernel) ⟨Nat.le_of_ble_eq_true rfl, Nat.le_of_ble_eq_true rfl⟩) hX hH gPlan_1.k rfl rfl hl.1 rfl (Nat.le_of_ble_eq_true rfl) dX8_addArrow_76 ⟨Nat.le_of_ble_eq_true rfl, Nat.le_of_ble_eq_true rfl⟩ (fun H locs hH => ?_)
                refine lv_istore_n (lv' := [(3, .int (gI q76.1)), (0, .ref (G.1 0)), (1, .int (gI a1)), (2, .int (gI a2))]) hx hb0 dX8_addArrow_79 rfl hl (by decide) rfl (fun ls hl => ?_)
                refine lv_aload_n hx hb0 dX8_addArrow_80 rfl (lv_at hl 1 rfl) ?_
                obtain ⟨q81, e81, h⟩ := gBind_some h
                refine g_callVv (k := 0) (T := TX8) (N := 10) (As := []) (rest := []) ⟨hx, hb0, hml, hown, hts⟩ (metX8_printAnew l D G q76.2 μ q81 e81) (g_cwV (C := RX8) 0 hts q_ml_X8_90 q_im_X8_printAnew q_se_X8_printAnew q_in_X8 q_co_X8_printAnew ⟨rfl, rfl⟩ (by decide +kernel) ⟨Nat.le_of_ble_eq_true rfl, Nat.le_of_ble_eq_true rfl⟩) hX hH (rfl : gKinds[0]? = _) rfl rfl hl.1 rfl (Nat.le_of_ble_eq_true rfl) dX8_addArrow_81 ⟨Nat.le_of_ble_eq_true rfl, Nat.le_of_ble_eq_true rfl⟩ (fun H locs hH => ?_)
                refine lv_iload_n hx hb0 dX8_addArrow_84 rfl (lv_at hl 0 rfl) ?_
                exact g_xsret hx hb0 hr hH hlocks (Nat.le_of_ble_eq_true rfl) (Nat.le_of_ble_eq_true rfl) dX8_addArrow_85 h
              · exact hJ49  _ _ _ hH (lv_sub hl [] rfl) h
          · exact g_throwS (text := "an arrow joins two different tasks") (k := 1) hx hb0 hlt hown hts hX hH rfl q_cl_X8_71 q_in_java_lang_IllegalArgumentException g_bad1 g_ok1 g_ot1 (by decide +kernel) (by decide +kernel) (hl.1.trans hml.symm) dX8_addArrow_15 dX8_addArrow_18 dX8_addArrow_19 dX8_addArrow_21 dX8_addArrow_24 hxt ⟨⟨Nat.le_of_ble_eq_true rfl, Nat.le_of_ble_eq_true rfl⟩, Nat.le_of_ble_eq_true rfl, Nat.le_of_ble_eq_true rfl⟩ hlocks ⟨Nat.le_of_ble_eq_true rfl, Nat.le_of_ble_eq_true rfl⟩ h
def DX5_hasArrow (b : Nat) (σ : gSt) (a1 : Int) : Option (Int) :=
  gIf (a1 < (0 : Int)) a1 (0 : Int) (gBo (0 : Int) (some (0 : Int))) (gIf (a1 < (σ b 7)) a1 (σ b 7) (gBo (1 : Int) (some (1 : Int))) (gBo (0 : Int) (some (0 : Int))))
set_option maxHeartbeats 4000000 in
set_option maxRecDepth 100000 in
theorem metX5_hasArrow (l : Launch) (D : va_G) (G : gAd) (b : Nat) (hb : gPlan b) (σ : gSt) (μ : gLg) (a1 : Int) (r : Int) (h : DX5_hasArrow b σ a1 = some r) : Met l yX5_hasArrow (gWs yX5_hasArrow cX5_hasArrow 2 (some (Jvm.ClassFile.FieldType.boolean))) ({ frames := 0, cells := 0, slots := 0, locals := 0 } : Room) (gPc D G [.ref (G.1 b), .int (gI a1)] σ μ) (gQi D G r σ μ) 0 0 (gA G) := by
  refine Met.ofW (cc := cX5_hasArrow) (maxL := 2) (ret := (some (Jvm.ClassFile.FieldType.boolean))) (by decide) rfl ?_
  intro p e s m args below meth c s₁ B hml hv
  obtain ⟨rfl, hP, hX⟩ := hv
  have hx := B.exec
  have hb0 := B.bytes
  have hr := B.returns
  have hts0 := atoms_spec (ws := (gWs yX5_hasArrow cX5_hasArrow 2 (some (Jvm.ClassFile.FieldType.boolean)))) B.pre
  have hts : ∀ w ∈ gLW, w.before _ s = true := fun w hw => hts0 w (List.mem_cons_of_mem _ hw)
  have hown : s.vm.findClass RX5 = some m.cls := findClass_of_methodNamed B.named
  have hlocks := B.notSynchronized
  have hH : gH D G s s.heap [] σ μ := ⟨hP, va_S.rf⟩
  have hl := lv_entry ([.ref (G.1 b), .int (gI a1)]) (n := 2) (Nat.le_of_ble_eq_true rfl)
  rw [lg_entry_eq]
  generalize (lg_sl ([.ref (G.1 b), .int (gI a1)]) ++ List.replicate (2 - (lg_sl ([.ref (G.1 b), .int (gI a1)])).length) Slot.unset).toArray = ls at hl ⊢
  have hl : lv_has ls 2 [(0, .ref (G.1 b)), (1, .int (gI a1))] := hl
  unfold DX5_hasArrow at h
  refine lv_iload_n hx hb0 dX5_hasArrow_0 rfl (lv_at hl 1 rfl) ?_
  refine g_if_lt (tgt := 16) hx hb0 dX5_hasArrow_1 (by decide) h (fun h => ?_) (fun h => ?_)
  · refine lv_iconst (v := gI (0 : Int)) hx hb0 dX5_hasArrow_16 (by decide) ?_
    exact g_zretP hx hb0 hr hH hlocks dX5_hasArrow_17 h
  · refine lv_iload_n hx hb0 dX5_hasArrow_4 rfl (lv_at hl 1 rfl) ?_
    refine lv_aload_n hx hb0 dX5_hasArrow_5 rfl (lv_at hl 0 rfl) ?_
    refine g_getI hx hb0 hts q_ws_X5 hown hX hH (C := RX5) (T := TX5) (N := 8) (k := b) (i := 7) hb.k rfl (by decide) (hts _ q_fl_X5_51) rfl rfl dX5_hasArrow_6 ?_
    refine g_icmp_ge (tgt := 16) hx hb0 dX5_hasArrow_9 (by decide) h (fun h => ?_) (fun h => ?_)
    · refine lv_iconst (v := gI (0 : Int)) hx hb0 dX5_hasArrow_16 (by decide) ?_
      exact g_zretP hx hb0 hr hH hlocks dX5_hasArrow_17 h
    · refine lv_iconst (v := gI (1 : Int)) hx hb0 dX5_hasArrow_12 (by decide) ?_
      refine lv_goto (tgt := 17) hx hb0 dX5_hasArrow_13 (by decide) ?_
      exact g_zretP hx hb0 hr hH hlocks dX5_hasArrow_17 h
def DX8_requireArrow (σ : gSt) (a1 : Int) : Option (Nat ⊕ Unit) :=
  (DX5_hasArrow 1 σ a1).bind fun q5 => gIf (q5 = (0 : Int)) q5 (0 : Int) (some (.inl 3)) (some (.inr ()))
set_option maxHeartbeats 4000000 in
set_option maxRecDepth 100000 in
theorem metX8_requireArrow (l : Launch) (hlt : l.stackTraces = false) (D : va_G) (G : gAd) (σ : gSt) (μ : gLg) (a1 : Int) (r : Nat ⊕ Unit) (h : DX8_requireArrow σ a1 = some r) : vx_Met l yX8_requireArrow (gWs yX8_requireArrow cX8_requireArrow 2 none) ({ frames := 6, cells := 1, slots := 6, locals := 82 } : Room) (gPc D G [.ref (G.1 0), .int (gI a1)] σ μ) (gXv D G r σ μ) (gXC D G r σ μ) 1 6 (gA G) := by
  refine vx_ofW (cc := cX8_requireArrow) (maxL := 2) (ret := none) (by decide) rfl ?_
  intro p e s m args below meth c s₁ B hml hxt hv
  obtain ⟨rfl, hP, hX⟩ := hv
  have hx := B.exec
  have hb0 := B.bytes
  have hr := B.returns
  have hts0 := atoms_spec (ws := (gWs yX8_requireArrow cX8_requireArrow 2 none)) B.pre
  have hts : ∀ w ∈ gLW, w.before _ s = true := fun w hw => hts0 w (List.mem_cons_of_mem _ hw)
  have hown : s.vm.findClass RX8 = some m.cls := findClass_of_methodNamed B.named
  have hlocks := B.notSynchronized
  have hH : gH D G s s.heap [] σ μ := ⟨hP, va_S.rf⟩
  have hl := lv_entry ([.ref (G.1 0), .int (gI a1)]) (n := 2) (Nat.le_of_ble_eq_true rfl)
  rw [lg_entry_eq]
  generalize (lg_sl ([.ref (G.1 0), .int (gI a1)]) ++ List.replicate (2 - (lg_sl ([.ref (G.1 0), .int (gI a1)])).length) Slot.unset).toArray = ls at hl ⊢
  have hl : lv_has ls 2 [(0, .ref (G.1 0)), (1, .int (gI a1))] := hl
  unfold DX8_requireArrow at h
  refine lv_aload_n hx hb0 dX8_requireArrow_0 rfl (lv_at hl 0 rfl) ?_
  refine g_getR hx hb0 hts q_ws_X8 hown hX hH (C := RX8) (T := TX8) (N := 10) (k := 0) (i := 0) (j := 1) (rfl : gKinds[0]? = _) rfl (by decide) (hts _ q_fl_X8_12) rfl rfl dX8_requireArrow_1 ?_
  refine lv_iload_n hx hb0 dX8_requireArrow_4 rfl (lv_at hl 1 rfl) ?_
  obtain ⟨q5, e5, h⟩ := gBind_some h
  refine g_callVi (k := 1) (T := TX5) (N := 8) (As := [.int (gI a1)]) (rest := []) ⟨hx, hb0, hml, hown, hts⟩ (metX5_hasArrow l D G 1 gPlan_1 σ μ a1 q5 e5) (g_cwV (C := RX5) 1 hts q_ml_X8_304 q_im_X5_hasArrow q_se_X5_hasArrow q_in_X5 q_co_X5_hasArrow ⟨rfl, rfl⟩ (by decide +kernel) ⟨Nat.le_of_ble_eq_true rfl, Nat.le_of_ble_eq_true rfl⟩) hX hH gPlan_1.k rfl rfl hl.1 rfl (Nat.le_of_ble_eq_true rfl) dX8_requireArrow_5 ⟨Nat.le_of_ble_eq_true rfl, Nat.le_of_ble_eq_true rfl⟩ (fun H locs hH => ?_)
  refine g_if_ne (tgt := 22) hx hb0 dX8_requireArrow_8 (by decide) h (fun h => ?_) (fun h => ?_)
  · exact g_xvret hx hb0 hr hH hlocks (Nat.le_of_ble_eq_true rfl) (Nat.le_of_ble_eq_true rfl) dX8_requireArrow_22 h
  · exact g_throwSW (text := "no such arrow") (k := 3) hx hb0 hlt hown hts hX hH rfl q_cl_X8_186 q_in_java_lang_IndexOutOfBoundsException g_bad3 g_ok3 g_ot3 (by decide +kernel) (by decide +kernel) (hl.1.trans hml.symm) dX8_requireArrow_11 dX8_requireArrow_14 dX8_requireArrow_15 dX8_requireArrow_18 dX8_requireArrow_21 hxt ⟨⟨Nat.le_of_ble_eq_true rfl, Nat.le_of_ble_eq_true rfl⟩, Nat.le_of_ble_eq_true rfl, Nat.le_of_ble_eq_true rfl⟩ hlocks ⟨Nat.le_of_ble_eq_true rfl, Nat.le_of_ble_eq_true rfl⟩ h
def DX5_dropArrow (b : Nat) (σ : gSt) (a1 : Int) : Option (gSt) :=
  (DX5_hasArrow b σ a1).bind fun q2 => gIf (q2 = (0 : Int)) q2 (0 : Int) (some σ) ((DX4_closeGap (b + 9) 30 σ a1).bind fun q13 => (DX4_closeGap (b + 11) 30 q13 a1).bind fun q21 => some (gUp q21 b 7 ((q21 b 7) - (1 : Int))))
set_option maxHeartbeats 4000000 in
set_option maxRecDepth 100000 in
theorem metX5_dropArrow (l : Launch) (D : va_G) (G : gAd) (b : Nat) (hb : gPlan b) (σ : gSt) (μ : gLg) (a1 : Int) (σ' : gSt) (h : DX5_dropArrow b σ a1 = some σ') : Met l yX5_dropArrow (gWs yX5_dropArrow cX5_dropArrow 2 none) ({ frames := 1, cells := 0, slots := 0, locals := 22 } : Room) (gPc D G [.ref (G.1 b), .int (gI a1)] σ μ) (gQv D G σ' μ) 0 0 (gA G) := by
  refine Met.ofW (cc := cX5_dropArrow) (maxL := 2) (ret := none) (by decide) rfl ?_
  intro p e s m args below meth c s₁ B hml hv
  obtain ⟨rfl, hP, hX⟩ := hv
  have hx := B.exec
  have hb0 := B.bytes
  have hr := B.returns
  have hts0 := atoms_spec (ws := (gWs yX5_dropArrow cX5_dropArrow 2 none)) B.pre
  have hts : ∀ w ∈ gLW, w.before _ s = true := fun w hw => hts0 w (List.mem_cons_of_mem _ hw)
  have hown : s.vm.findClass RX5 = some m.cls := findClass_of_methodNamed B.named
  have hlocks := B.notSynchronized
  have hH : gH D G s s.heap [] σ μ := ⟨hP, va_S.rf⟩
  have hl := lv_entry ([.ref (G.1 b), .int (gI a1)]) (n := 2) (Nat.le_of_ble_eq_true rfl)
  rw [lg_entry_eq]
  generalize (lg_sl ([.ref (G.1 b), .int (gI a1)]) ++ List.replicate (2 - (lg_sl ([.ref (G.1 b), .int (gI a1)])).length) Slot.unset).toArray = ls at hl ⊢
  have hl : lv_has ls 2 [(0, .ref (G.1 b)), (1, .int (gI a1))] := hl
  unfold DX5_dropArrow at h
  refine lv_aload_n hx hb0 dX5_dropArrow_0 rfl (lv_at hl 0 rfl) ?_
  refine lv_iload_n hx hb0 dX5_dropArrow_1 rfl (lv_at hl 1 rfl) ?_
  obtain ⟨q2, e2, h⟩ := gBind_some h
  refine g_callVi (k := b) (T := TX5) (N := 8) (As := [.int (gI a1)]) (rest := []) ⟨hx, hb0, hml, hown, hts⟩ (metX5_hasArrow l D G b hb σ μ a1 q2 e2) (g_cwV (C := RX5) 1 hts q_ml_X5_77 q_im_X5_hasArrow q_se_X5_hasArrow q_in_X5 q_co_X5_hasArrow ⟨rfl, rfl⟩ (by decide +kernel) ⟨Nat.le_of_ble_eq_true rfl, Nat.le_of_ble_eq_true rfl⟩) hX hH hb.k rfl rfl hl.1 rfl (Nat.le_of_ble_eq_true rfl) dX5_dropArrow_2 ⟨Nat.zero_le _, Nat.zero_le _⟩ (fun H locs hH => ?_)
  refine g_if_eq (tgt := 34) hx hb0 dX5_dropArrow_5 (by decide) h (fun h => ?_) (fun h => ?_)
  · exact g_vretS hx hb0 hr hH hlocks dX5_dropArrow_34 h
  · refine lv_aload_n hx hb0 dX5_dropArrow_8 rfl (lv_at hl 0 rfl) ?_
    refine g_getR hx hb0 hts q_ws_X5 hown hX hH (C := RX5) (T := TX5) (N := 8) (k := b) (i := 4) (j := (b + 9)) hb.k rfl (by decide) (hts _ q_fl_X5_29) rfl rfl dX5_dropArrow_9 ?_
    refine lv_iload_n hx hb0 dX5_dropArrow_12 rfl (lv_at hl 1 rfl) ?_
    obtain ⟨q13, e13, h⟩ := gBind_some h
    refine g_callVv (k := (b + 9)) (T := TX4) (N := 1) (As := [.int (gI a1)]) (rest := []) ⟨hx, hb0, hml, hown, hts⟩ (metX4_closeGap l D G (b + 9) 30 (hb.n4) σ μ a1 q13 e13) (g_cwV (C := RX4) 1 hts q_ml_X5_80 q_im_X4_closeGap q_se_X4_closeGap q_in_X4 q_co_X4_closeGap ⟨rfl, rfl⟩ (by decide +kernel) ⟨Nat.le_of_ble_eq_true rfl, Nat.le_of_ble_eq_true rfl⟩) hX hH ((hb.n4)).1 rfl rfl hl.1 rfl (Nat.le_of_ble_eq_true rfl) dX5_dropArrow_13 ⟨Nat.zero_le _, Nat.zero_le _⟩ (fun H locs hH => ?_)
    refine lv_aload_n hx hb0 dX5_dropArrow_16 rfl (lv_at hl 0 rfl) ?_
    refine g_getR hx hb0 hts q_ws_X5 hown hX hH (C := RX5) (T := TX5) (N := 8) (k := b) (i := 5) (j := (b + 11)) hb.k rfl (by decide) (hts _ q_fl_X5_32) rfl rfl dX5_dropArrow_17 ?_
    refine lv_iload_n hx hb0 dX5_dropArrow_20 rfl (lv_at hl 1 rfl) ?_
    obtain ⟨q21, e21, h⟩ := gBind_some h
    refine g_callVv (k := (b + 11)) (T := TX4) (N := 1) (As := [.int (gI a1)]) (rest := []) ⟨hx, hb0, hml, hown, hts⟩ (metX4_closeGap l D G (b + 11) 30 (hb.n5) q13 μ a1 q21 e21) (g_cwV (C := RX4) 1 hts q_ml_X5_80 q_im_X4_closeGap q_se_X4_closeGap q_in_X4 q_co_X4_closeGap ⟨rfl, rfl⟩ (by decide +kernel) ⟨Nat.le_of_ble_eq_true rfl, Nat.le_of_ble_eq_true rfl⟩) hX hH ((hb.n5)).1 rfl rfl hl.1 rfl (Nat.le_of_ble_eq_true rfl) dX5_dropArrow_21 ⟨Nat.zero_le _, Nat.zero_le _⟩ (fun H locs hH => ?_)
    refine lv_aload_n hx hb0 dX5_dropArrow_24 rfl (lv_at hl 0 rfl) ?_
    refine lv_dup hx hb0 dX5_dropArrow_25 rfl ?_
    refine g_getI hx hb0 hts q_ws_X5 hown hX hH (C := RX5) (T := TX5) (N := 8) (k := b) (i := 7) hb.k rfl (by decide) (hts _ q_fl_X5_51) rfl rfl dX5_dropArrow_26 ?_
    refine lv_iconst (v := gI (1 : Int)) hx hb0 dX5_dropArrow_29 (by decide) ?_
    refine g_isub hx hb0 dX5_dropArrow_30 ?_
    refine g_putI hx hb0 hts q_ws_X5 tyX5 tyX5_ok nmX5 hown hX hH (C := RX5) (T := TX5) (N := 8) (k := b) (i := 7) hb.k rfl (by decide) (hts _ q_fl_X5_51) rfl rfl rfl rfl dX5_dropArrow_31 (fun H locs hH => ?_)
    exact g_vretS hx hb0 hr hH hlocks dX5_dropArrow_34 h
def DX8_removeArrow (σ : gSt) (a1 : Int) : Option (Nat ⊕ (Int × gSt)) :=
  gXb (DX8_requireArrow σ a1) fun _ => (DX3_save 1 σ).bind fun q13 => (DX5_dropArrow 1 q13 a1).bind fun q21 => (DX8_printAnew q21).bind fun q25 => (DX5_arrowCount 1 q25).bind fun q32 => some (.inr (q32, q25))
set_option maxHeartbeats 4000000 in
set_option maxRecDepth 100000 in
theorem metX8_removeArrow (l : Launch) (hlt : l.stackTraces = false) (D : va_G) (G : gAd) (σ : gSt) (μ : gLg) (a1 : Int) (r : Nat ⊕ (Int × gSt)) (h : DX8_removeArrow σ a1 = some r) : vx_Met l yX8_removeArrow (gWs yX8_removeArrow cX8_removeArrow 2 (some (Jvm.ClassFile.FieldType.int))) ({ frames := 7, cells := 1, slots := 6, locals := 131 } : Room) (gPc D G [.ref (G.1 0), .int (gI a1)] σ μ) (gXs D G r μ) (gXC D G r σ μ) 1 6 (gA G) := by
  refine vx_ofW (cc := cX8_removeArrow) (maxL := 2) (ret := (some (Jvm.ClassFile.FieldType.int))) (by decide) rfl ?_
  intro p e s m args below meth c s₁ B hml hxt hv
  obtain ⟨rfl, hP, hX⟩ := hv
  have hx := B.exec
  have hb0 := B.bytes
  have hr := B.returns
  have hts0 := atoms_spec (ws := (gWs yX8_removeArrow cX8_removeArrow 2 (some (Jvm.ClassFile.FieldType.int)))) B.pre
  have hts : ∀ w ∈ gLW, w.before _ s = true := fun w hw => hts0 w (List.mem_cons_of_mem _ hw)
  have hown : s.vm.findClass RX8 = some m.cls := findClass_of_methodNamed B.named
  have hlocks := B.notSynchronized
  have hH : gH D G s s.heap [] σ μ := ⟨hP, va_S.rf⟩
  have hl := lv_entry ([.ref (G.1 0), .int (gI a1)]) (n := 2) (Nat.le_of_ble_eq_true rfl)
  rw [lg_entry_eq]
  generalize (lg_sl ([.ref (G.1 0), .int (gI a1)]) ++ List.replicate (2 - (lg_sl ([.ref (G.1 0), .int (gI a1)])).length) Slot.unset).toArray = ls at hl ⊢
  have hl : lv_has ls 2 [(0, .ref (G.1 0)), (1, .int (gI a1))] := hl
  unfold DX8_removeArrow at h
  refine lv_aload_n hx hb0 dX8_removeArrow_0 rfl (lv_at hl 0 rfl) ?_
  refine lv_iload_n hx hb0 dX8_removeArrow_1 rfl (lv_at hl 1 rfl) ?_
  obtain ⟨q2, e2, h⟩ := gXb_some h
  refine g_xcallVv (k := 0) (T := TX8) (N := 10) (As := [.int (gI a1)]) (rest := []) (x := q2) ⟨hx, hb0, hml, hown, hts⟩ (metX8_requireArrow l hlt D G σ μ a1 q2 e2) (g_cwX (C := RX8) 1 hts q_ml_X8_146 q_im_X8_requireArrow q_se_X8_requireArrow q_in_X8 q_co_X8_requireArrow ⟨rfl, rfl⟩ (by decide +kernel) ⟨Nat.le_of_ble_eq_true rfl, Nat.le_of_ble_eq_true rfl⟩) hX hH (rfl : gKinds[0]? = _) rfl rfl hl.1 rfl (Nat.le_of_ble_eq_true rfl) dX8_removeArrow_2 ⟨Nat.le_of_ble_eq_true rfl, Nat.le_of_ble_eq_true rfl⟩ (fun k9 E9 ce9 q9 H locs hk9 hE9 hH h1 h2 h3 => ?_) (fun hk9 H locs hH => ?_)
  · rcases h with ⟨k8, h8, h⟩ | ⟨a8, h8, h⟩
    · rw [h8] at hk9
      cases hk9
      exact g_xout hxt hlocks hE9 hH h1 h2 h3 (Nat.le_of_ble_eq_true rfl) (Nat.le_of_ble_eq_true rfl) h
    · rw [h8] at hk9
      cases hk9
  · rcases h with ⟨k8, h8, h⟩ | ⟨a8, h8, h⟩
    · rw [h8] at hk9
      cases hk9
    · refine lv_aload_n hx hb0 dX8_removeArrow_5 rfl (lv_at hl 0 rfl) ?_
      refine g_getR hx hb0 hts q_ws_X8 hown hX hH (C := RX8) (T := TX8) (N := 10) (k := 0) (i := 2) (j := 27) (rfl : gKinds[0]? = _) rfl (by decide) (hts _ q_fl_X8_22) rfl rfl dX8_removeArrow_6 ?_
      refine lv_aload_n hx hb0 dX8_removeArrow_9 rfl (lv_at hl 0 rfl) ?_
      refine g_getR hx hb0 hts q_ws_X8 hown hX hH (C := RX8) (T := TX8) (N := 10) (k := 0) (i := 0) (j := 1) (rfl : gKinds[0]? = _) rfl (by decide) (hts _ q_fl_X8_12) rfl rfl dX8_removeArrow_10 ?_
      obtain ⟨q13, e13, h⟩ := gBind_some h
      refine g_callVv (k := 27) (T := TX3) (N := 3) (As := [.ref (G.1 1)]) (rest := []) ⟨hx, hb0, hml, hown, hts⟩ (metX3_save l D G 1 gPlan_1 σ μ q13 e13) (g_cwV (C := RX3) 1 hts q_ml_X8_78 q_im_X3_save q_se_X3_save q_in_X3 q_co_X3_save ⟨rfl, rfl⟩ (by decide +kernel) ⟨Nat.le_of_ble_eq_true rfl, Nat.le_of_ble_eq_true rfl⟩) hX hH (rfl : gKinds[27]? = _) rfl rfl hl.1 rfl (Nat.le_of_ble_eq_true rfl) dX8_removeArrow_13 ⟨Nat.le_of_ble_eq_true rfl, Nat.le_of_ble_eq_true rfl⟩ (fun H locs hH => ?_)
      refine lv_aload_n hx hb0 dX8_removeArrow_16 rfl (lv_at hl 0 rfl) ?_
      refine g_getR hx hb0 hts q_ws_X8 hown hX hH (C := RX8) (T := TX8) (N := 10) (k := 0) (i := 0) (j := 1) (rfl : gKinds[0]? = _) rfl (by decide) (hts _ q_fl_X8_12) rfl rfl dX8_removeArrow_17 ?_
      refine lv_iload_n hx hb0 dX8_removeArrow_20 rfl (lv_at hl 1 rfl) ?_
      obtain ⟨q21, e21, h⟩ := gBind_some h
      refine g_callVv (k := 1) (T := TX5) (N := 8) (As := [.int (gI a1)]) (rest := []) ⟨hx, hb0, hml, hown, hts⟩ (metX5_dropArrow l D G 1 gPlan_1 q13 μ a1 q21 e21) (g_cwV (C := RX5) 1 hts q_ml_X8_149 q_im_X5_dropArrow q_se_X5_dropArrow q_in_X5 q_co_X5_dropArrow ⟨rfl, rfl⟩ (by decide +kernel) ⟨Nat.le_of_ble_eq_true rfl, Nat.le_of_ble_eq_true rfl⟩) hX hH gPlan_1.k rfl rfl hl.1 rfl (Nat.le_of_ble_eq_true rfl) dX8_removeArrow_21 ⟨Nat.le_of_ble_eq_true rfl, Nat.le_of_ble_eq_true rfl⟩ (fun H locs hH => ?_)
      refine lv_aload_n hx hb0 dX8_removeArrow_24 rfl (lv_at hl 0 rfl) ?_
      obtain ⟨q25, e25, h⟩ := gBind_some h
      refine g_callVv (k := 0) (T := TX8) (N := 10) (As := []) (rest := []) ⟨hx, hb0, hml, hown, hts⟩ (metX8_printAnew l D G q21 μ q25 e25) (g_cwV (C := RX8) 0 hts q_ml_X8_90 q_im_X8_printAnew q_se_X8_printAnew q_in_X8 q_co_X8_printAnew ⟨rfl, rfl⟩ (by decide +kernel) ⟨Nat.le_of_ble_eq_true rfl, Nat.le_of_ble_eq_true rfl⟩) hX hH (rfl : gKinds[0]? = _) rfl rfl hl.1 rfl (Nat.le_of_ble_eq_true rfl) dX8_removeArrow_25 ⟨Nat.le_of_ble_eq_true rfl, Nat.le_of_ble_eq_true rfl⟩ (fun H locs hH => ?_)
      refine lv_aload_n hx hb0 dX8_removeArrow_28 rfl (lv_at hl 0 rfl) ?_
      refine g_getR hx hb0 hts q_ws_X8 hown hX hH (C := RX8) (T := TX8) (N := 10) (k := 0) (i := 0) (j := 1) (rfl : gKinds[0]? = _) rfl (by decide) (hts _ q_fl_X8_12) rfl rfl dX8_removeArrow_29 ?_
      obtain ⟨q32, e32, h⟩ := gBind_some h
      refine g_callVi (k := 1) (T := TX5) (N := 8) (As := []) (rest := []) ⟨hx, hb0, hml, hown, hts⟩ (metX5_arrowCount l D G 1 gPlan_1 q25 μ q32 e32) (g_cwV (C := RX5) 0 hts q_ml_X8_137 q_im_X5_arrowCount q_se_X5_arrowCount q_in_X5 q_co_X5_arrowCount ⟨rfl, rfl⟩ (by decide +kernel) ⟨Nat.le_of_ble_eq_true rfl, Nat.le_of_ble_eq_true rfl⟩) hX hH gPlan_1.k rfl rfl hl.1 rfl (Nat.le_of_ble_eq_true rfl) dX8_removeArrow_32 ⟨Nat.le_of_ble_eq_true rfl, Nat.le_of_ble_eq_true rfl⟩ (fun H locs hH => ?_)
      exact g_xsret hx hb0 hr hH hlocks (Nat.le_of_ble_eq_true rfl) (Nat.le_of_ble_eq_true rfl) dX8_removeArrow_35 h
def DX5_length (b : Nat) (σ : gSt) (a1 : Int) : Option (Int) :=
  (DX4_at (b + 7) 24 σ a1).bind fun q5 => some q5
set_option maxHeartbeats 4000000 in
set_option maxRecDepth 100000 in
theorem metX5_length (l : Launch) (D : va_G) (G : gAd) (b : Nat) (hb : gPlan b) (σ : gSt) (μ : gLg) (a1 : Int) (r : Int) (h : DX5_length b σ a1 = some r) : Met l yX5_length (gWs yX5_length cX5_length 2 (some (Jvm.ClassFile.FieldType.int))) ({ frames := 1, cells := 0, slots := 0, locals := 21 } : Room) (gPc D G [.ref (G.1 b), .int (gI a1)] σ μ) (gQi D G r σ μ) 0 0 (gA G) := by
  refine Met.ofW (cc := cX5_length) (maxL := 2) (ret := (some (Jvm.ClassFile.FieldType.int))) (by decide) rfl ?_
  intro p e s m args below meth c s₁ B hml hv
  obtain ⟨rfl, hP, hX⟩ := hv
  have hx := B.exec
  have hb0 := B.bytes
  have hr := B.returns
  have hts0 := atoms_spec (ws := (gWs yX5_length cX5_length 2 (some (Jvm.ClassFile.FieldType.int)))) B.pre
  have hts : ∀ w ∈ gLW, w.before _ s = true := fun w hw => hts0 w (List.mem_cons_of_mem _ hw)
  have hown : s.vm.findClass RX5 = some m.cls := findClass_of_methodNamed B.named
  have hlocks := B.notSynchronized
  have hH : gH D G s s.heap [] σ μ := ⟨hP, va_S.rf⟩
  have hl := lv_entry ([.ref (G.1 b), .int (gI a1)]) (n := 2) (Nat.le_of_ble_eq_true rfl)
  rw [lg_entry_eq]
  generalize (lg_sl ([.ref (G.1 b), .int (gI a1)]) ++ List.replicate (2 - (lg_sl ([.ref (G.1 b), .int (gI a1)])).length) Slot.unset).toArray = ls at hl ⊢
  have hl : lv_has ls 2 [(0, .ref (G.1 b)), (1, .int (gI a1))] := hl
  unfold DX5_length at h
  refine lv_aload_n hx hb0 dX5_length_0 rfl (lv_at hl 0 rfl) ?_
  refine g_getR hx hb0 hts q_ws_X5 hown hX hH (C := RX5) (T := TX5) (N := 8) (k := b) (i := 3) (j := (b + 7)) hb.k rfl (by decide) (hts _ q_fl_X5_26) rfl rfl dX5_length_1 ?_
  refine lv_iload_n hx hb0 dX5_length_4 rfl (lv_at hl 1 rfl) ?_
  obtain ⟨q5, e5, h⟩ := gBind_some h
  refine g_callVi (k := (b + 7)) (T := TX4) (N := 1) (As := [.int (gI a1)]) (rest := []) ⟨hx, hb0, hml, hown, hts⟩ (metX4_at l D G (b + 7) 24 (hb.n3) σ μ a1 q5 e5) (g_cwV (C := RX4) 1 hts q_ml_X5_43 q_im_X4_at q_se_X4_at q_in_X4 q_co_X4_at ⟨rfl, rfl⟩ (by decide +kernel) ⟨Nat.le_of_ble_eq_true rfl, Nat.le_of_ble_eq_true rfl⟩) hX hH ((hb.n3)).1 rfl rfl hl.1 rfl (Nat.le_of_ble_eq_true rfl) dX5_length_5 ⟨Nat.zero_le _, Nat.zero_le _⟩ (fun H locs hH => ?_)
  exact g_iretP hx hb0 hr hH hlocks dX5_length_8 h
def DX0_rowOf (b : Nat) (σ : gSt) (a1 : Int) : Option (Int) :=
  (DX4_at (b + 5) 24 σ a1).bind fun q5 => some q5
set_option maxHeartbeats 4000000 in
set_option maxRecDepth 100000 in
theorem metX0_rowOf (l : Launch) (D : va_G) (G : gAd) (b : Nat) (hb : gBands b) (σ : gSt) (μ : gLg) (a1 : Int) (r : Int) (h : DX0_rowOf b σ a1 = some r) : Met l yX0_rowOf (gWs yX0_rowOf cX0_rowOf 2 (some (Jvm.ClassFile.FieldType.int))) ({ frames := 1, cells := 0, slots := 0, locals := 21 } : Room) (gPc D G [.ref (G.1 b), .int (gI a1)] σ μ) (gQi D G r σ μ) 0 0 (gA G) := by
  refine Met.ofW (cc := cX0_rowOf) (maxL := 2) (ret := (some (Jvm.ClassFile.FieldType.int))) (by decide) rfl ?_
  intro p e s m args below meth c s₁ B hml hv
  obtain ⟨rfl, hP, hX⟩ := hv
  have hx := B.exec
  have hb0 := B.bytes
  have hr := B.returns
  have hts0 := atoms_spec (ws := (gWs yX0_rowOf cX0_rowOf 2 (some (Jvm.ClassFile.FieldType.int)))) B.pre
  have hts : ∀ w ∈ gLW, w.before _ s = true := fun w hw => hts0 w (List.mem_cons_of_mem _ hw)
  have hown : s.vm.findClass RX0 = some m.cls := findClass_of_methodNamed B.named
  have hlocks := B.notSynchronized
  have hH : gH D G s s.heap [] σ μ := ⟨hP, va_S.rf⟩
  have hl := lv_entry ([.ref (G.1 b), .int (gI a1)]) (n := 2) (Nat.le_of_ble_eq_true rfl)
  rw [lg_entry_eq]
  generalize (lg_sl ([.ref (G.1 b), .int (gI a1)]) ++ List.replicate (2 - (lg_sl ([.ref (G.1 b), .int (gI a1)])).length) Slot.unset).toArray = ls at hl ⊢
  have hl : lv_has ls 2 [(0, .ref (G.1 b)), (1, .int (gI a1))] := hl
  unfold DX0_rowOf at h
  refine lv_aload_n hx hb0 dX0_rowOf_0 rfl (lv_at hl 0 rfl) ?_
  refine g_getR hx hb0 hts q_ws_X0 hown hX hH (C := RX0) (T := TX0) (N := 8) (k := b) (i := 2) (j := (b + 5)) hb.k rfl (by decide) (hts _ q_fl_X0_23) rfl rfl dX0_rowOf_1 ?_
  refine lv_iload_n hx hb0 dX0_rowOf_4 rfl (lv_at hl 1 rfl) ?_
  obtain ⟨q5, e5, h⟩ := gBind_some h
  refine g_callVi (k := (b + 5)) (T := TX4) (N := 1) (As := [.int (gI a1)]) (rest := []) ⟨hx, hb0, hml, hown, hts⟩ (metX4_at l D G (b + 5) 24 (hb.n2) σ μ a1 q5 e5) (g_cwV (C := RX4) 1 hts q_ml_X0_33 q_im_X4_at q_se_X4_at q_in_X4 q_co_X4_at ⟨rfl, rfl⟩ (by decide +kernel) ⟨Nat.le_of_ble_eq_true rfl, Nat.le_of_ble_eq_true rfl⟩) hX hH ((hb.n2)).1 rfl rfl hl.1 rfl (Nat.le_of_ble_eq_true rfl) dX0_rowOf_5 ⟨Nat.zero_le _, Nat.zero_le _⟩ (fun H locs hH => ?_)
  exact g_iretP hx hb0 hr hH hlocks dX0_rowOf_8 h
def DX8_partsOf (σ : gSt) (a1 : Int) : Option (Int) :=
  (DX5_setting 1 σ (1 : Int)).bind fun q5 => (DX5_last 1 σ a1).bind fun q14 => (DX8_stripOfDay σ q14 q5).bind fun q18 => (DX5_first 1 σ a1).bind fun q26 => (DX8_stripOfDay σ q26 q5).bind fun q30 => some ((q18 - q30) + (1 : Int))
set_option maxHeartbeats 4000000 in
set_option maxRecDepth 100000 in
theorem metX8_partsOf (l : Launch) (D : va_G) (G : gAd) (σ : gSt) (μ : gLg) (a1 : Int) (r : Int) (h : DX8_partsOf σ a1 = some r) : Met l yX8_partsOf (gWs yX8_partsOf cX8_partsOf 3 (some (Jvm.ClassFile.FieldType.int))) ({ frames := 2, cells := 0, slots := 0, locals := 42 } : Room) (gPc D G [.ref (G.1 0), .int (gI a1)] σ μ) (gQi D G r σ μ) 0 0 (gA G) := by
  refine Met.ofW (cc := cX8_partsOf) (maxL := 3) (ret := (some (Jvm.ClassFile.FieldType.int))) (by decide) rfl ?_
  intro p e s m args below meth c s₁ B hml hv
  obtain ⟨rfl, hP, hX⟩ := hv
  have hx := B.exec
  have hb0 := B.bytes
  have hr := B.returns
  have hts0 := atoms_spec (ws := (gWs yX8_partsOf cX8_partsOf 3 (some (Jvm.ClassFile.FieldType.int)))) B.pre
  have hts : ∀ w ∈ gLW, w.before _ s = true := fun w hw => hts0 w (List.mem_cons_of_mem _ hw)
  have hown : s.vm.findClass RX8 = some m.cls := findClass_of_methodNamed B.named
  have hlocks := B.notSynchronized
  have hH : gH D G s s.heap [] σ μ := ⟨hP, va_S.rf⟩
  have hl := lv_entry ([.ref (G.1 0), .int (gI a1)]) (n := 3) (Nat.le_of_ble_eq_true rfl)
  rw [lg_entry_eq]
  generalize (lg_sl ([.ref (G.1 0), .int (gI a1)]) ++ List.replicate (3 - (lg_sl ([.ref (G.1 0), .int (gI a1)])).length) Slot.unset).toArray = ls at hl ⊢
  have hl : lv_has ls 3 [(0, .ref (G.1 0)), (1, .int (gI a1))] := hl
  unfold DX8_partsOf at h
  refine lv_aload_n hx hb0 dX8_partsOf_0 rfl (lv_at hl 0 rfl) ?_
  refine g_getR hx hb0 hts q_ws_X8 hown hX hH (C := RX8) (T := TX8) (N := 10) (k := 0) (i := 0) (j := 1) (rfl : gKinds[0]? = _) rfl (by decide) (hts _ q_fl_X8_12) rfl rfl dX8_partsOf_1 ?_
  refine lv_iconst (v := gI (1 : Int)) hx hb0 dX8_partsOf_4 (by decide) ?_
  obtain ⟨q5, e5, h⟩ := gBind_some h
  refine g_callVi (k := 1) (T := TX5) (N := 8) (As := [.int (gI (1 : Int))]) (rest := []) ⟨hx, hb0, hml, hown, hts⟩ (metX5_setting l D G 1 gPlan_1 σ μ (1 : Int) q5 e5) (g_cwV (C := RX5) 1 hts q_ml_X8_82 q_im_X5_setting q_se_X5_setting q_in_X5 q_co_X5_setting ⟨rfl, rfl⟩ (by decide +kernel) ⟨Nat.le_of_ble_eq_true rfl, Nat.le_of_ble_eq_true rfl⟩) hX hH gPlan_1.k rfl rfl hl.1 rfl (Nat.le_of_ble_eq_true rfl) dX8_partsOf_5 ⟨Nat.zero_le _, Nat.zero_le _⟩ (fun H locs hH => ?_)
  refine lv_istore_n (lv' := [(2, .int (gI q5)), (0, .ref (G.1 0)), (1, .int (gI a1))]) hx hb0 dX8_partsOf_8 rfl hl (by decide) rfl (fun ls hl => ?_)
  refine lv_aload_n hx hb0 dX8_partsOf_9 rfl (lv_at hl 1 rfl) ?_
  refine g_getR hx hb0 hts q_ws_X8 hown hX hH (C := RX8) (T := TX8) (N := 10) (k := 0) (i := 0) (j := 1) (rfl : gKinds[0]? = _) rfl (by decide) (hts _ q_fl_X8_12) rfl rfl dX8_partsOf_10 ?_
  refine lv_iload_n hx hb0 dX8_partsOf_13 rfl (lv_at hl 2 rfl) ?_
  obtain ⟨q14, e14, h⟩ := gBind_some h
  refine g_callVi (k := 1) (T := TX5) (N := 8) (As := [.int (gI a1)]) (rest := []) ⟨hx, hb0, hml, hown, hts⟩ (metX5_last l D G 1 gPlan_1 σ μ a1 q14 e14) (g_cwV (C := RX5) 1 hts q_ml_X8_240 q_im_X5_last q_se_X5_last q_in_X5 q_co_X5_last ⟨rfl, rfl⟩ (by decide +kernel) ⟨Nat.le_of_ble_eq_true rfl, Nat.le_of_ble_eq_true rfl⟩) hX hH gPlan_1.k rfl rfl hl.1 rfl (Nat.le_of_ble_eq_true rfl) dX8_partsOf_14 ⟨Nat.zero_le _, Nat.zero_le _⟩ (fun H locs hH => ?_)
  refine lv_iload_n hx hb0 dX8_partsOf_17 rfl (lv_at hl 0 rfl) ?_
  obtain ⟨q18, e18, h⟩ := gBind_some h
  refine g_callSi (As := [.int (gI q14), .int (gI q5)]) (rest := []) ⟨hx, hb0, hml, hown, hts⟩ (metX8_stripOfDay l D G σ μ q14 q5 q18 e18) (g_cwS 2 hts q_ml_X8_322 q_st_X8_stripOfDay q_in_X8 q_co_X8_stripOfDay ⟨rfl, rfl⟩ (by decide +kernel) ⟨Nat.le_of_ble_eq_true rfl, Nat.le_of_ble_eq_true rfl⟩) hX hH rfl hl.1 rfl (Nat.le_of_ble_eq_true rfl) dX8_partsOf_18 ⟨Nat.zero_le _, Nat.zero_le _⟩ (fun H locs hH => ?_)
  refine lv_aload_n hx hb0 dX8_partsOf_21 rfl (lv_at hl 1 rfl) ?_
  refine g_getR hx hb0 hts q_ws_X8 hown hX hH (C := RX8) (T := TX8) (N := 10) (k := 0) (i := 0) (j := 1) (rfl : gKinds[0]? = _) rfl (by decide) (hts _ q_fl_X8_12) rfl rfl dX8_partsOf_22 ?_
  refine lv_iload_n hx hb0 dX8_partsOf_25 rfl (lv_at hl 2 rfl) ?_
  obtain ⟨q26, e26, h⟩ := gBind_some h
  refine g_callVi (k := 1) (T := TX5) (N := 8) (As := [.int (gI a1)]) (rest := [.int (gI q18)]) ⟨hx, hb0, hml, hown, hts⟩ (metX5_first l D G 1 gPlan_1 σ μ a1 q26 e26) (g_cwV (C := RX5) 1 hts q_ml_X8_122 q_im_X5_first q_se_X5_first q_in_X5 q_co_X5_first ⟨rfl, rfl⟩ (by decide +kernel) ⟨Nat.le_of_ble_eq_true rfl, Nat.le_of_ble_eq_true rfl⟩) hX hH gPlan_1.k rfl rfl hl.1 rfl (Nat.le_of_ble_eq_true rfl) dX8_partsOf_26 ⟨Nat.zero_le _, Nat.zero_le _⟩ (fun H locs hH => ?_)
  refine lv_iload_n hx hb0 dX8_partsOf_29 rfl (lv_at hl 0 rfl) ?_
  obtain ⟨q30, e30, h⟩ := gBind_some h
  refine g_callSi (As := [.int (gI q26), .int (gI q5)]) (rest := [.int (gI q18)]) ⟨hx, hb0, hml, hown, hts⟩ (metX8_stripOfDay l D G σ μ q26 q5 q30 e30) (g_cwS 2 hts q_ml_X8_322 q_st_X8_stripOfDay q_in_X8 q_co_X8_stripOfDay ⟨rfl, rfl⟩ (by decide +kernel) ⟨Nat.le_of_ble_eq_true rfl, Nat.le_of_ble_eq_true rfl⟩) hX hH rfl hl.1 rfl (Nat.le_of_ble_eq_true rfl) dX8_partsOf_30 ⟨Nat.zero_le _, Nat.zero_le _⟩ (fun H locs hH => ?_)
  refine g_isub hx hb0 dX8_partsOf_33 ?_
  refine lv_iconst (v := gI (1 : Int)) hx hb0 dX8_partsOf_34 (by decide) ?_
  refine g_iadd hx hb0 dX8_partsOf_35 ?_
  exact g_iretP hx hb0 hr hH hlocks dX8_partsOf_36 h
def DX8_numberOfTask (σ : gSt) (a1 : Int) (a2 : Int) : Option (Int) :=
  gIf (a2 = (0 : Int)) a2 (0 : Int) ((DX5_group 1 σ a1).bind fun q45 => some q45) (gIf (a2 = (1 : Int)) a2 (1 : Int) ((DX5_first 1 σ a1).bind fun q54 => some q54) (gIf (a2 = (2 : Int)) a2 (2 : Int) ((DX5_length 1 σ a1).bind fun q63 => some q63) (gIf (a2 = (3 : Int)) a2 (3 : Int) ((DX5_last 1 σ a1).bind fun q72 => some q72) (gIf (a2 = (4 : Int)) a2 (4 : Int) ((DX0_bandOf 87 σ a1).bind fun q81 => some q81) (gIf (a2 = (5 : Int)) a2 (5 : Int) ((DX0_rowOf 87 σ a1).bind fun q90 => some q90) ((DX8_partsOf σ a1).bind fun q96 => some q96))))))
set_option maxHeartbeats 4000000 in
set_option maxRecDepth 100000 in
theorem metX8_numberOfTask (l : Launch) (D : va_G) (G : gAd) (σ : gSt) (μ : gLg) (a1 : Int) (a2 : Int) (r : Int) (h : DX8_numberOfTask σ a1 a2 = some r) : Met l yX8_numberOfTask (gWs yX8_numberOfTask cX8_numberOfTask 3 (some (Jvm.ClassFile.FieldType.int))) ({ frames := 3, cells := 0, slots := 0, locals := 64 } : Room) (gPc D G [.ref (G.1 0), .int (gI a1), .int (gI a2)] σ μ) (gQi D G r σ μ) 0 0 (gA G) := by
  refine Met.ofW (cc := cX8_numberOfTask) (maxL := 3) (ret := (some (Jvm.ClassFile.FieldType.int))) (by decide) rfl ?_
  intro p e s m args below meth c s₁ B hml hv
  obtain ⟨rfl, hP, hX⟩ := hv
  have hx := B.exec
  have hb0 := B.bytes
  have hr := B.returns
  have hts0 := atoms_spec (ws := (gWs yX8_numberOfTask cX8_numberOfTask 3 (some (Jvm.ClassFile.FieldType.int)))) B.pre
  have hts : ∀ w ∈ gLW, w.before _ s = true := fun w hw => hts0 w (List.mem_cons_of_mem _ hw)
  have hown : s.vm.findClass RX8 = some m.cls := findClass_of_methodNamed B.named
  have hlocks := B.notSynchronized
  have hH : gH D G s s.heap [] σ μ := ⟨hP, va_S.rf⟩
  have hl := lv_entry ([.ref (G.1 0), .int (gI a1), .int (gI a2)]) (n := 3) (Nat.le_of_ble_eq_true rfl)
  rw [lg_entry_eq]
  generalize (lg_sl ([.ref (G.1 0), .int (gI a1), .int (gI a2)]) ++ List.replicate (3 - (lg_sl ([.ref (G.1 0), .int (gI a1), .int (gI a2)])).length) Slot.unset).toArray = ls at hl ⊢
  have hl : lv_has ls 3 [(0, .ref (G.1 0)), (1, .int (gI a1)), (2, .int (gI a2))] := hl
  unfold DX8_numberOfTask at h
  refine lv_iload_n hx hb0 dX8_numberOfTask_0 rfl (lv_at hl 2 rfl) ?_
  obtain ⟨hgr, -, h⟩ := gIf_some h
  rcases h with ⟨hc0, h⟩ | ⟨hc0, h⟩
  · refine g_tabIn (i := (0 : Int)) (tgt := 40) hx hb0 dX8_numberOfTask_1 hc0 (by decide) (by decide) (by decide) rfl (by decide) ?_
    refine lv_aload_n hx hb0 dX8_numberOfTask_40 rfl (lv_at hl 0 rfl) ?_
    refine g_getR hx hb0 hts q_ws_X8 hown hX hH (C := RX8) (T := TX8) (N := 10) (k := 0) (i := 0) (j := 1) (rfl : gKinds[0]? = _) rfl (by decide) (hts _ q_fl_X8_12) rfl rfl dX8_numberOfTask_41 ?_
    refine lv_iload_n hx hb0 dX8_numberOfTask_44 rfl (lv_at hl 1 rfl) ?_
    obtain ⟨q45, e45, h⟩ := gBind_some h
    refine g_callVi (k := 1) (T := TX5) (N := 8) (As := [.int (gI a1)]) (rest := []) ⟨hx, hb0, hml, hown, hts⟩ (metX5_group l D G 1 gPlan_1 σ μ a1 q45 e45) (g_cwV (C := RX5) 1 hts q_ml_X8_326 q_im_X5_group q_se_X5_group q_in_X5 q_co_X5_group ⟨rfl, rfl⟩ (by decide +kernel) ⟨Nat.le_of_ble_eq_true rfl, Nat.le_of_ble_eq_true rfl⟩) hX hH gPlan_1.k rfl rfl hl.1 rfl (Nat.le_of_ble_eq_true rfl) dX8_numberOfTask_45 ⟨Nat.zero_le _, Nat.zero_le _⟩ (fun H locs hH => ?_)
    exact g_iretP hx hb0 hr hH hlocks dX8_numberOfTask_48 h
  · obtain ⟨hgr, -, h⟩ := gIf_some h
    rcases h with ⟨hc1, h⟩ | ⟨hc1, h⟩
    · refine g_tabIn (i := (1 : Int)) (tgt := 49) hx hb0 dX8_numberOfTask_1 hc1 (by decide) (by decide) (by decide) rfl (by decide) ?_
      refine lv_aload_n hx hb0 dX8_numberOfTask_49 rfl (lv_at hl 0 rfl) ?_
      refine g_getR hx hb0 hts q_ws_X8 hown hX hH (C := RX8) (T := TX8) (N := 10) (k := 0) (i := 0) (j := 1) (rfl : gKinds[0]? = _) rfl (by decide) (hts _ q_fl_X8_12) rfl rfl dX8_numberOfTask_50 ?_
      refine lv_iload_n hx hb0 dX8_numberOfTask_53 rfl (lv_at hl 1 rfl) ?_
      obtain ⟨q54, e54, h⟩ := gBind_some h
      refine g_callVi (k := 1) (T := TX5) (N := 8) (As := [.int (gI a1)]) (rest := []) ⟨hx, hb0, hml, hown, hts⟩ (metX5_first l D G 1 gPlan_1 σ μ a1 q54 e54) (g_cwV (C := RX5) 1 hts q_ml_X8_122 q_im_X5_first q_se_X5_first q_in_X5 q_co_X5_first ⟨rfl, rfl⟩ (by decide +kernel) ⟨Nat.le_of_ble_eq_true rfl, Nat.le_of_ble_eq_true rfl⟩) hX hH gPlan_1.k rfl rfl hl.1 rfl (Nat.le_of_ble_eq_true rfl) dX8_numberOfTask_54 ⟨Nat.zero_le _, Nat.zero_le _⟩ (fun H locs hH => ?_)
      exact g_iretP hx hb0 hr hH hlocks dX8_numberOfTask_57 h
    · obtain ⟨hgr, -, h⟩ := gIf_some h
      rcases h with ⟨hc2, h⟩ | ⟨hc2, h⟩
      · refine g_tabIn (i := (2 : Int)) (tgt := 58) hx hb0 dX8_numberOfTask_1 hc2 (by decide) (by decide) (by decide) rfl (by decide) ?_
        refine lv_aload_n hx hb0 dX8_numberOfTask_58 rfl (lv_at hl 0 rfl) ?_
        refine g_getR hx hb0 hts q_ws_X8 hown hX hH (C := RX8) (T := TX8) (N := 10) (k := 0) (i := 0) (j := 1) (rfl : gKinds[0]? = _) rfl (by decide) (hts _ q_fl_X8_12) rfl rfl dX8_numberOfTask_59 ?_
        refine lv_iload_n hx hb0 dX8_numberOfTask_62 rfl (lv_at hl 1 rfl) ?_
        obtain ⟨q63, e63, h⟩ := gBind_some h
        refine g_callVi (k := 1) (T := TX5) (N := 8) (As := [.int (gI a1)]) (rest := []) ⟨hx, hb0, hml, hown, hts⟩ (metX5_length l D G 1 gPlan_1 σ μ a1 q63 e63) (g_cwV (C := RX5) 1 hts q_ml_X8_329 q_im_X5_length q_se_X5_length q_in_X5 q_co_X5_length ⟨rfl, rfl⟩ (by decide +kernel) ⟨Nat.le_of_ble_eq_true rfl, Nat.le_of_ble_eq_true rfl⟩) hX hH gPlan_1.k rfl rfl hl.1 rfl (Nat.le_of_ble_eq_true rfl) dX8_numberOfTask_63 ⟨Nat.zero_le _, Nat.zero_le _⟩ (fun H locs hH => ?_)
        exact g_iretP hx hb0 hr hH hlocks dX8_numberOfTask_66 h
      · obtain ⟨hgr, -, h⟩ := gIf_some h
        rcases h with ⟨hc3, h⟩ | ⟨hc3, h⟩
        · refine g_tabIn (i := (3 : Int)) (tgt := 67) hx hb0 dX8_numberOfTask_1 hc3 (by decide) (by decide) (by decide) rfl (by decide) ?_
          refine lv_aload_n hx hb0 dX8_numberOfTask_67 rfl (lv_at hl 0 rfl) ?_
          refine g_getR hx hb0 hts q_ws_X8 hown hX hH (C := RX8) (T := TX8) (N := 10) (k := 0) (i := 0) (j := 1) (rfl : gKinds[0]? = _) rfl (by decide) (hts _ q_fl_X8_12) rfl rfl dX8_numberOfTask_68 ?_
          refine lv_iload_n hx hb0 dX8_numberOfTask_71 rfl (lv_at hl 1 rfl) ?_
          obtain ⟨q72, e72, h⟩ := gBind_some h
          refine g_callVi (k := 1) (T := TX5) (N := 8) (As := [.int (gI a1)]) (rest := []) ⟨hx, hb0, hml, hown, hts⟩ (metX5_last l D G 1 gPlan_1 σ μ a1 q72 e72) (g_cwV (C := RX5) 1 hts q_ml_X8_240 q_im_X5_last q_se_X5_last q_in_X5 q_co_X5_last ⟨rfl, rfl⟩ (by decide +kernel) ⟨Nat.le_of_ble_eq_true rfl, Nat.le_of_ble_eq_true rfl⟩) hX hH gPlan_1.k rfl rfl hl.1 rfl (Nat.le_of_ble_eq_true rfl) dX8_numberOfTask_72 ⟨Nat.zero_le _, Nat.zero_le _⟩ (fun H locs hH => ?_)
          exact g_iretP hx hb0 hr hH hlocks dX8_numberOfTask_75 h
        · obtain ⟨hgr, -, h⟩ := gIf_some h
          rcases h with ⟨hc4, h⟩ | ⟨hc4, h⟩
          · refine g_tabIn (i := (4 : Int)) (tgt := 76) hx hb0 dX8_numberOfTask_1 hc4 (by decide) (by decide) (by decide) rfl (by decide) ?_
            refine lv_aload_n hx hb0 dX8_numberOfTask_76 rfl (lv_at hl 0 rfl) ?_
            refine g_getR hx hb0 hts q_ws_X8 hown hX hH (C := RX8) (T := TX8) (N := 10) (k := 0) (i := 5) (j := 87) (rfl : gKinds[0]? = _) rfl (by decide) (hts _ q_fl_X8_43) rfl rfl dX8_numberOfTask_77 ?_
            refine lv_iload_n hx hb0 dX8_numberOfTask_80 rfl (lv_at hl 1 rfl) ?_
            obtain ⟨q81, e81, h⟩ := gBind_some h
            refine g_callVi (k := 87) (T := TX0) (N := 8) (As := [.int (gI a1)]) (rest := []) ⟨hx, hb0, hml, hown, hts⟩ (metX0_bandOf l D G 87 gBands_87 σ μ a1 q81 e81) (g_cwV (C := RX0) 1 hts q_ml_X8_325 q_im_X0_bandOf q_se_X0_bandOf q_in_X0 q_co_X0_bandOf ⟨rfl, rfl⟩ (by decide +kernel) ⟨Nat.le_of_ble_eq_true rfl, Nat.le_of_ble_eq_true rfl⟩) hX hH gBands_87.k rfl rfl hl.1 rfl (Nat.le_of_ble_eq_true rfl) dX8_numberOfTask_81 ⟨Nat.zero_le _, Nat.zero_le _⟩ (fun H locs hH => ?_)
            exact g_iretP hx hb0 hr hH hlocks dX8_numberOfTask_84 h
          · obtain ⟨hgr, -, h⟩ := gIf_some h
            rcases h with ⟨hc5, h⟩ | ⟨hc5, h⟩
            · refine g_tabIn (i := (5 : Int)) (tgt := 85) hx hb0 dX8_numberOfTask_1 hc5 (by decide) (by decide) (by decide) rfl (by decide) ?_
              refine lv_aload_n hx hb0 dX8_numberOfTask_85 rfl (lv_at hl 0 rfl) ?_
              refine g_getR hx hb0 hts q_ws_X8 hown hX hH (C := RX8) (T := TX8) (N := 10) (k := 0) (i := 5) (j := 87) (rfl : gKinds[0]? = _) rfl (by decide) (hts _ q_fl_X8_43) rfl rfl dX8_numberOfTask_86 ?_
              refine lv_iload_n hx hb0 dX8_numberOfTask_89 rfl (lv_at hl 1 rfl) ?_
              obtain ⟨q90, e90, h⟩ := gBind_some h
              refine g_callVi (k := 87) (T := TX0) (N := 8) (As := [.int (gI a1)]) (rest := []) ⟨hx, hb0, hml, hown, hts⟩ (metX0_rowOf l D G 87 gBands_87 σ μ a1 q90 e90) (g_cwV (C := RX0) 1 hts q_ml_X8_331 q_im_X0_rowOf q_se_X0_rowOf q_in_X0 q_co_X0_rowOf ⟨rfl, rfl⟩ (by decide +kernel) ⟨Nat.le_of_ble_eq_true rfl, Nat.le_of_ble_eq_true rfl⟩) hX hH gBands_87.k rfl rfl hl.1 rfl (Nat.le_of_ble_eq_true rfl) dX8_numberOfTask_90 ⟨Nat.zero_le _, Nat.zero_le _⟩ (fun H locs hH => ?_)
              exact g_iretP hx hb0 hr hH hlocks dX8_numberOfTask_93 h
            · refine g_tabOut (tgt := 94) hx hb0 dX8_numberOfTask_1 hgr (by omega) (by decide) ?_
              refine lv_aload_n hx hb0 dX8_numberOfTask_94 rfl (lv_at hl 0 rfl) ?_
              refine lv_iload_n hx hb0 dX8_numberOfTask_95 rfl (lv_at hl 1 rfl) ?_
              obtain ⟨q96, e96, h⟩ := gBind_some h
              refine g_callVi (k := 0) (T := TX8) (N := 10) (As := [.int (gI a1)]) (rest := []) ⟨hx, hb0, hml, hown, hts⟩ (metX8_partsOf l D G σ μ a1 q96 e96) (g_cwV (C := RX8) 1 hts q_ml_X8_183 q_im_X8_partsOf q_se_X8_partsOf q_in_X8 q_co_X8_partsOf ⟨rfl, rfl⟩ (by decide +kernel) ⟨Nat.le_of_ble_eq_true rfl, Nat.le_of_ble_eq_true rfl⟩) hX hH (rfl : gKinds[0]? = _) rfl rfl hl.1 rfl (Nat.le_of_ble_eq_true rfl) dX8_numberOfTask_96 ⟨Nat.zero_le _, Nat.zero_le _⟩ (fun H locs hH => ?_)
              exact g_iretP hx hb0 hr hH hlocks dX8_numberOfTask_99 h
def DX8_task_J15  : Option (Nat ⊕ Int) :=
  some (.inl 1)
def DX8_task (σ : gSt) (a1 : Int) (a2 : Int) : Option (Nat ⊕ Int) :=
  gXb (DX8_requireTask σ a1) fun _ => gIf (a2 < (0 : Int)) a2 (0 : Int) ((DX8_task_J15)) (gIf (a2 < (7 : Int)) a2 (7 : Int) ((DX8_numberOfTask σ a1 a2).bind fun q28 => some (.inr q28)) ((DX8_task_J15)))
set_option maxHeartbeats 4000000 in
set_option maxRecDepth 100000 in
theorem metX8_task (l : Launch) (hlt : l.stackTraces = false) (D : va_G) (G : gAd) (σ : gSt) (μ : gLg) (a1 : Int) (a2 : Int) (r : Nat ⊕ Int) (h : DX8_task σ a1 a2 = some r) : vx_Met l yX8_task (gWs yX8_task cX8_task 3 (some (Jvm.ClassFile.FieldType.int))) ({ frames := 7, cells := 2, slots := 12, locals := 103 } : Room) (gPc D G [.ref (G.1 0), .int (gI a1), .int (gI a2)] σ μ) (gXp D G r σ μ) (gXC D G r σ μ) 2 12 (gA G) := by
  refine vx_ofW (cc := cX8_task) (maxL := 3) (ret := (some (Jvm.ClassFile.FieldType.int))) (by decide) rfl ?_
  intro p e s m args below meth c s₁ B hml hxt hv
  obtain ⟨rfl, hP, hX⟩ := hv
  have hx := B.exec
  have hb0 := B.bytes
  have hr := B.returns
  have hts0 := atoms_spec (ws := (gWs yX8_task cX8_task 3 (some (Jvm.ClassFile.FieldType.int)))) B.pre
  have hts : ∀ w ∈ gLW, w.before _ s = true := fun w hw => hts0 w (List.mem_cons_of_mem _ hw)
  have hown : s.vm.findClass RX8 = some m.cls := findClass_of_methodNamed B.named
  have hlocks := B.notSynchronized
  have hH : gH D G s s.heap [] σ μ := ⟨hP, va_S.rf⟩
  have hl := lv_entry ([.ref (G.1 0), .int (gI a1), .int (gI a2)]) (n := 3) (Nat.le_of_ble_eq_true rfl)
  rw [lg_entry_eq]
  generalize (lg_sl ([.ref (G.1 0), .int (gI a1), .int (gI a2)]) ++ List.replicate (3 - (lg_sl ([.ref (G.1 0), .int (gI a1), .int (gI a2)])).length) Slot.unset).toArray = ls at hl ⊢
  have hl : lv_has ls 3 [(0, .ref (G.1 0)), (1, .int (gI a1)), (2, .int (gI a2))] := hl
  unfold DX8_task at h
  refine lv_aload_n hx hb0 dX8_task_0 rfl (lv_at hl 0 rfl) ?_
  refine lv_iload_n hx hb0 dX8_task_1 rfl (lv_at hl 1 rfl) ?_
  obtain ⟨q2, e2, h⟩ := gXb_some h
  refine g_xcallVv (k := 0) (T := TX8) (N := 10) (As := [.int (gI a1)]) (rest := []) (x := q2) ⟨hx, hb0, hml, hown, hts⟩ (metX8_requireTask l hlt D G σ μ a1 q2 e2) (g_cwX (C := RX8) 1 hts q_ml_X8_116 q_im_X8_requireTask q_se_X8_requireTask q_in_X8 q_co_X8_requireTask ⟨rfl, rfl⟩ (by decide +kernel) ⟨Nat.le_of_ble_eq_true rfl, Nat.le_of_ble_eq_true rfl⟩) hX hH (rfl : gKinds[0]? = _) rfl rfl hl.1 rfl (Nat.le_of_ble_eq_true rfl) dX8_task_2 ⟨Nat.le_of_ble_eq_true rfl, Nat.le_of_ble_eq_true rfl⟩ (fun k9 E9 ce9 q9 H locs hk9 hE9 hH h1 h2 h3 => ?_) (fun hk9 H locs hH => ?_)
  · rcases h with ⟨k8, h8, h⟩ | ⟨a8, h8, h⟩
    · rw [h8] at hk9
      cases hk9
      exact g_xout hxt hlocks hE9 hH h1 h2 h3 (Nat.le_of_ble_eq_true rfl) (Nat.le_of_ble_eq_true rfl) h
    · rw [h8] at hk9
      cases hk9
  · rcases h with ⟨k8, h8, h⟩ | ⟨a8, h8, h⟩
    · rw [h8] at hk9
      cases hk9
    · refine lv_iload_n hx hb0 dX8_task_5 rfl (lv_at hl 2 rfl) ?_
      have hJ15 : ∀  (H : Heap) (locs : List Loc) (ls : Array Slot), gH D G s H locs σ μ → lv_has ls 3 [] → (DX8_task_J15) = some r → W p l e (headSpec (gWs yX8_task cX8_task 3 (some (Jvm.ClassFile.FieldType.int))) ({ frames := 7, cells := 2, slots := 12, locals := 103 } : Room)).room s m ([.ref (G.1 0), .int (gI a1), .int (gI a2)] : List Value).toArray below meth c H locs 1 6 (vx_MQ below (gXp D G r σ μ) (gXC D G r σ μ) ([.ref (G.1 0), .int (gI a1), .int (gI a2)] : List Value).toArray s 2 12 (gA G)) (F0 m 15 ls []) := by
        intro H locs ls hH hl h
        unfold DX8_task_J15 at h
        exact g_throwS (text := "no such thing about a task") (k := 1) hx hb0 hlt hown hts hX hH rfl q_cl_X8_71 q_in_java_lang_IllegalArgumentException g_bad1 g_ok1 g_ot1 (by decide +kernel) (by decide +kernel) (hl.1.trans hml.symm) dX8_task_15 dX8_task_18 dX8_task_19 dX8_task_21 dX8_task_24 hxt ⟨⟨Nat.le_of_ble_eq_true rfl, Nat.le_of_ble_eq_true rfl⟩, Nat.le_of_ble_eq_true rfl, Nat.le_of_ble_eq_true rfl⟩ hlocks ⟨Nat.le_of_ble_eq_true rfl, Nat.le_of_ble_eq_true rfl⟩ h
      refine g_if_lt (tgt := 15) hx hb0 dX8_task_6 (by decide) h (fun h => ?_) (fun h => ?_)
      · exact hJ15  _ _ _ hH (lv_sub hl [] rfl) h
      · refine lv_iload_n hx hb0 dX8_task_9 rfl (lv_at hl 2 rfl) ?_
        refine lv_bipush (v := gI (7 : Int)) hx hb0 dX8_task_10 (by decide) ?_
        refine g_icmp_lt (tgt := 25) hx hb0 dX8_task_12 (by decide) h (fun h => ?_) (fun h => ?_)
        · refine lv_aload_n hx hb0 dX8_task_25 rfl (lv_at hl 0 rfl) ?_
          refine lv_iload_n hx hb0 dX8_task_26 rfl (lv_at hl 1 rfl) ?_
          refine lv_iload_n hx hb0 dX8_task_27 rfl (lv_at hl 2 rfl) ?_
          obtain ⟨q28, e28, h⟩ := gBind_some h
          refine g_callVi (k := 0) (T := TX8) (N := 10) (As := [.int (gI a1), .int (gI a2)]) (rest := []) ⟨hx, hb0, hml, hown, hts⟩ (metX8_numberOfTask l D G σ μ a1 a2 q28 e28) (g_cwV (C := RX8) 2 hts q_ml_X8_154 q_im_X8_numberOfTask q_se_X8_numberOfTask q_in_X8 q_co_X8_numberOfTask ⟨rfl, rfl⟩ (by decide +kernel) ⟨Nat.le_of_ble_eq_true rfl, Nat.le_of_ble_eq_true rfl⟩) hX hH (rfl : gKinds[0]? = _) rfl rfl hl.1 rfl (Nat.le_of_ble_eq_true rfl) dX8_task_28 ⟨Nat.le_of_ble_eq_true rfl, Nat.le_of_ble_eq_true rfl⟩ (fun H locs hH => ?_)
          exact g_xpret hx hb0 hr hH hlocks (Nat.le_of_ble_eq_true rfl) (Nat.le_of_ble_eq_true rfl) dX8_task_31 h
        · exact hJ15  _ _ _ hH (lv_sub hl [] rfl) h
def DX8_bands (σ : gSt) : Option (Int) :=
  (DX0_count 87 σ).bind fun q4 => some q4
set_option maxHeartbeats 4000000 in
set_option maxRecDepth 100000 in
theorem metX8_bands (l : Launch) (D : va_G) (G : gAd) (σ : gSt) (μ : gLg) (r : Int) (h : DX8_bands σ = some r) : Met l yX8_bands (gWs yX8_bands cX8_bands 1 (some (Jvm.ClassFile.FieldType.int))) ({ frames := 1, cells := 0, slots := 0, locals := 20 } : Room) (gPc D G [.ref (G.1 0)] σ μ) (gQi D G r σ μ) 0 0 (gA G) := by
  refine Met.ofW (cc := cX8_bands) (maxL := 1) (ret := (some (Jvm.ClassFile.FieldType.int))) (by decide) rfl ?_
  intro p e s m args below meth c s₁ B hml hv
  obtain ⟨rfl, hP, hX⟩ := hv
  have hx := B.exec
  have hb0 := B.bytes
  have hr := B.returns
  have hts0 := atoms_spec (ws := (gWs yX8_bands cX8_bands 1 (some (Jvm.ClassFile.FieldType.int)))) B.pre
  have hts : ∀ w ∈ gLW, w.before _ s = true := fun w hw => hts0 w (List.mem_cons_of_mem _ hw)
  have hown : s.vm.findClass RX8 = some m.cls := findClass_of_methodNamed B.named
  have hlocks := B.notSynchronized
  have hH : gH D G s s.heap [] σ μ := ⟨hP, va_S.rf⟩
  have hl := lv_entry ([.ref (G.1 0)]) (n := 1) (Nat.le_of_ble_eq_true rfl)
  rw [lg_entry_eq]
  generalize (lg_sl ([.ref (G.1 0)]) ++ List.replicate (1 - (lg_sl ([.ref (G.1 0)])).length) Slot.unset).toArray = ls at hl ⊢
  have hl : lv_has ls 1 [(0, .ref (G.1 0))] := hl
  unfold DX8_bands at h
  refine lv_aload_n hx hb0 dX8_bands_0 rfl (lv_at hl 0 rfl) ?_
  refine g_getR hx hb0 hts q_ws_X8 hown hX hH (C := RX8) (T := TX8) (N := 10) (k := 0) (i := 5) (j := 87) (rfl : gKinds[0]? = _) rfl (by decide) (hts _ q_fl_X8_43) rfl rfl dX8_bands_1 ?_
  obtain ⟨q4, e4, h⟩ := gBind_some h
  refine g_callVi (k := 87) (T := TX0) (N := 8) (As := []) (rest := []) ⟨hx, hb0, hml, hown, hts⟩ (metX0_count l D G 87 gBands_87 σ μ q4 e4) (g_cwV (C := RX0) 0 hts q_ml_X8_157 q_im_X0_count q_se_X0_count q_in_X0 q_co_X0_count ⟨rfl, rfl⟩ (by decide +kernel) ⟨Nat.le_of_ble_eq_true rfl, Nat.le_of_ble_eq_true rfl⟩) hX hH gBands_87.k rfl rfl hl.1 rfl (Nat.le_of_ble_eq_true rfl) dX8_bands_4 ⟨Nat.zero_le _, Nat.zero_le _⟩ (fun H locs hH => ?_)
  exact g_iretP hx hb0 hr hH hlocks dX8_bands_7 h
def DX8_requireBand_J15  : Option (Nat ⊕ Unit) :=
  some (.inl 3)
def DX8_requireBand (σ : gSt) (a1 : Int) : Option (Nat ⊕ Unit) :=
  gIf (a1 < (0 : Int)) a1 (0 : Int) ((DX8_requireBand_J15)) ((DX0_count 87 σ).bind fun q9 => gIf (a1 < q9) a1 q9 (some (.inr ())) ((DX8_requireBand_J15)))
set_option maxHeartbeats 4000000 in
set_option maxRecDepth 100000 in
theorem metX8_requireBand (l : Launch) (hlt : l.stackTraces = false) (D : va_G) (G : gAd) (σ : gSt) (μ : gLg) (a1 : Int) (r : Nat ⊕ Unit) (h : DX8_requireBand σ a1 = some r) : vx_Met l yX8_requireBand (gWs yX8_requireBand cX8_requireBand 2 none) ({ frames := 6, cells := 1, slots := 6, locals := 82 } : Room) (gPc D G [.ref (G.1 0), .int (gI a1)] σ μ) (gXv D G r σ μ) (gXC D G r σ μ) 1 6 (gA G) := by
  refine vx_ofW (cc := cX8_requireBand) (maxL := 2) (ret := none) (by decide) rfl ?_
  intro p e s m args below meth c s₁ B hml hxt hv
  obtain ⟨rfl, hP, hX⟩ := hv
  have hx := B.exec
  have hb0 := B.bytes
  have hr := B.returns
  have hts0 := atoms_spec (ws := (gWs yX8_requireBand cX8_requireBand 2 none)) B.pre
  have hts : ∀ w ∈ gLW, w.before _ s = true := fun w hw => hts0 w (List.mem_cons_of_mem _ hw)
  have hown : s.vm.findClass RX8 = some m.cls := findClass_of_methodNamed B.named
  have hlocks := B.notSynchronized
  have hH : gH D G s s.heap [] σ μ := ⟨hP, va_S.rf⟩
  have hl := lv_entry ([.ref (G.1 0), .int (gI a1)]) (n := 2) (Nat.le_of_ble_eq_true rfl)
  rw [lg_entry_eq]
  generalize (lg_sl ([.ref (G.1 0), .int (gI a1)]) ++ List.replicate (2 - (lg_sl ([.ref (G.1 0), .int (gI a1)])).length) Slot.unset).toArray = ls at hl ⊢
  have hl : lv_has ls 2 [(0, .ref (G.1 0)), (1, .int (gI a1))] := hl
  unfold DX8_requireBand at h
  refine lv_iload_n hx hb0 dX8_requireBand_0 rfl (lv_at hl 1 rfl) ?_
  have hJ15 : ∀  (H : Heap) (locs : List Loc) (ls : Array Slot), gH D G s H locs σ μ → lv_has ls 2 [] → (DX8_requireBand_J15) = some r → W p l e (headSpec (gWs yX8_requireBand cX8_requireBand 2 none) ({ frames := 6, cells := 1, slots := 6, locals := 82 } : Room)).room s m ([.ref (G.1 0), .int (gI a1)] : List Value).toArray below meth c H locs 0 0 (vx_MQ below (gXv D G r σ μ) (gXC D G r σ μ) ([.ref (G.1 0), .int (gI a1)] : List Value).toArray s 1 6 (gA G)) (F0 m 15 ls []) := by
    intro H locs ls hH hl h
    unfold DX8_requireBand_J15 at h
    exact g_throwSW (text := "no such band") (k := 3) hx hb0 hlt hown hts hX hH rfl q_cl_X8_186 q_in_java_lang_IndexOutOfBoundsException g_bad3 g_ok3 g_ot3 (by decide +kernel) (by decide +kernel) (hl.1.trans hml.symm) dX8_requireBand_15 dX8_requireBand_18 dX8_requireBand_19 dX8_requireBand_22 dX8_requireBand_25 hxt ⟨⟨Nat.le_of_ble_eq_true rfl, Nat.le_of_ble_eq_true rfl⟩, Nat.le_of_ble_eq_true rfl, Nat.le_of_ble_eq_true rfl⟩ hlocks ⟨Nat.le_of_ble_eq_true rfl, Nat.le_of_ble_eq_true rfl⟩ h
  refine g_if_lt (tgt := 15) hx hb0 dX8_requireBand_1 (by decide) h (fun h => ?_) (fun h => ?_)
  · exact hJ15  _ _ _ hH (lv_sub hl [] rfl) h
  · refine lv_iload_n hx hb0 dX8_requireBand_4 rfl (lv_at hl 1 rfl) ?_
    refine lv_aload_n hx hb0 dX8_requireBand_5 rfl (lv_at hl 0 rfl) ?_
    refine g_getR hx hb0 hts q_ws_X8 hown hX hH (C := RX8) (T := TX8) (N := 10) (k := 0) (i := 5) (j := 87) (rfl : gKinds[0]? = _) rfl (by decide) (hts _ q_fl_X8_43) rfl rfl dX8_requireBand_6 ?_
    obtain ⟨q9, e9, h⟩ := gBind_some h
    refine g_callVi (k := 87) (T := TX0) (N := 8) (As := []) (rest := [.int (gI a1)]) ⟨hx, hb0, hml, hown, hts⟩ (metX0_count l D G 87 gBands_87 σ μ q9 e9) (g_cwV (C := RX0) 0 hts q_ml_X8_157 q_im_X0_count q_se_X0_count q_in_X0 q_co_X0_count ⟨rfl, rfl⟩ (by decide +kernel) ⟨Nat.le_of_ble_eq_true rfl, Nat.le_of_ble_eq_true rfl⟩) hX hH gBands_87.k rfl rfl hl.1 rfl (Nat.le_of_ble_eq_true rfl) dX8_requireBand_9 ⟨Nat.le_of_ble_eq_true rfl, Nat.le_of_ble_eq_true rfl⟩ (fun H locs hH => ?_)
    refine g_icmp_lt (tgt := 26) hx hb0 dX8_requireBand_12 (by decide) h (fun h => ?_) (fun h => ?_)
    · exact g_xvret hx hb0 hr hH hlocks (Nat.le_of_ble_eq_true rfl) (Nat.le_of_ble_eq_true rfl) dX8_requireBand_26 h
    · exact hJ15  _ _ _ hH (lv_sub hl [] rfl) h
def DX8_requireRow_J16  : Option (Nat ⊕ Unit) :=
  some (.inl 3)
def DX8_requireRow (σ : gSt) (a1 : Int) : Option (Nat ⊕ Unit) :=
  gIf (a1 < (0 : Int)) a1 (0 : Int) ((DX8_requireRow_J16)) ((DX5_setting 1 σ (0 : Int)).bind fun q10 => gIf (a1 < q10) a1 q10 (some (.inr ())) ((DX8_requireRow_J16)))
set_option maxHeartbeats 4000000 in
set_option maxRecDepth 100000 in
theorem metX8_requireRow (l : Launch) (hlt : l.stackTraces = false) (D : va_G) (G : gAd) (σ : gSt) (μ : gLg) (a1 : Int) (r : Nat ⊕ Unit) (h : DX8_requireRow σ a1 = some r) : vx_Met l yX8_requireRow (gWs yX8_requireRow cX8_requireRow 2 none) ({ frames := 6, cells := 1, slots := 6, locals := 82 } : Room) (gPc D G [.ref (G.1 0), .int (gI a1)] σ μ) (gXv D G r σ μ) (gXC D G r σ μ) 1 6 (gA G) := by
  refine vx_ofW (cc := cX8_requireRow) (maxL := 2) (ret := none) (by decide) rfl ?_
  intro p e s m args below meth c s₁ B hml hxt hv
  obtain ⟨rfl, hP, hX⟩ := hv
  have hx := B.exec
  have hb0 := B.bytes
  have hr := B.returns
  have hts0 := atoms_spec (ws := (gWs yX8_requireRow cX8_requireRow 2 none)) B.pre
  have hts : ∀ w ∈ gLW, w.before _ s = true := fun w hw => hts0 w (List.mem_cons_of_mem _ hw)
  have hown : s.vm.findClass RX8 = some m.cls := findClass_of_methodNamed B.named
  have hlocks := B.notSynchronized
  have hH : gH D G s s.heap [] σ μ := ⟨hP, va_S.rf⟩
  have hl := lv_entry ([.ref (G.1 0), .int (gI a1)]) (n := 2) (Nat.le_of_ble_eq_true rfl)
  rw [lg_entry_eq]
  generalize (lg_sl ([.ref (G.1 0), .int (gI a1)]) ++ List.replicate (2 - (lg_sl ([.ref (G.1 0), .int (gI a1)])).length) Slot.unset).toArray = ls at hl ⊢
  have hl : lv_has ls 2 [(0, .ref (G.1 0)), (1, .int (gI a1))] := hl
  unfold DX8_requireRow at h
  refine lv_iload_n hx hb0 dX8_requireRow_0 rfl (lv_at hl 1 rfl) ?_
  have hJ16 : ∀  (H : Heap) (locs : List Loc) (ls : Array Slot), gH D G s H locs σ μ → lv_has ls 2 [] → (DX8_requireRow_J16) = some r → W p l e (headSpec (gWs yX8_requireRow cX8_requireRow 2 none) ({ frames := 6, cells := 1, slots := 6, locals := 82 } : Room)).room s m ([.ref (G.1 0), .int (gI a1)] : List Value).toArray below meth c H locs 0 0 (vx_MQ below (gXv D G r σ μ) (gXC D G r σ μ) ([.ref (G.1 0), .int (gI a1)] : List Value).toArray s 1 6 (gA G)) (F0 m 16 ls []) := by
    intro H locs ls hH hl h
    unfold DX8_requireRow_J16 at h
    exact g_throwSW (text := "no such row") (k := 3) hx hb0 hlt hown hts hX hH rfl q_cl_X8_186 q_in_java_lang_IndexOutOfBoundsException g_bad3 g_ok3 g_ot3 (by decide +kernel) (by decide +kernel) (hl.1.trans hml.symm) dX8_requireRow_16 dX8_requireRow_19 dX8_requireRow_20 dX8_requireRow_23 dX8_requireRow_26 hxt ⟨⟨Nat.le_of_ble_eq_true rfl, Nat.le_of_ble_eq_true rfl⟩, Nat.le_of_ble_eq_true rfl, Nat.le_of_ble_eq_true rfl⟩ hlocks ⟨Nat.le_of_ble_eq_true rfl, Nat.le_of_ble_eq_true rfl⟩ h
  refine g_if_lt (tgt := 16) hx hb0 dX8_requireRow_1 (by decide) h (fun h => ?_) (fun h => ?_)
  · exact hJ16  _ _ _ hH (lv_sub hl [] rfl) h
  · refine lv_iload_n hx hb0 dX8_requireRow_4 rfl (lv_at hl 1 rfl) ?_
    refine lv_aload_n hx hb0 dX8_requireRow_5 rfl (lv_at hl 0 rfl) ?_
    refine g_getR hx hb0 hts q_ws_X8 hown hX hH (C := RX8) (T := TX8) (N := 10) (k := 0) (i := 0) (j := 1) (rfl : gKinds[0]? = _) rfl (by decide) (hts _ q_fl_X8_12) rfl rfl dX8_requireRow_6 ?_
    refine lv_iconst (v := gI (0 : Int)) hx hb0 dX8_requireRow_9 (by decide) ?_
    obtain ⟨q10, e10, h⟩ := gBind_some h
    refine g_callVi (k := 1) (T := TX5) (N := 8) (As := [.int (gI (0 : Int))]) (rest := [.int (gI a1)]) ⟨hx, hb0, hml, hown, hts⟩ (metX5_setting l D G 1 gPlan_1 σ μ (0 : Int) q10 e10) (g_cwV (C := RX5) 1 hts q_ml_X8_82 q_im_X5_setting q_se_X5_setting q_in_X5 q_co_X5_setting ⟨rfl, rfl⟩ (by decide +kernel) ⟨Nat.le_of_ble_eq_true rfl, Nat.le_of_ble_eq_true rfl⟩) hX hH gPlan_1.k rfl rfl hl.1 rfl (Nat.le_of_ble_eq_true rfl) dX8_requireRow_10 ⟨Nat.le_of_ble_eq_true rfl, Nat.le_of_ble_eq_true rfl⟩ (fun H locs hH => ?_)
    refine g_icmp_lt (tgt := 27) hx hb0 dX8_requireRow_13 (by decide) h (fun h => ?_) (fun h => ?_)
    · exact g_xvret hx hb0 hr hH hlocks (Nat.le_of_ble_eq_true rfl) (Nat.le_of_ble_eq_true rfl) dX8_requireRow_27 h
    · exact hJ16  _ _ _ hH (lv_sub hl [] rfl) h
def DX0_content (b : Nat) (σ : gSt) (a1 : Int) (a2 : Int) : Option (Int) :=
  (DX4_at (b + 1) 480 σ ((a1 * (20 : Int)) + a2)).bind fun q10 => some q10
set_option maxHeartbeats 4000000 in
set_option maxRecDepth 100000 in
theorem metX0_content (l : Launch) (D : va_G) (G : gAd) (b : Nat) (hb : gBands b) (σ : gSt) (μ : gLg) (a1 : Int) (a2 : Int) (r : Int) (h : DX0_content b σ a1 a2 = some r) : Met l yX0_content (gWs yX0_content cX0_content 3 (some (Jvm.ClassFile.FieldType.int))) ({ frames := 1, cells := 0, slots := 0, locals := 21 } : Room) (gPc D G [.ref (G.1 b), .int (gI a1), .int (gI a2)] σ μ) (gQi D G r σ μ) 0 0 (gA G) := by
  refine Met.ofW (cc := cX0_content) (maxL := 3) (ret := (some (Jvm.ClassFile.FieldType.int))) (by decide) rfl ?_
  intro p e s m args below meth c s₁ B hml hv
  obtain ⟨rfl, hP, hX⟩ := hv
  have hx := B.exec
  have hb0 := B.bytes
  have hr := B.returns
  have hts0 := atoms_spec (ws := (gWs yX0_content cX0_content 3 (some (Jvm.ClassFile.FieldType.int)))) B.pre
  have hts : ∀ w ∈ gLW, w.before _ s = true := fun w hw => hts0 w (List.mem_cons_of_mem _ hw)
  have hown : s.vm.findClass RX0 = some m.cls := findClass_of_methodNamed B.named
  have hlocks := B.notSynchronized
  have hH : gH D G s s.heap [] σ μ := ⟨hP, va_S.rf⟩
  have hl := lv_entry ([.ref (G.1 b), .int (gI a1), .int (gI a2)]) (n := 3) (Nat.le_of_ble_eq_true rfl)
  rw [lg_entry_eq]
  generalize (lg_sl ([.ref (G.1 b), .int (gI a1), .int (gI a2)]) ++ List.replicate (3 - (lg_sl ([.ref (G.1 b), .int (gI a1), .int (gI a2)])).length) Slot.unset).toArray = ls at hl ⊢
  have hl : lv_has ls 3 [(0, .ref (G.1 b)), (1, .int (gI a1)), (2, .int (gI a2))] := hl
  unfold DX0_content at h
  refine lv_aload_n hx hb0 dX0_content_0 rfl (lv_at hl 0 rfl) ?_
  refine g_getR hx hb0 hts q_ws_X0 hown hX hH (C := RX0) (T := TX0) (N := 8) (k := b) (i := 0) (j := (b + 1)) hb.k rfl (by decide) (hts _ q_fl_X0_14) rfl rfl dX0_content_1 ?_
  refine lv_iload_n hx hb0 dX0_content_4 rfl (lv_at hl 1 rfl) ?_
  refine lv_bipush (v := gI (20 : Int)) hx hb0 dX0_content_5 (by decide) ?_
  refine g_imul hx hb0 dX0_content_7 ?_
  refine lv_iload_n hx hb0 dX0_content_8 rfl (lv_at hl 2 rfl) ?_
  refine g_iadd hx hb0 dX0_content_9 ?_
  obtain ⟨q10, e10, h⟩ := gBind_some h
  refine g_callVi (k := (b + 1)) (T := TX4) (N := 1) (As := [.int (gI ((a1 * (20 : Int)) + a2))]) (rest := []) ⟨hx, hb0, hml, hown, hts⟩ (metX4_at l D G (b + 1) 480 (hb.n0) σ μ ((a1 * (20 : Int)) + a2) q10 e10) (g_cwV (C := RX4) 1 hts q_ml_X0_33 q_im_X4_at q_se_X4_at q_in_X4 q_co_X4_at ⟨rfl, rfl⟩ (by decide +kernel) ⟨Nat.le_of_ble_eq_true rfl, Nat.le_of_ble_eq_true rfl⟩) hX hH ((hb.n0)).1 rfl rfl hl.1 rfl (Nat.le_of_ble_eq_true rfl) dX0_content_10 ⟨Nat.zero_le _, Nat.zero_le _⟩ (fun H locs hH => ?_)
  exact g_iretP hx hb0 hr hH hlocks dX0_content_13 h
def DX8_row (σ : gSt) (a1 : Int) (a2 : Int) : Option (Nat ⊕ Int) :=
  gXb (DX8_requireBand σ a1) fun _ => gXb (DX8_requireRow σ a2) fun _ => (DX0_content 87 σ a1 a2).bind fun q16 => some (.inr q16)
set_option maxHeartbeats 4000000 in
set_option maxRecDepth 100000 in
theorem metX8_row (l : Launch) (hlt : l.stackTraces = false) (D : va_G) (G : gAd) (σ : gSt) (μ : gLg) (a1 : Int) (a2 : Int) (r : Nat ⊕ Int) (h : DX8_row σ a1 a2 = some r) : vx_Met l yX8_row (gWs yX8_row cX8_row 3 (some (Jvm.ClassFile.FieldType.int))) ({ frames := 7, cells := 2, slots := 12, locals := 103 } : Room) (gPc D G [.ref (G.1 0), .int (gI a1), .int (gI a2)] σ μ) (gXp D G r σ μ) (gXC D G r σ μ) 2 12 (gA G) := by
  refine vx_ofW (cc := cX8_row) (maxL := 3) (ret := (some (Jvm.ClassFile.FieldType.int))) (by decide) rfl ?_
  intro p e s m args below meth c s₁ B hml hxt hv
  obtain ⟨rfl, hP, hX⟩ := hv
  have hx := B.exec
  have hb0 := B.bytes
  have hr := B.returns
  have hts0 := atoms_spec (ws := (gWs yX8_row cX8_row 3 (some (Jvm.ClassFile.FieldType.int)))) B.pre
  have hts : ∀ w ∈ gLW, w.before _ s = true := fun w hw => hts0 w (List.mem_cons_of_mem _ hw)
  have hown : s.vm.findClass RX8 = some m.cls := findClass_of_methodNamed B.named
  have hlocks := B.notSynchronized
  have hH : gH D G s s.heap [] σ μ := ⟨hP, va_S.rf⟩
  have hl := lv_entry ([.ref (G.1 0), .int (gI a1), .int (gI a2)]) (n := 3) (Nat.le_of_ble_eq_true rfl)
  rw [lg_entry_eq]
  generalize (lg_sl ([.ref (G.1 0), .int (gI a1), .int (gI a2)]) ++ List.replicate (3 - (lg_sl ([.ref (G.1 0), .int (gI a1), .int (gI a2)])).length) Slot.unset).toArray = ls at hl ⊢
  have hl : lv_has ls 3 [(0, .ref (G.1 0)), (1, .int (gI a1)), (2, .int (gI a2))] := hl
  unfold DX8_row at h
  refine lv_aload_n hx hb0 dX8_row_0 rfl (lv_at hl 0 rfl) ?_
  refine lv_iload_n hx hb0 dX8_row_1 rfl (lv_at hl 1 rfl) ?_
  obtain ⟨q2, e2, h⟩ := gXb_some h
  refine g_xcallVv (k := 0) (T := TX8) (N := 10) (As := [.int (gI a1)]) (rest := []) (x := q2) ⟨hx, hb0, hml, hown, hts⟩ (metX8_requireBand l hlt D G σ μ a1 q2 e2) (g_cwX (C := RX8) 1 hts q_ml_X8_160 q_im_X8_requireBand q_se_X8_requireBand q_in_X8 q_co_X8_requireBand ⟨rfl, rfl⟩ (by decide +kernel) ⟨Nat.le_of_ble_eq_true rfl, Nat.le_of_ble_eq_true rfl⟩) hX hH (rfl : gKinds[0]? = _) rfl rfl hl.1 rfl (Nat.le_of_ble_eq_true rfl) dX8_row_2 ⟨Nat.le_of_ble_eq_true rfl, Nat.le_of_ble_eq_true rfl⟩ (fun k9 E9 ce9 q9 H locs hk9 hE9 hH h1 h2 h3 => ?_) (fun hk9 H locs hH => ?_)
  · rcases h with ⟨k8, h8, h⟩ | ⟨a8, h8, h⟩
    · rw [h8] at hk9
      cases hk9
      exact g_xout hxt hlocks hE9 hH h1 h2 h3 (Nat.le_of_ble_eq_true rfl) (Nat.le_of_ble_eq_true rfl) h
    · rw [h8] at hk9
      cases hk9
  · rcases h with ⟨k8, h8, h⟩ | ⟨a8, h8, h⟩
    · rw [h8] at hk9
      cases hk9
    · refine lv_aload_n hx hb0 dX8_row_5 rfl (lv_at hl 0 rfl) ?_
      refine lv_iload_n hx hb0 dX8_row_6 rfl (lv_at hl 2 rfl) ?_
      obtain ⟨q7, e7, h⟩ := gXb_some h
      refine g_xcallVv (k := 0) (T := TX8) (N := 10) (As := [.int (gI a2)]) (rest := []) (x := q7) ⟨hx, hb0, hml, hown, hts⟩ (metX8_requireRow l hlt D G σ μ a2 q7 e7) (g_cwX (C := RX8) 1 hts q_ml_X8_163 q_im_X8_requireRow q_se_X8_requireRow q_in_X8 q_co_X8_requireRow ⟨rfl, rfl⟩ (by decide +kernel) ⟨Nat.le_of_ble_eq_true rfl, Nat.le_of_ble_eq_true rfl⟩) hX hH (rfl : gKinds[0]? = _) rfl rfl hl.1 rfl (Nat.le_of_ble_eq_true rfl) dX8_row_7 ⟨Nat.le_of_ble_eq_true rfl, Nat.le_of_ble_eq_true rfl⟩ (fun k9 E9 ce9 q9 H locs hk9 hE9 hH h1 h2 h3 => ?_) (fun hk9 H locs hH => ?_)
      · rcases h with ⟨k8, h8, h⟩ | ⟨a8, h8, h⟩
        · rw [h8] at hk9
          cases hk9
          exact g_xout hxt hlocks hE9 hH h1 h2 h3 (Nat.le_of_ble_eq_true rfl) (Nat.le_of_ble_eq_true rfl) h
        · rw [h8] at hk9
          cases hk9
      · rcases h with ⟨k8, h8, h⟩ | ⟨a8, h8, h⟩
        · rw [h8] at hk9
          cases hk9
        · refine lv_aload_n hx hb0 dX8_row_10 rfl (lv_at hl 0 rfl) ?_
          refine g_getR hx hb0 hts q_ws_X8 hown hX hH (C := RX8) (T := TX8) (N := 10) (k := 0) (i := 5) (j := 87) (rfl : gKinds[0]? = _) rfl (by decide) (hts _ q_fl_X8_43) rfl rfl dX8_row_11 ?_
          refine lv_iload_n hx hb0 dX8_row_14 rfl (lv_at hl 1 rfl) ?_
          refine lv_iload_n hx hb0 dX8_row_15 rfl (lv_at hl 2 rfl) ?_
          obtain ⟨q16, e16, h⟩ := gBind_some h
          refine g_callVi (k := 87) (T := TX0) (N := 8) (As := [.int (gI a1), .int (gI a2)]) (rest := []) ⟨hx, hb0, hml, hown, hts⟩ (metX0_content l D G 87 gBands_87 σ μ a1 a2 q16 e16) (g_cwV (C := RX0) 2 hts q_ml_X8_166 q_im_X0_content q_se_X0_content q_in_X0 q_co_X0_content ⟨rfl, rfl⟩ (by decide +kernel) ⟨Nat.le_of_ble_eq_true rfl, Nat.le_of_ble_eq_true rfl⟩) hX hH gBands_87.k rfl rfl hl.1 rfl (Nat.le_of_ble_eq_true rfl) dX8_row_16 ⟨Nat.le_of_ble_eq_true rfl, Nat.le_of_ble_eq_true rfl⟩ (fun H locs hH => ?_)
          exact g_xpret hx hb0 hr hH hlocks (Nat.le_of_ble_eq_true rfl) (Nat.le_of_ble_eq_true rfl) dX8_row_19 h
def DX8_numberOfPart (σ : gSt) (a1 : Int) (a2 : Int) (a3 : Int) : Option (Int) :=
  (DX0_bandOf 87 σ a1).bind fun q5 => (DX5_setting 1 σ (1 : Int)).bind fun q15 => (DX5_first 1 σ a1).bind fun q25 => (DX8_stripOfDay σ q25 q15).bind fun q30 => (DX5_first 1 σ a1).bind fun q42 => gRr q42 ((q30 + a2) * q15) ((DX5_last 1 σ a1).bind fun q60 => gRr q60 ((((q30 + a2) * q15) + q15) - (1 : Int)) (gIf (a3 = (0 : Int)) a3 (0 : Int) ((DX6_numberAt 96 σ q5 (q30 + a2)).bind fun q116 => some q116) (gIf (a3 = (1 : Int)) a3 (1 : Int) (some ((max q42 ((q30 + a2) * q15)) - ((q30 + a2) * q15))) (gIf (a3 = (2 : Int)) a3 (2 : Int) (some (((min q60 ((((q30 + a2) * q15) + q15) - (1 : Int))) - (max q42 ((q30 + a2) * q15))) + (1 : Int))) (gIf (a3 = (3 : Int)) a3 (3 : Int) (gIf (a2 = (0 : Int)) a2 (0 : Int) (some (-1 : Int)) ((DX6_numberAt 96 σ q5 ((q30 + a2) - (1 : Int))).bind fun q155 => some q155)) ((DX8_partsOf σ a1).bind fun q162 => gIf (a2 = (q162 - (1 : Int))) a2 (q162 - (1 : Int)) (some (-1 : Int)) ((DX6_numberAt 96 σ q5 ((q30 + a2) + (1 : Int))).bind fun q184 => some q184)))))))
set_option maxHeartbeats 4000000 in
set_option maxRecDepth 100000 in
theorem metX8_numberOfPart (l : Launch) (D : va_G) (G : gAd) (σ : gSt) (μ : gLg) (a1 : Int) (a2 : Int) (a3 : Int) (r : Int) (h : DX8_numberOfPart σ a1 a2 a3 = some r) : Met l yX8_numberOfPart (gWs yX8_numberOfPart cX8_numberOfPart 9 (some (Jvm.ClassFile.FieldType.int))) ({ frames := 3, cells := 0, slots := 0, locals := 64 } : Room) (gPc D G [.ref (G.1 0), .int (gI a1), .int (gI a2), .int (gI a3)] σ μ) (gQi D G r σ μ) 0 0 (gA G) := by
  refine Met.ofW (cc := cX8_numberOfPart) (maxL := 9) (ret := (some (Jvm.ClassFile.FieldType.int))) (by decide) rfl ?_
  intro p e s m args below meth c s₁ B hml hv
  obtain ⟨rfl, hP, hX⟩ := hv
  have hx := B.exec
  have hb0 := B.bytes
  have hr := B.returns
  have hts0 := atoms_spec (ws := (gWs yX8_numberOfPart cX8_numberOfPart 9 (some (Jvm.ClassFile.FieldType.int)))) B.pre
  have hts : ∀ w ∈ gLW, w.before _ s = true := fun w hw => hts0 w (List.mem_cons_of_mem _ hw)
  have hown : s.vm.findClass RX8 = some m.cls := findClass_of_methodNamed B.named
  have hlocks := B.notSynchronized
  have hH : gH D G s s.heap [] σ μ := ⟨hP, va_S.rf⟩
  have hl := lv_entry ([.ref (G.1 0), .int (gI a1), .int (gI a2), .int (gI a3)]) (n := 9) (Nat.le_of_ble_eq_true rfl)
  rw [lg_entry_eq]
  generalize (lg_sl ([.ref (G.1 0), .int (gI a1), .int (gI a2), .int (gI a3)]) ++ List.replicate (9 - (lg_sl ([.ref (G.1 0), .int (gI a1), .int (gI a2), .int (gI a3)])).length) Slot.unset).toArray = ls at hl ⊢
  have hl : lv_has ls 9 [(0, .ref (G.1 0)), (1, .int (gI a1)), (2, .int (gI a2)), (3, .int (gI a3))] := hl
  unfold DX8_numberOfPart at h
  refine lv_aload_n hx hb0 dX8_numberOfPart_0 rfl (lv_at hl 0 rfl) ?_
  refine g_getR hx hb0 hts q_ws_X8 hown hX hH (C := RX8) (T := TX8) (N := 10) (k := 0) (i := 5) (j := 87) (rfl : gKinds[0]? = _) rfl (by decide) (hts _ q_fl_X8_43) rfl rfl dX8_numberOfPart_1 ?_
  refine lv_iload_n hx hb0 dX8_numberOfPart_4 rfl (lv_at hl 1 rfl) ?_
  obtain ⟨q5, e5, h⟩ := gBind_some h
  refine g_callVi (k := 87) (T := TX0) (N := 8) (As := [.int (gI a1)]) (rest := []) ⟨hx, hb0, hml, hown, hts⟩ (metX0_bandOf l D G 87 gBands_87 σ μ a1 q5 e5) (g_cwV (C := RX0) 1 hts q_ml_X8_325 q_im_X0_bandOf q_se_X0_bandOf q_in_X0 q_co_X0_bandOf ⟨rfl, rfl⟩ (by decide +kernel) ⟨Nat.le_of_ble_eq_true rfl, Nat.le_of_ble_eq_true rfl⟩) hX hH gBands_87.k rfl rfl hl.1 rfl (Nat.le_of_ble_eq_true rfl) dX8_numberOfPart_5 ⟨Nat.zero_le _, Nat.zero_le _⟩ (fun H locs hH => ?_)
  refine lv_istore (lv' := [(4, .int (gI q5)), (0, .ref (G.1 0)), (1, .int (gI a1)), (2, .int (gI a2)), (3, .int (gI a3))]) hx hb0 dX8_numberOfPart_8 hl (by decide) rfl (fun ls hl => ?_)
  refine lv_aload_n hx hb0 dX8_numberOfPart_10 rfl (lv_at hl 1 rfl) ?_
  refine g_getR hx hb0 hts q_ws_X8 hown hX hH (C := RX8) (T := TX8) (N := 10) (k := 0) (i := 0) (j := 1) (rfl : gKinds[0]? = _) rfl (by decide) (hts _ q_fl_X8_12) rfl rfl dX8_numberOfPart_11 ?_
  refine lv_iconst (v := gI (1 : Int)) hx hb0 dX8_numberOfPart_14 (by decide) ?_
  obtain ⟨q15, e15, h⟩ := gBind_some h
  refine g_callVi (k := 1) (T := TX5) (N := 8) (As := [.int (gI (1 : Int))]) (rest := []) ⟨hx, hb0, hml, hown, hts⟩ (metX5_setting l D G 1 gPlan_1 σ μ (1 : Int) q15 e15) (g_cwV (C := RX5) 1 hts q_ml_X8_82 q_im_X5_setting q_se_X5_setting q_in_X5 q_co_X5_setting ⟨rfl, rfl⟩ (by decide +kernel) ⟨Nat.le_of_ble_eq_true rfl, Nat.le_of_ble_eq_true rfl⟩) hX hH gPlan_1.k rfl rfl hl.1 rfl (Nat.le_of_ble_eq_true rfl) dX8_numberOfPart_15 ⟨Nat.zero_le _, Nat.zero_le _⟩ (fun H locs hH => ?_)
  refine lv_istore (lv' := [(5, .int (gI q15)), (4, .int (gI q5)), (0, .ref (G.1 0)), (1, .int (gI a1)), (2, .int (gI a2)), (3, .int (gI a3))]) hx hb0 dX8_numberOfPart_18 hl (by decide) rfl (fun ls hl => ?_)
  refine lv_aload_n hx hb0 dX8_numberOfPart_20 rfl (lv_at hl 2 rfl) ?_
  refine g_getR hx hb0 hts q_ws_X8 hown hX hH (C := RX8) (T := TX8) (N := 10) (k := 0) (i := 0) (j := 1) (rfl : gKinds[0]? = _) rfl (by decide) (hts _ q_fl_X8_12) rfl rfl dX8_numberOfPart_21 ?_
  refine lv_iload_n hx hb0 dX8_numberOfPart_24 rfl (lv_at hl 3 rfl) ?_
  obtain ⟨q25, e25, h⟩ := gBind_some h
  refine g_callVi (k := 1) (T := TX5) (N := 8) (As := [.int (gI a1)]) (rest := []) ⟨hx, hb0, hml, hown, hts⟩ (metX5_first l D G 1 gPlan_1 σ μ a1 q25 e25) (g_cwV (C := RX5) 1 hts q_ml_X8_122 q_im_X5_first q_se_X5_first q_in_X5 q_co_X5_first ⟨rfl, rfl⟩ (by decide +kernel) ⟨Nat.le_of_ble_eq_true rfl, Nat.le_of_ble_eq_true rfl⟩) hX hH gPlan_1.k rfl rfl hl.1 rfl (Nat.le_of_ble_eq_true rfl) dX8_numberOfPart_25 ⟨Nat.zero_le _, Nat.zero_le _⟩ (fun H locs hH => ?_)
  refine lv_iload hx hb0 dX8_numberOfPart_28 (lv_at hl 0 rfl) ?_
  obtain ⟨q30, e30, h⟩ := gBind_some h
  refine g_callSi (As := [.int (gI q25), .int (gI q15)]) (rest := []) ⟨hx, hb0, hml, hown, hts⟩ (metX8_stripOfDay l D G σ μ q25 q15 q30 e30) (g_cwS 2 hts q_ml_X8_322 q_st_X8_stripOfDay q_in_X8 q_co_X8_stripOfDay ⟨rfl, rfl⟩ (by decide +kernel) ⟨Nat.le_of_ble_eq_true rfl, Nat.le_of_ble_eq_true rfl⟩) hX hH rfl hl.1 rfl (Nat.le_of_ble_eq_true rfl) dX8_numberOfPart_30 ⟨Nat.zero_le _, Nat.zero_le _⟩ (fun H locs hH => ?_)
  refine lv_iload_n hx hb0 dX8_numberOfPart_33 rfl (lv_at hl 4 rfl) ?_
  refine g_iadd hx hb0 dX8_numberOfPart_34 ?_
  refine lv_istore (lv' := [(6, .int (gI (q30 + a2))), (5, .int (gI q15)), (4, .int (gI q5)), (0, .ref (G.1 0)), (1, .int (gI a1)), (2, .int (gI a2)), (3, .int (gI a3))]) hx hb0 dX8_numberOfPart_35 hl (by decide) rfl (fun ls hl => ?_)
  refine lv_aload_n hx hb0 dX8_numberOfPart_37 rfl (lv_at hl 3 rfl) ?_
  refine g_getR hx hb0 hts q_ws_X8 hown hX hH (C := RX8) (T := TX8) (N := 10) (k := 0) (i := 0) (j := 1) (rfl : gKinds[0]? = _) rfl (by decide) (hts _ q_fl_X8_12) rfl rfl dX8_numberOfPart_38 ?_
  refine lv_iload_n hx hb0 dX8_numberOfPart_41 rfl (lv_at hl 4 rfl) ?_
  obtain ⟨q42, e42, h⟩ := gBind_some h
  refine g_callVi (k := 1) (T := TX5) (N := 8) (As := [.int (gI a1)]) (rest := []) ⟨hx, hb0, hml, hown, hts⟩ (metX5_first l D G 1 gPlan_1 σ μ a1 q42 e42) (g_cwV (C := RX5) 1 hts q_ml_X8_122 q_im_X5_first q_se_X5_first q_in_X5 q_co_X5_first ⟨rfl, rfl⟩ (by decide +kernel) ⟨Nat.le_of_ble_eq_true rfl, Nat.le_of_ble_eq_true rfl⟩) hX hH gPlan_1.k rfl rfl hl.1 rfl (Nat.le_of_ble_eq_true rfl) dX8_numberOfPart_42 ⟨Nat.zero_le _, Nat.zero_le _⟩ (fun H locs hH => ?_)
  refine lv_iload hx hb0 dX8_numberOfPart_45 (lv_at hl 0 rfl) ?_
  refine lv_iload hx hb0 dX8_numberOfPart_47 (lv_at hl 1 rfl) ?_
  refine g_imul hx hb0 dX8_numberOfPart_49 ?_
  refine g_mmax hx hb0 (hml.trans hl.1.symm) hts hown q_ml_X8_243 ⟨⟨Nat.le_of_ble_eq_true rfl, Nat.le_of_ble_eq_true rfl⟩, Nat.le_of_ble_eq_true rfl, Nat.le_of_ble_eq_true rfl⟩ dX8_numberOfPart_50 h (fun h => ?_)
  refine lv_istore (lv' := [(7, .int (gI (max q42 ((q30 + a2) * q15)))), (6, .int (gI (q30 + a2))), (5, .int (gI q15)), (4, .int (gI q5)), (0, .ref (G.1 0)), (1, .int (gI a1)), (2, .int (gI a2)), (3, .int (gI a3))]) hx hb0 dX8_numberOfPart_53 hl (by decide) rfl (fun ls hl => ?_)
  refine lv_aload_n hx hb0 dX8_numberOfPart_55 rfl (lv_at hl 4 rfl) ?_
  refine g_getR hx hb0 hts q_ws_X8 hown hX hH (C := RX8) (T := TX8) (N := 10) (k := 0) (i := 0) (j := 1) (rfl : gKinds[0]? = _) rfl (by decide) (hts _ q_fl_X8_12) rfl rfl dX8_numberOfPart_56 ?_
  refine lv_iload_n hx hb0 dX8_numberOfPart_59 rfl (lv_at hl 5 rfl) ?_
  obtain ⟨q60, e60, h⟩ := gBind_some h
  refine g_callVi (k := 1) (T := TX5) (N := 8) (As := [.int (gI a1)]) (rest := []) ⟨hx, hb0, hml, hown, hts⟩ (metX5_last l D G 1 gPlan_1 σ μ a1 q60 e60) (g_cwV (C := RX5) 1 hts q_ml_X8_240 q_im_X5_last q_se_X5_last q_in_X5 q_co_X5_last ⟨rfl, rfl⟩ (by decide +kernel) ⟨Nat.le_of_ble_eq_true rfl, Nat.le_of_ble_eq_true rfl⟩) hX hH gPlan_1.k rfl rfl hl.1 rfl (Nat.le_of_ble_eq_true rfl) dX8_numberOfPart_60 ⟨Nat.zero_le _, Nat.zero_le _⟩ (fun H locs hH => ?_)
  refine lv_iload hx hb0 dX8_numberOfPart_63 (lv_at hl 1 rfl) ?_
  refine lv_iload hx hb0 dX8_numberOfPart_65 (lv_at hl 2 rfl) ?_
  refine g_imul hx hb0 dX8_numberOfPart_67 ?_
  refine lv_iload hx hb0 dX8_numberOfPart_68 (lv_at hl 2 rfl) ?_
  refine g_iadd hx hb0 dX8_numberOfPart_70 ?_
  refine lv_iconst (v := gI (1 : Int)) hx hb0 dX8_numberOfPart_71 (by decide) ?_
  refine g_isub hx hb0 dX8_numberOfPart_72 ?_
  refine g_mmin hx hb0 (hml.trans hl.1.symm) hts hown q_ml_X8_343 ⟨⟨Nat.le_of_ble_eq_true rfl, Nat.le_of_ble_eq_true rfl⟩, Nat.le_of_ble_eq_true rfl, Nat.le_of_ble_eq_true rfl⟩ dX8_numberOfPart_73 h (fun h => ?_)
  refine lv_istore (lv' := [(8, .int (gI (min q60 ((((q30 + a2) * q15) + q15) - (1 : Int))))), (7, .int (gI (max q42 ((q30 + a2) * q15)))), (6, .int (gI (q30 + a2))), (5, .int (gI q15)), (4, .int (gI q5)), (0, .ref (G.1 0)), (1, .int (gI a1)), (2, .int (gI a2)), (3, .int (gI a3))]) hx hb0 dX8_numberOfPart_76 hl (by decide) rfl (fun ls hl => ?_)
  refine lv_iload_n hx hb0 dX8_numberOfPart_78 rfl (lv_at hl 8 rfl) ?_
  obtain ⟨hgr, -, h⟩ := gIf_some h
  rcases h with ⟨hc0, h⟩ | ⟨hc0, h⟩
  · refine g_tabIn (i := (0 : Int)) (tgt := 108) hx hb0 dX8_numberOfPart_79 hc0 (by decide) (by decide) (by decide) rfl (by decide) ?_
    refine lv_aload_n hx hb0 dX8_numberOfPart_108 rfl (lv_at hl 5 rfl) ?_
    refine g_getR hx hb0 hts q_ws_X8 hown hX hH (C := RX8) (T := TX8) (N := 10) (k := 0) (i := 6) (j := 96) (rfl : gKinds[0]? = _) rfl (by decide) (hts _ q_fl_X8_50) rfl rfl dX8_numberOfPart_109 ?_
    refine lv_iload hx hb0 dX8_numberOfPart_112 (lv_at hl 4 rfl) ?_
    refine lv_iload hx hb0 dX8_numberOfPart_114 (lv_at hl 2 rfl) ?_
    obtain ⟨q116, e116, h⟩ := gBind_some h
    refine g_callVi (k := 96) (T := TX6) (N := 5) (As := [.int (gI q5), .int (gI (q30 + a2))]) (rest := []) ⟨hx, hb0, hml, hown, hts⟩ (metX6_numberAt l D G 96 gSheets_96 σ μ q5 (q30 + a2) q116 e116) (g_cwV (C := RX6) 2 hts q_ml_X8_180 q_im_X6_numberAt q_se_X6_numberAt q_in_X6 q_co_X6_numberAt ⟨rfl, rfl⟩ (by decide +kernel) ⟨Nat.le_of_ble_eq_true rfl, Nat.le_of_ble_eq_true rfl⟩) hX hH gSheets_96.k rfl rfl hl.1 rfl (Nat.le_of_ble_eq_true rfl) dX8_numberOfPart_116 ⟨Nat.zero_le _, Nat.zero_le _⟩ (fun H locs hH => ?_)
    exact g_iretP hx hb0 hr hH hlocks dX8_numberOfPart_119 h
  · obtain ⟨hgr, -, h⟩ := gIf_some h
    rcases h with ⟨hc1, h⟩ | ⟨hc1, h⟩
    · refine g_tabIn (i := (1 : Int)) (tgt := 120) hx hb0 dX8_numberOfPart_79 hc1 (by decide) (by decide) (by decide) rfl (by decide) ?_
      refine lv_iload hx hb0 dX8_numberOfPart_120 (lv_at hl 1 rfl) ?_
      refine lv_iload hx hb0 dX8_numberOfPart_122 (lv_at hl 2 rfl) ?_
      refine lv_iload hx hb0 dX8_numberOfPart_124 (lv_at hl 3 rfl) ?_
      refine g_imul hx hb0 dX8_numberOfPart_126 ?_
      refine g_isub hx hb0 dX8_numberOfPart_127 ?_
      exact g_iretP hx hb0 hr hH hlocks dX8_numberOfPart_128 h
    · obtain ⟨hgr, -, h⟩ := gIf_some h
      rcases h with ⟨hc2, h⟩ | ⟨hc2, h⟩
      · refine g_tabIn (i := (2 : Int)) (tgt := 129) hx hb0 dX8_numberOfPart_79 hc2 (by decide) (by decide) (by decide) rfl (by decide) ?_
        refine lv_iload hx hb0 dX8_numberOfPart_129 (lv_at hl 0 rfl) ?_
        refine lv_iload hx hb0 dX8_numberOfPart_131 (lv_at hl 1 rfl) ?_
        refine g_isub hx hb0 dX8_numberOfPart_133 ?_
        refine lv_iconst (v := gI (1 : Int)) hx hb0 dX8_numberOfPart_134 (by decide) ?_
        refine g_iadd hx hb0 dX8_numberOfPart_135 ?_
        exact g_iretP hx hb0 hr hH hlocks dX8_numberOfPart_136 h
      · obtain ⟨hgr, -, h⟩ := gIf_some h
        rcases h with ⟨hc3, h⟩ | ⟨hc3, h⟩
        · refine g_tabIn (i := (3 : Int)) (tgt := 137) hx hb0 dX8_numberOfPart_79 hc3 (by decide) (by decide) (by decide) rfl (by decide) ?_
          refine lv_iload_n hx hb0 dX8_numberOfPart_137 rfl (lv_at hl 7 rfl) ?_
          refine g_if_ne (tgt := 145) hx hb0 dX8_numberOfPart_138 (by decide) h (fun h => ?_) (fun h => ?_)
          · refine lv_aload_n hx hb0 dX8_numberOfPart_145 rfl (lv_at hl 5 rfl) ?_
            refine g_getR hx hb0 hts q_ws_X8 hown hX hH (C := RX8) (T := TX8) (N := 10) (k := 0) (i := 6) (j := 96) (rfl : gKinds[0]? = _) rfl (by decide) (hts _ q_fl_X8_50) rfl rfl dX8_numberOfPart_146 ?_
            refine lv_iload hx hb0 dX8_numberOfPart_149 (lv_at hl 4 rfl) ?_
            refine lv_iload hx hb0 dX8_numberOfPart_151 (lv_at hl 2 rfl) ?_
            refine lv_iconst (v := gI (1 : Int)) hx hb0 dX8_numberOfPart_153 (by decide) ?_
            refine g_isub hx hb0 dX8_numberOfPart_154 ?_
            obtain ⟨q155, e155, h⟩ := gBind_some h
            refine g_callVi (k := 96) (T := TX6) (N := 5) (As := [.int (gI q5), .int (gI ((q30 + a2) - (1 : Int)))]) (rest := []) ⟨hx, hb0, hml, hown, hts⟩ (metX6_numberAt l D G 96 gSheets_96 σ μ q5 ((q30 + a2) - (1 : Int)) q155 e155) (g_cwV (C := RX6) 2 hts q_ml_X8_180 q_im_X6_numberAt q_se_X6_numberAt q_in_X6 q_co_X6_numberAt ⟨rfl, rfl⟩ (by decide +kernel) ⟨Nat.le_of_ble_eq_true rfl, Nat.le_of_ble_eq_true rfl⟩) hX hH gSheets_96.k rfl rfl hl.1 rfl (Nat.le_of_ble_eq_true rfl) dX8_numberOfPart_155 ⟨Nat.zero_le _, Nat.zero_le _⟩ (fun H locs hH => ?_)
            exact g_iretP hx hb0 hr hH hlocks dX8_numberOfPart_158 h
          · refine lv_iconst (v := gI (-1 : Int)) hx hb0 dX8_numberOfPart_141 (by decide) ?_
            refine lv_goto (tgt := 158) hx hb0 dX8_numberOfPart_142 (by decide) ?_
            exact g_iretP hx hb0 hr hH hlocks dX8_numberOfPart_158 h
        · refine g_tabOut (tgt := 159) hx hb0 dX8_numberOfPart_79 hgr (by omega) (by decide) ?_
          refine lv_iload_n hx hb0 dX8_numberOfPart_159 rfl (lv_at hl 7 rfl) ?_
          refine lv_aload_n hx hb0 dX8_numberOfPart_160 rfl (lv_at hl 5 rfl) ?_
          refine lv_iload_n hx hb0 dX8_numberOfPart_161 rfl (lv_at hl 6 rfl) ?_
          obtain ⟨q162, e162, h⟩ := gBind_some h
          refine g_callVi (k := 0) (T := TX8) (N := 10) (As := [.int (gI a1)]) (rest := [.int (gI a2)]) ⟨hx, hb0, hml, hown, hts⟩ (metX8_partsOf l D G σ μ a1 q162 e162) (g_cwV (C := RX8) 1 hts q_ml_X8_183 q_im_X8_partsOf q_se_X8_partsOf q_in_X8 q_co_X8_partsOf ⟨rfl, rfl⟩ (by decide +kernel) ⟨Nat.le_of_ble_eq_true rfl, Nat.le_of_ble_eq_true rfl⟩) hX hH (rfl : gKinds[0]? = _) rfl rfl hl.1 rfl (Nat.le_of_ble_eq_true rfl) dX8_numberOfPart_162 ⟨Nat.zero_le _, Nat.zero_le _⟩ (fun H locs hH => ?_)
          refine lv_iconst (v := gI (1 : Int)) hx hb0 dX8_numberOfPart_165 (by decide) ?_
          refine g_isub hx hb0 dX8_numberOfPart_166 ?_
          refine g_icmp_ne (tgt := 174) hx hb0 dX8_numberOfPart_167 (by decide) h (fun h => ?_) (fun h => ?_)
          · refine lv_aload_n hx hb0 dX8_numberOfPart_174 rfl (lv_at hl 5 rfl) ?_
            refine g_getR hx hb0 hts q_ws_X8 hown hX hH (C := RX8) (T := TX8) (N := 10) (k := 0) (i := 6) (j := 96) (rfl : gKinds[0]? = _) rfl (by decide) (hts _ q_fl_X8_50) rfl rfl dX8_numberOfPart_175 ?_
            refine lv_iload hx hb0 dX8_numberOfPart_178 (lv_at hl 4 rfl) ?_
            refine lv_iload hx hb0 dX8_numberOfPart_180 (lv_at hl 2 rfl) ?_
            refine lv_iconst (v := gI (1 : Int)) hx hb0 dX8_numberOfPart_182 (by decide) ?_
            refine g_iadd hx hb0 dX8_numberOfPart_183 ?_
            obtain ⟨q184, e184, h⟩ := gBind_some h
            refine g_callVi (k := 96) (T := TX6) (N := 5) (As := [.int (gI q5), .int (gI ((q30 + a2) + (1 : Int)))]) (rest := []) ⟨hx, hb0, hml, hown, hts⟩ (metX6_numberAt l D G 96 gSheets_96 σ μ q5 ((q30 + a2) + (1 : Int)) q184 e184) (g_cwV (C := RX6) 2 hts q_ml_X8_180 q_im_X6_numberAt q_se_X6_numberAt q_in_X6 q_co_X6_numberAt ⟨rfl, rfl⟩ (by decide +kernel) ⟨Nat.le_of_ble_eq_true rfl, Nat.le_of_ble_eq_true rfl⟩) hX hH gSheets_96.k rfl rfl hl.1 rfl (Nat.le_of_ble_eq_true rfl) dX8_numberOfPart_184 ⟨Nat.zero_le _, Nat.zero_le _⟩ (fun H locs hH => ?_)
            exact g_iretP hx hb0 hr hH hlocks dX8_numberOfPart_187 h
          · refine lv_iconst (v := gI (-1 : Int)) hx hb0 dX8_numberOfPart_170 (by decide) ?_
            refine lv_goto (tgt := 187) hx hb0 dX8_numberOfPart_171 (by decide) ?_
            exact g_iretP hx hb0 hr hH hlocks dX8_numberOfPart_187 h
def DX8_part_J18  : Option (Nat ⊕ Int) :=
  some (.inl 3)
def DX8_part_J37  : Option (Nat ⊕ Int) :=
  some (.inl 1)
def DX8_part (σ : gSt) (a1 : Int) (a2 : Int) (a3 : Int) : Option (Nat ⊕ Int) :=
  gXb (DX8_requireTask σ a1) fun _ => gIf (a2 < (0 : Int)) a2 (0 : Int) ((DX8_part_J18)) ((DX8_partsOf σ a1).bind fun q12 => gIf (a2 < q12) a2 q12 (gIf (a3 < (0 : Int)) a3 (0 : Int) ((DX8_part_J37)) (gIf (a3 < (5 : Int)) a3 (5 : Int) ((DX8_numberOfPart σ a1 a2 a3).bind fun q51 => some (.inr q51)) ((DX8_part_J37)))) ((DX8_part_J18)))
set_option maxHeartbeats 4000000 in
set_option maxRecDepth 100000 in
theorem metX8_part (l : Launch) (hlt : l.stackTraces = false) (D : va_G) (G : gAd) (σ : gSt) (μ : gLg) (a1 : Int) (a2 : Int) (a3 : Int) (r : Nat ⊕ Int) (h : DX8_part σ a1 a2 a3 = some r) : vx_Met l yX8_part (gWs yX8_part cX8_part 4 (some (Jvm.ClassFile.FieldType.int))) ({ frames := 7, cells := 2, slots := 12, locals := 103 } : Room) (gPc D G [.ref (G.1 0), .int (gI a1), .int (gI a2), .int (gI a3)] σ μ) (gXp D G r σ μ) (gXC D G r σ μ) 2 12 (gA G) := by
  refine vx_ofW (cc := cX8_part) (maxL := 4) (ret := (some (Jvm.ClassFile.FieldType.int))) (by decide) rfl ?_
  intro p e s m args below meth c s₁ B hml hxt hv
  obtain ⟨rfl, hP, hX⟩ := hv
  have hx := B.exec
  have hb0 := B.bytes
  have hr := B.returns
  have hts0 := atoms_spec (ws := (gWs yX8_part cX8_part 4 (some (Jvm.ClassFile.FieldType.int)))) B.pre
  have hts : ∀ w ∈ gLW, w.before _ s = true := fun w hw => hts0 w (List.mem_cons_of_mem _ hw)
  have hown : s.vm.findClass RX8 = some m.cls := findClass_of_methodNamed B.named
  have hlocks := B.notSynchronized
  have hH : gH D G s s.heap [] σ μ := ⟨hP, va_S.rf⟩
  have hl := lv_entry ([.ref (G.1 0), .int (gI a1), .int (gI a2), .int (gI a3)]) (n := 4) (Nat.le_of_ble_eq_true rfl)
  rw [lg_entry_eq]
  generalize (lg_sl ([.ref (G.1 0), .int (gI a1), .int (gI a2), .int (gI a3)]) ++ List.replicate (4 - (lg_sl ([.ref (G.1 0), .int (gI a1), .int (gI a2), .int (gI a3)])).length) Slot.unset).toArray = ls at hl ⊢
  have hl : lv_has ls 4 [(0, .ref (G.1 0)), (1, .int (gI a1)), (2, .int (gI a2)), (3, .int (gI a3))] := hl
  unfold DX8_part at h
  refine lv_aload_n hx hb0 dX8_part_0 rfl (lv_at hl 0 rfl) ?_
  refine lv_iload_n hx hb0 dX8_part_1 rfl (lv_at hl 1 rfl) ?_
  obtain ⟨q2, e2, h⟩ := gXb_some h
  refine g_xcallVv (k := 0) (T := TX8) (N := 10) (As := [.int (gI a1)]) (rest := []) (x := q2) ⟨hx, hb0, hml, hown, hts⟩ (metX8_requireTask l hlt D G σ μ a1 q2 e2) (g_cwX (C := RX8) 1 hts q_ml_X8_116 q_im_X8_requireTask q_se_X8_requireTask q_in_X8 q_co_X8_requireTask ⟨rfl, rfl⟩ (by decide +kernel) ⟨Nat.le_of_ble_eq_true rfl, Nat.le_of_ble_eq_true rfl⟩) hX hH (rfl : gKinds[0]? = _) rfl rfl hl.1 rfl (Nat.le_of_ble_eq_true rfl) dX8_part_2 ⟨Nat.le_of_ble_eq_true rfl, Nat.le_of_ble_eq_true rfl⟩ (fun k9 E9 ce9 q9 H locs hk9 hE9 hH h1 h2 h3 => ?_) (fun hk9 H locs hH => ?_)
  · rcases h with ⟨k8, h8, h⟩ | ⟨a8, h8, h⟩
    · rw [h8] at hk9
      cases hk9
      exact g_xout hxt hlocks hE9 hH h1 h2 h3 (Nat.le_of_ble_eq_true rfl) (Nat.le_of_ble_eq_true rfl) h
    · rw [h8] at hk9
      cases hk9
  · rcases h with ⟨k8, h8, h⟩ | ⟨a8, h8, h⟩
    · rw [h8] at hk9
      cases hk9
    · refine lv_iload_n hx hb0 dX8_part_5 rfl (lv_at hl 2 rfl) ?_
      have hJ18 : ∀  (H : Heap) (locs : List Loc) (ls : Array Slot), gH D G s H locs σ μ → lv_has ls 4 [] → (DX8_part_J18) = some r → W p l e (headSpec (gWs yX8_part cX8_part 4 (some (Jvm.ClassFile.FieldType.int))) ({ frames := 7, cells := 2, slots := 12, locals := 103 } : Room)).room s m ([.ref (G.1 0), .int (gI a1), .int (gI a2), .int (gI a3)] : List Value).toArray below meth c H locs 1 6 (vx_MQ below (gXp D G r σ μ) (gXC D G r σ μ) ([.ref (G.1 0), .int (gI a1), .int (gI a2), .int (gI a3)] : List Value).toArray s 2 12 (gA G)) (F0 m 18 ls []) := by
        intro H locs ls hH hl h
        unfold DX8_part_J18 at h
        exact g_throwS (text := "no such part") (k := 3) hx hb0 hlt hown hts hX hH rfl q_cl_X8_186 q_in_java_lang_IndexOutOfBoundsException g_bad3 g_ok3 g_ot3 (by decide +kernel) (by decide +kernel) (hl.1.trans hml.symm) dX8_part_18 dX8_part_21 dX8_part_22 dX8_part_24 dX8_part_27 hxt ⟨⟨Nat.le_of_ble_eq_true rfl, Nat.le_of_ble_eq_true rfl⟩, Nat.le_of_ble_eq_true rfl, Nat.le_of_ble_eq_true rfl⟩ hlocks ⟨Nat.le_of_ble_eq_true rfl, Nat.le_of_ble_eq_true rfl⟩ h
      refine g_if_lt (tgt := 18) hx hb0 dX8_part_6 (by decide) h (fun h => ?_) (fun h => ?_)
      · exact hJ18  _ _ _ hH (lv_sub hl [] rfl) h
      · refine lv_iload_n hx hb0 dX8_part_9 rfl (lv_at hl 2 rfl) ?_
        refine lv_aload_n hx hb0 dX8_part_10 rfl (lv_at hl 0 rfl) ?_
        refine lv_iload_n hx hb0 dX8_part_11 rfl (lv_at hl 1 rfl) ?_
        obtain ⟨q12, e12, h⟩ := gBind_some h
        refine g_callVi (k := 0) (T := TX8) (N := 10) (As := [.int (gI a1)]) (rest := [.int (gI a2)]) ⟨hx, hb0, hml, hown, hts⟩ (metX8_partsOf l D G σ μ a1 q12 e12) (g_cwV (C := RX8) 1 hts q_ml_X8_183 q_im_X8_partsOf q_se_X8_partsOf q_in_X8 q_co_X8_partsOf ⟨rfl, rfl⟩ (by decide +kernel) ⟨Nat.le_of_ble_eq_true rfl, Nat.le_of_ble_eq_true rfl⟩) hX hH (rfl : gKinds[0]? = _) rfl rfl hl.1 rfl (Nat.le_of_ble_eq_true rfl) dX8_part_12 ⟨Nat.le_of_ble_eq_true rfl, Nat.le_of_ble_eq_true rfl⟩ (fun H locs hH => ?_)
        refine g_icmp_lt (tgt := 28) hx hb0 dX8_part_15 (by decide) h (fun h => ?_) (fun h => ?_)
        · refine lv_iload_n hx hb0 dX8_part_28 rfl (lv_at hl 3 rfl) ?_
          have hJ37 : ∀  (H : Heap) (locs : List Loc) (ls : Array Slot), gH D G s H locs σ μ → lv_has ls 4 [] → (DX8_part_J37) = some r → W p l e (headSpec (gWs yX8_part cX8_part 4 (some (Jvm.ClassFile.FieldType.int))) ({ frames := 7, cells := 2, slots := 12, locals := 103 } : Room)).room s m ([.ref (G.1 0), .int (gI a1), .int (gI a2), .int (gI a3)] : List Value).toArray below meth c H locs 1 6 (vx_MQ below (gXp D G r σ μ) (gXC D G r σ μ) ([.ref (G.1 0), .int (gI a1), .int (gI a2), .int (gI a3)] : List Value).toArray s 2 12 (gA G)) (F0 m 37 ls []) := by
            intro H locs ls hH hl h
            unfold DX8_part_J37 at h
            exact g_throwS (text := "no such thing about a part") (k := 1) hx hb0 hlt hown hts hX hH rfl q_cl_X8_71 q_in_java_lang_IllegalArgumentException g_bad1 g_ok1 g_ot1 (by decide +kernel) (by decide +kernel) (hl.1.trans hml.symm) dX8_part_37 dX8_part_40 dX8_part_41 dX8_part_43 dX8_part_46 hxt ⟨⟨Nat.le_of_ble_eq_true rfl, Nat.le_of_ble_eq_true rfl⟩, Nat.le_of_ble_eq_true rfl, Nat.le_of_ble_eq_true rfl⟩ hlocks ⟨Nat.le_of_ble_eq_true rfl, Nat.le_of_ble_eq_true rfl⟩ h
          refine g_if_lt (tgt := 37) hx hb0 dX8_part_29 (by decide) h (fun h => ?_) (fun h => ?_)
          · exact hJ37  _ _ _ hH (lv_sub hl [] rfl) h
          · refine lv_iload_n hx hb0 dX8_part_32 rfl (lv_at hl 3 rfl) ?_
            refine lv_iconst (v := gI (5 : Int)) hx hb0 dX8_part_33 (by decide) ?_
            refine g_icmp_lt (tgt := 47) hx hb0 dX8_part_34 (by decide) h (fun h => ?_) (fun h => ?_)
            · refine lv_aload_n hx hb0 dX8_part_47 rfl (lv_at hl 0 rfl) ?_
              refine lv_iload_n hx hb0 dX8_part_48 rfl (lv_at hl 1 rfl) ?_
              refine lv_iload_n hx hb0 dX8_part_49 rfl (lv_at hl 2 rfl) ?_
              refine lv_iload_n hx hb0 dX8_part_50 rfl (lv_at hl 3 rfl) ?_
              obtain ⟨q51, e51, h⟩ := gBind_some h
              refine g_callVi (k := 0) (T := TX8) (N := 10) (As := [.int (gI a1), .int (gI a2), .int (gI a3)]) (rest := []) ⟨hx, hb0, hml, hown, hts⟩ (metX8_numberOfPart l D G σ μ a1 a2 a3 q51 e51) (g_cwV (C := RX8) 3 hts q_ml_X8_193 q_im_X8_numberOfPart q_se_X8_numberOfPart q_in_X8 q_co_X8_numberOfPart ⟨rfl, rfl⟩ (by decide +kernel) ⟨Nat.le_of_ble_eq_true rfl, Nat.le_of_ble_eq_true rfl⟩) hX hH (rfl : gKinds[0]? = _) rfl rfl hl.1 rfl (Nat.le_of_ble_eq_true rfl) dX8_part_51 ⟨Nat.le_of_ble_eq_true rfl, Nat.le_of_ble_eq_true rfl⟩ (fun H locs hH => ?_)
              exact g_xpret hx hb0 hr hH hlocks (Nat.le_of_ble_eq_true rfl) (Nat.le_of_ble_eq_true rfl) dX8_part_54 h
            · exact hJ37  _ _ _ hH (lv_sub hl [] rfl) h
        · exact hJ18  _ _ _ hH (lv_sub hl [] rfl) h
def DX2_leavesOn (b : Nat) (σ : gSt) (a1 : Int) : Option (Int) :=
  (DX4_at (b + 1) 30 σ a1).bind fun q5 => some q5
set_option maxHeartbeats 4000000 in
set_option maxRecDepth 100000 in
theorem metX2_leavesOn (l : Launch) (D : va_G) (G : gAd) (b : Nat) (hb : gExits b) (σ : gSt) (μ : gLg) (a1 : Int) (r : Int) (h : DX2_leavesOn b σ a1 = some r) : Met l yX2_leavesOn (gWs yX2_leavesOn cX2_leavesOn 2 (some (Jvm.ClassFile.FieldType.int))) ({ frames := 1, cells := 0, slots := 0, locals := 21 } : Room) (gPc D G [.ref (G.1 b), .int (gI a1)] σ μ) (gQi D G r σ μ) 0 0 (gA G) := by
  refine Met.ofW (cc := cX2_leavesOn) (maxL := 2) (ret := (some (Jvm.ClassFile.FieldType.int))) (by decide) rfl ?_
  intro p e s m args below meth c s₁ B hml hv
  obtain ⟨rfl, hP, hX⟩ := hv
  have hx := B.exec
  have hb0 := B.bytes
  have hr := B.returns
  have hts0 := atoms_spec (ws := (gWs yX2_leavesOn cX2_leavesOn 2 (some (Jvm.ClassFile.FieldType.int)))) B.pre
  have hts : ∀ w ∈ gLW, w.before _ s = true := fun w hw => hts0 w (List.mem_cons_of_mem _ hw)
  have hown : s.vm.findClass RX2 = some m.cls := findClass_of_methodNamed B.named
  have hlocks := B.notSynchronized
  have hH : gH D G s s.heap [] σ μ := ⟨hP, va_S.rf⟩
  have hl := lv_entry ([.ref (G.1 b), .int (gI a1)]) (n := 2) (Nat.le_of_ble_eq_true rfl)
  rw [lg_entry_eq]
  generalize (lg_sl ([.ref (G.1 b), .int (gI a1)]) ++ List.replicate (2 - (lg_sl ([.ref (G.1 b), .int (gI a1)])).length) Slot.unset).toArray = ls at hl ⊢
  have hl : lv_has ls 2 [(0, .ref (G.1 b)), (1, .int (gI a1))] := hl
  unfold DX2_leavesOn at h
  refine lv_aload_n hx hb0 dX2_leavesOn_0 rfl (lv_at hl 0 rfl) ?_
  refine g_getR hx hb0 hts q_ws_X2 hown hX hH (C := RX2) (T := TX2) (N := 7) (k := b) (i := 0) (j := (b + 1)) hb.k rfl (by decide) (hts _ q_fl_X2_14) rfl rfl dX2_leavesOn_1 ?_
  refine lv_iload_n hx hb0 dX2_leavesOn_4 rfl (lv_at hl 1 rfl) ?_
  obtain ⟨q5, e5, h⟩ := gBind_some h
  refine g_callVi (k := (b + 1)) (T := TX4) (N := 1) (As := [.int (gI a1)]) (rest := []) ⟨hx, hb0, hml, hown, hts⟩ (metX4_at l D G (b + 1) 30 (hb.n0) σ μ a1 q5 e5) (g_cwV (C := RX4) 1 hts q_ml_X2_39 q_im_X4_at q_se_X4_at q_in_X4 q_co_X4_at ⟨rfl, rfl⟩ (by decide +kernel) ⟨Nat.le_of_ble_eq_true rfl, Nat.le_of_ble_eq_true rfl⟩) hX hH ((hb.n0)).1 rfl rfl hl.1 rfl (Nat.le_of_ble_eq_true rfl) dX2_leavesOn_5 ⟨Nat.zero_le _, Nat.zero_le _⟩ (fun H locs hH => ?_)
  exact g_iretP hx hb0 hr hH hlocks dX2_leavesOn_8 h
def DX2_arrivesOn (b : Nat) (σ : gSt) (a1 : Int) : Option (Int) :=
  (DX4_at (b + 3) 30 σ a1).bind fun q5 => some q5
set_option maxHeartbeats 4000000 in
set_option maxRecDepth 100000 in
theorem metX2_arrivesOn (l : Launch) (D : va_G) (G : gAd) (b : Nat) (hb : gExits b) (σ : gSt) (μ : gLg) (a1 : Int) (r : Int) (h : DX2_arrivesOn b σ a1 = some r) : Met l yX2_arrivesOn (gWs yX2_arrivesOn cX2_arrivesOn 2 (some (Jvm.ClassFile.FieldType.int))) ({ frames := 1, cells := 0, slots := 0, locals := 21 } : Room) (gPc D G [.ref (G.1 b), .int (gI a1)] σ μ) (gQi D G r σ μ) 0 0 (gA G) := by
  refine Met.ofW (cc := cX2_arrivesOn) (maxL := 2) (ret := (some (Jvm.ClassFile.FieldType.int))) (by decide) rfl ?_
  intro p e s m args below meth c s₁ B hml hv
  obtain ⟨rfl, hP, hX⟩ := hv
  have hx := B.exec
  have hb0 := B.bytes
  have hr := B.returns
  have hts0 := atoms_spec (ws := (gWs yX2_arrivesOn cX2_arrivesOn 2 (some (Jvm.ClassFile.FieldType.int)))) B.pre
  have hts : ∀ w ∈ gLW, w.before _ s = true := fun w hw => hts0 w (List.mem_cons_of_mem _ hw)
  have hown : s.vm.findClass RX2 = some m.cls := findClass_of_methodNamed B.named
  have hlocks := B.notSynchronized
  have hH : gH D G s s.heap [] σ μ := ⟨hP, va_S.rf⟩
  have hl := lv_entry ([.ref (G.1 b), .int (gI a1)]) (n := 2) (Nat.le_of_ble_eq_true rfl)
  rw [lg_entry_eq]
  generalize (lg_sl ([.ref (G.1 b), .int (gI a1)]) ++ List.replicate (2 - (lg_sl ([.ref (G.1 b), .int (gI a1)])).length) Slot.unset).toArray = ls at hl ⊢
  have hl : lv_has ls 2 [(0, .ref (G.1 b)), (1, .int (gI a1))] := hl
  unfold DX2_arrivesOn at h
  refine lv_aload_n hx hb0 dX2_arrivesOn_0 rfl (lv_at hl 0 rfl) ?_
  refine g_getR hx hb0 hts q_ws_X2 hown hX hH (C := RX2) (T := TX2) (N := 7) (k := b) (i := 1) (j := (b + 3)) hb.k rfl (by decide) (hts _ q_fl_X2_20) rfl rfl dX2_arrivesOn_1 ?_
  refine lv_iload_n hx hb0 dX2_arrivesOn_4 rfl (lv_at hl 1 rfl) ?_
  obtain ⟨q5, e5, h⟩ := gBind_some h
  refine g_callVi (k := (b + 3)) (T := TX4) (N := 1) (As := [.int (gI a1)]) (rest := []) ⟨hx, hb0, hml, hown, hts⟩ (metX4_at l D G (b + 3) 30 (hb.n1) σ μ a1 q5 e5) (g_cwV (C := RX4) 1 hts q_ml_X2_39 q_im_X4_at q_se_X4_at q_in_X4 q_co_X4_at ⟨rfl, rfl⟩ (by decide +kernel) ⟨Nat.le_of_ble_eq_true rfl, Nat.le_of_ble_eq_true rfl⟩) hX hH ((hb.n1)).1 rfl rfl hl.1 rfl (Nat.le_of_ble_eq_true rfl) dX2_arrivesOn_5 ⟨Nat.zero_le _, Nat.zero_le _⟩ (fun H locs hH => ?_)
  exact g_iretP hx hb0 hr hH hlocks dX2_arrivesOn_8 h
def DX2_exitOf (b : Nat) (σ : gSt) (a1 : Int) : Option (Int) :=
  (DX4_at (b + 5) 30 σ a1).bind fun q5 => some q5
set_option maxHeartbeats 4000000 in
set_option maxRecDepth 100000 in
theorem metX2_exitOf (l : Launch) (D : va_G) (G : gAd) (b : Nat) (hb : gExits b) (σ : gSt) (μ : gLg) (a1 : Int) (r : Int) (h : DX2_exitOf b σ a1 = some r) : Met l yX2_exitOf (gWs yX2_exitOf cX2_exitOf 2 (some (Jvm.ClassFile.FieldType.int))) ({ frames := 1, cells := 0, slots := 0, locals := 21 } : Room) (gPc D G [.ref (G.1 b), .int (gI a1)] σ μ) (gQi D G r σ μ) 0 0 (gA G) := by
  refine Met.ofW (cc := cX2_exitOf) (maxL := 2) (ret := (some (Jvm.ClassFile.FieldType.int))) (by decide) rfl ?_
  intro p e s m args below meth c s₁ B hml hv
  obtain ⟨rfl, hP, hX⟩ := hv
  have hx := B.exec
  have hb0 := B.bytes
  have hr := B.returns
  have hts0 := atoms_spec (ws := (gWs yX2_exitOf cX2_exitOf 2 (some (Jvm.ClassFile.FieldType.int)))) B.pre
  have hts : ∀ w ∈ gLW, w.before _ s = true := fun w hw => hts0 w (List.mem_cons_of_mem _ hw)
  have hown : s.vm.findClass RX2 = some m.cls := findClass_of_methodNamed B.named
  have hlocks := B.notSynchronized
  have hH : gH D G s s.heap [] σ μ := ⟨hP, va_S.rf⟩
  have hl := lv_entry ([.ref (G.1 b), .int (gI a1)]) (n := 2) (Nat.le_of_ble_eq_true rfl)
  rw [lg_entry_eq]
  generalize (lg_sl ([.ref (G.1 b), .int (gI a1)]) ++ List.replicate (2 - (lg_sl ([.ref (G.1 b), .int (gI a1)])).length) Slot.unset).toArray = ls at hl ⊢
  have hl : lv_has ls 2 [(0, .ref (G.1 b)), (1, .int (gI a1))] := hl
  unfold DX2_exitOf at h
  refine lv_aload_n hx hb0 dX2_exitOf_0 rfl (lv_at hl 0 rfl) ?_
  refine g_getR hx hb0 hts q_ws_X2 hown hX hH (C := RX2) (T := TX2) (N := 7) (k := b) (i := 2) (j := (b + 5)) hb.k rfl (by decide) (hts _ q_fl_X2_23) rfl rfl dX2_exitOf_1 ?_
  refine lv_iload_n hx hb0 dX2_exitOf_4 rfl (lv_at hl 1 rfl) ?_
  obtain ⟨q5, e5, h⟩ := gBind_some h
  refine g_callVi (k := (b + 5)) (T := TX4) (N := 1) (As := [.int (gI a1)]) (rest := []) ⟨hx, hb0, hml, hown, hts⟩ (metX4_at l D G (b + 5) 30 (hb.n2) σ μ a1 q5 e5) (g_cwV (C := RX4) 1 hts q_ml_X2_39 q_im_X4_at q_se_X4_at q_in_X4 q_co_X4_at ⟨rfl, rfl⟩ (by decide +kernel) ⟨Nat.le_of_ble_eq_true rfl, Nat.le_of_ble_eq_true rfl⟩) hX hH ((hb.n2)).1 rfl rfl hl.1 rfl (Nat.le_of_ble_eq_true rfl) dX2_exitOf_5 ⟨Nat.zero_le _, Nat.zero_le _⟩ (fun H locs hH => ?_)
  exact g_iretP hx hb0 hr hH hlocks dX2_exitOf_8 h
def DX5_isLate (b : Nat) (σ : gSt) (a1 : Int) : Option (Int) :=
  (DX5_to b σ a1).bind fun q3 => (DX5_first b σ q3).bind fun q6 => (DX5_from b σ a1).bind fun q12 => (DX5_last b σ q12).bind fun q15 => gIf (q15 < q6) q6 q15 (gBo (0 : Int) (some (0 : Int))) (gBo (1 : Int) (some (1 : Int)))
set_option maxHeartbeats 4000000 in
set_option maxRecDepth 100000 in
theorem metX5_isLate (l : Launch) (D : va_G) (G : gAd) (b : Nat) (hb : gPlan b) (σ : gSt) (μ : gLg) (a1 : Int) (r : Int) (h : DX5_isLate b σ a1 = some r) : Met l yX5_isLate (gWs yX5_isLate cX5_isLate 2 (some (Jvm.ClassFile.FieldType.boolean))) ({ frames := 2, cells := 0, slots := 0, locals := 42 } : Room) (gPc D G [.ref (G.1 b), .int (gI a1)] σ μ) (gQi D G r σ μ) 0 0 (gA G) := by
  refine Met.ofW (cc := cX5_isLate) (maxL := 2) (ret := (some (Jvm.ClassFile.FieldType.boolean))) (by decide) rfl ?_
  intro p e s m args below meth c s₁ B hml hv
  obtain ⟨rfl, hP, hX⟩ := hv
  have hx := B.exec
  have hb0 := B.bytes
  have hr := B.returns
  have hts0 := atoms_spec (ws := (gWs yX5_isLate cX5_isLate 2 (some (Jvm.ClassFile.FieldType.boolean)))) B.pre
  have hts : ∀ w ∈ gLW, w.before _ s = true := fun w hw => hts0 w (List.mem_cons_of_mem _ hw)
  have hown : s.vm.findClass RX5 = some m.cls := findClass_of_methodNamed B.named
  have hlocks := B.notSynchronized
  have hH : gH D G s s.heap [] σ μ := ⟨hP, va_S.rf⟩
  have hl := lv_entry ([.ref (G.1 b), .int (gI a1)]) (n := 2) (Nat.le_of_ble_eq_true rfl)
  rw [lg_entry_eq]
  generalize (lg_sl ([.ref (G.1 b), .int (gI a1)]) ++ List.replicate (2 - (lg_sl ([.ref (G.1 b), .int (gI a1)])).length) Slot.unset).toArray = ls at hl ⊢
  have hl : lv_has ls 2 [(0, .ref (G.1 b)), (1, .int (gI a1))] := hl
  unfold DX5_isLate at h
  refine lv_aload_n hx hb0 dX5_isLate_0 rfl (lv_at hl 0 rfl) ?_
  refine lv_aload_n hx hb0 dX5_isLate_1 rfl (lv_at hl 0 rfl) ?_
  refine lv_iload_n hx hb0 dX5_isLate_2 rfl (lv_at hl 1 rfl) ?_
  obtain ⟨q3, e3, h⟩ := gBind_some h
  refine g_callVi (k := b) (T := TX5) (N := 8) (As := [.int (gI a1)]) (rest := [.ref (G.1 b)]) ⟨hx, hb0, hml, hown, hts⟩ (metX5_to l D G b hb σ μ a1 q3 e3) (g_cwV (C := RX5) 1 hts q_ml_X5_54 q_im_X5_to q_se_X5_to q_in_X5 q_co_X5_to ⟨rfl, rfl⟩ (by decide +kernel) ⟨Nat.le_of_ble_eq_true rfl, Nat.le_of_ble_eq_true rfl⟩) hX hH hb.k rfl rfl hl.1 rfl (Nat.le_of_ble_eq_true rfl) dX5_isLate_3 ⟨Nat.zero_le _, Nat.zero_le _⟩ (fun H locs hH => ?_)
  obtain ⟨q6, e6, h⟩ := gBind_some h
  refine g_callVi (k := b) (T := TX5) (N := 8) (As := [.int (gI q3)]) (rest := []) ⟨hx, hb0, hml, hown, hts⟩ (metX5_first l D G b hb σ μ q3 q6 e6) (g_cwV (C := RX5) 1 hts q_ml_X5_57 q_im_X5_first q_se_X5_first q_in_X5 q_co_X5_first ⟨rfl, rfl⟩ (by decide +kernel) ⟨Nat.le_of_ble_eq_true rfl, Nat.le_of_ble_eq_true rfl⟩) hX hH hb.k rfl rfl hl.1 rfl (Nat.le_of_ble_eq_true rfl) dX5_isLate_6 ⟨Nat.zero_le _, Nat.zero_le _⟩ (fun H locs hH => ?_)
  refine lv_aload_n hx hb0 dX5_isLate_9 rfl (lv_at hl 0 rfl) ?_
  refine lv_aload_n hx hb0 dX5_isLate_10 rfl (lv_at hl 0 rfl) ?_
  refine lv_iload_n hx hb0 dX5_isLate_11 rfl (lv_at hl 1 rfl) ?_
  obtain ⟨q12, e12, h⟩ := gBind_some h
  refine g_callVi (k := b) (T := TX5) (N := 8) (As := [.int (gI a1)]) (rest := [.ref (G.1 b), .int (gI q6)]) ⟨hx, hb0, hml, hown, hts⟩ (metX5_from l D G b hb σ μ a1 q12 e12) (g_cwV (C := RX5) 1 hts q_ml_X5_60 q_im_X5_from q_se_X5_from q_in_X5 q_co_X5_from ⟨rfl, rfl⟩ (by decide +kernel) ⟨Nat.le_of_ble_eq_true rfl, Nat.le_of_ble_eq_true rfl⟩) hX hH hb.k rfl rfl hl.1 rfl (Nat.le_of_ble_eq_true rfl) dX5_isLate_12 ⟨Nat.zero_le _, Nat.zero_le _⟩ (fun H locs hH => ?_)
  obtain ⟨q15, e15, h⟩ := gBind_some h
  refine g_callVi (k := b) (T := TX5) (N := 8) (As := [.int (gI q12)]) (rest := [.int (gI q6)]) ⟨hx, hb0, hml, hown, hts⟩ (metX5_last l D G b hb σ μ q12 q15 e15) (g_cwV (C := RX5) 1 hts q_ml_X5_63 q_im_X5_last q_se_X5_last q_in_X5 q_co_X5_last ⟨rfl, rfl⟩ (by decide +kernel) ⟨Nat.le_of_ble_eq_true rfl, Nat.le_of_ble_eq_true rfl⟩) hX hH hb.k rfl rfl hl.1 rfl (Nat.le_of_ble_eq_true rfl) dX5_isLate_15 ⟨Nat.zero_le _, Nat.zero_le _⟩ (fun H locs hH => ?_)
  refine g_icmp_gt (tgt := 25) hx hb0 dX5_isLate_18 (by decide) h (fun h => ?_) (fun h => ?_)
  · refine lv_iconst (v := gI (0 : Int)) hx hb0 dX5_isLate_25 (by decide) ?_
    exact g_zretP hx hb0 hr hH hlocks dX5_isLate_26 h
  · refine lv_iconst (v := gI (1 : Int)) hx hb0 dX5_isLate_21 (by decide) ?_
    refine lv_goto (tgt := 26) hx hb0 dX5_isLate_22 (by decide) ?_
    exact g_zretP hx hb0 hr hH hlocks dX5_isLate_26 h
def DX8_numberOfArrow (σ : gSt) (a1 : Int) (a2 : Int) : Option (Int) :=
  gIf (a2 = (0 : Int)) a2 (0 : Int) ((DX5_from 1 σ a1).bind fun q41 => some q41) (gIf (a2 = (1 : Int)) a2 (1 : Int) ((DX5_to 1 σ a1).bind fun q50 => some q50) (gIf (a2 = (2 : Int)) a2 (2 : Int) ((DX2_leavesOn 105 σ a1).bind fun q59 => some q59) (gIf (a2 = (3 : Int)) a2 (3 : Int) ((DX2_arrivesOn 105 σ a1).bind fun q68 => some q68) (gIf (a2 = (4 : Int)) a2 (4 : Int) ((DX2_exitOf 105 σ a1).bind fun q77 => some q77) ((DX5_isLate 1 σ a1).bind fun q86 => gIf (q86 = (0 : Int)) q86 (0 : Int) (some (0 : Int)) (some (1 : Int)))))))
set_option maxHeartbeats 4000000 in
set_option maxRecDepth 100000 in
theorem metX8_numberOfArrow (l : Launch) (D : va_G) (G : gAd) (σ : gSt) (μ : gLg) (a1 : Int) (a2 : Int) (r : Int) (h : DX8_numberOfArrow σ a1 a2 = some r) : Met l yX8_numberOfArrow (gWs yX8_numberOfArrow cX8_numberOfArrow 3 (some (Jvm.ClassFile.FieldType.int))) ({ frames := 3, cells := 0, slots := 0, locals := 63 } : Room) (gPc D G [.ref (G.1 0), .int (gI a1), .int (gI a2)] σ μ) (gQi D G r σ μ) 0 0 (gA G) := by
  refine Met.ofW (cc := cX8_numberOfArrow) (maxL := 3) (ret := (some (Jvm.ClassFile.FieldType.int))) (by decide) rfl ?_
  intro p e s m args below meth c s₁ B hml hv
  obtain ⟨rfl, hP, hX⟩ := hv
  have hx := B.exec
  have hb0 := B.bytes
  have hr := B.returns
  have hts0 := atoms_spec (ws := (gWs yX8_numberOfArrow cX8_numberOfArrow 3 (some (Jvm.ClassFile.FieldType.int)))) B.pre
  have hts : ∀ w ∈ gLW, w.before _ s = true := fun w hw => hts0 w (List.mem_cons_of_mem _ hw)
  have hown : s.vm.findClass RX8 = some m.cls := findClass_of_methodNamed B.named
  have hlocks := B.notSynchronized
  have hH : gH D G s s.heap [] σ μ := ⟨hP, va_S.rf⟩
  have hl := lv_entry ([.ref (G.1 0), .int (gI a1), .int (gI a2)]) (n := 3) (Nat.le_of_ble_eq_true rfl)
  rw [lg_entry_eq]
  generalize (lg_sl ([.ref (G.1 0), .int (gI a1), .int (gI a2)]) ++ List.replicate (3 - (lg_sl ([.ref (G.1 0), .int (gI a1), .int (gI a2)])).length) Slot.unset).toArray = ls at hl ⊢
  have hl : lv_has ls 3 [(0, .ref (G.1 0)), (1, .int (gI a1)), (2, .int (gI a2))] := hl
  unfold DX8_numberOfArrow at h
  refine lv_iload_n hx hb0 dX8_numberOfArrow_0 rfl (lv_at hl 2 rfl) ?_
  obtain ⟨hgr, -, h⟩ := gIf_some h
  rcases h with ⟨hc0, h⟩ | ⟨hc0, h⟩
  · refine g_tabIn (i := (0 : Int)) (tgt := 36) hx hb0 dX8_numberOfArrow_1 hc0 (by decide) (by decide) (by decide) rfl (by decide) ?_
    refine lv_aload_n hx hb0 dX8_numberOfArrow_36 rfl (lv_at hl 0 rfl) ?_
    refine g_getR hx hb0 hts q_ws_X8 hown hX hH (C := RX8) (T := TX8) (N := 10) (k := 0) (i := 0) (j := 1) (rfl : gKinds[0]? = _) rfl (by decide) (hts _ q_fl_X8_12) rfl rfl dX8_numberOfArrow_37 ?_
    refine lv_iload_n hx hb0 dX8_numberOfArrow_40 rfl (lv_at hl 1 rfl) ?_
    obtain ⟨q41, e41, h⟩ := gBind_some h
    refine g_callVi (k := 1) (T := TX5) (N := 8) (As := [.int (gI a1)]) (rest := []) ⟨hx, hb0, hml, hown, hts⟩ (metX5_from l D G 1 gPlan_1 σ μ a1 q41 e41) (g_cwV (C := RX5) 1 hts q_ml_X8_237 q_im_X5_from q_se_X5_from q_in_X5 q_co_X5_from ⟨rfl, rfl⟩ (by decide +kernel) ⟨Nat.le_of_ble_eq_true rfl, Nat.le_of_ble_eq_true rfl⟩) hX hH gPlan_1.k rfl rfl hl.1 rfl (Nat.le_of_ble_eq_true rfl) dX8_numberOfArrow_41 ⟨Nat.zero_le _, Nat.zero_le _⟩ (fun H locs hH => ?_)
    exact g_iretP hx hb0 hr hH hlocks dX8_numberOfArrow_44 h
  · obtain ⟨hgr, -, h⟩ := gIf_some h
    rcases h with ⟨hc1, h⟩ | ⟨hc1, h⟩
    · refine g_tabIn (i := (1 : Int)) (tgt := 45) hx hb0 dX8_numberOfArrow_1 hc1 (by decide) (by decide) (by decide) rfl (by decide) ?_
      refine lv_aload_n hx hb0 dX8_numberOfArrow_45 rfl (lv_at hl 0 rfl) ?_
      refine g_getR hx hb0 hts q_ws_X8 hown hX hH (C := RX8) (T := TX8) (N := 10) (k := 0) (i := 0) (j := 1) (rfl : gKinds[0]? = _) rfl (by decide) (hts _ q_fl_X8_12) rfl rfl dX8_numberOfArrow_46 ?_
      refine lv_iload_n hx hb0 dX8_numberOfArrow_49 rfl (lv_at hl 1 rfl) ?_
      obtain ⟨q50, e50, h⟩ := gBind_some h
      refine g_callVi (k := 1) (T := TX5) (N := 8) (As := [.int (gI a1)]) (rest := []) ⟨hx, hb0, hml, hown, hts⟩ (metX5_to l D G 1 gPlan_1 σ μ a1 q50 e50) (g_cwV (C := RX5) 1 hts q_ml_X8_234 q_im_X5_to q_se_X5_to q_in_X5 q_co_X5_to ⟨rfl, rfl⟩ (by decide +kernel) ⟨Nat.le_of_ble_eq_true rfl, Nat.le_of_ble_eq_true rfl⟩) hX hH gPlan_1.k rfl rfl hl.1 rfl (Nat.le_of_ble_eq_true rfl) dX8_numberOfArrow_50 ⟨Nat.zero_le _, Nat.zero_le _⟩ (fun H locs hH => ?_)
      exact g_iretP hx hb0 hr hH hlocks dX8_numberOfArrow_53 h
    · obtain ⟨hgr, -, h⟩ := gIf_some h
      rcases h with ⟨hc2, h⟩ | ⟨hc2, h⟩
      · refine g_tabIn (i := (2 : Int)) (tgt := 54) hx hb0 dX8_numberOfArrow_1 hc2 (by decide) (by decide) (by decide) rfl (by decide) ?_
        refine lv_aload_n hx hb0 dX8_numberOfArrow_54 rfl (lv_at hl 0 rfl) ?_
        refine g_getR hx hb0 hts q_ws_X8 hown hX hH (C := RX8) (T := TX8) (N := 10) (k := 0) (i := 7) (j := 105) (rfl : gKinds[0]? = _) rfl (by decide) (hts _ q_fl_X8_57) rfl rfl dX8_numberOfArrow_55 ?_
        refine lv_iload_n hx hb0 dX8_numberOfArrow_58 rfl (lv_at hl 1 rfl) ?_
        obtain ⟨q59, e59, h⟩ := gBind_some h
        refine g_callVi (k := 105) (T := TX2) (N := 7) (As := [.int (gI a1)]) (rest := []) ⟨hx, hb0, hml, hown, hts⟩ (metX2_leavesOn l D G 105 gExits_105 σ μ a1 q59 e59) (g_cwV (C := RX2) 1 hts q_ml_X8_346 q_im_X2_leavesOn q_se_X2_leavesOn q_in_X2 q_co_X2_leavesOn ⟨rfl, rfl⟩ (by decide +kernel) ⟨Nat.le_of_ble_eq_true rfl, Nat.le_of_ble_eq_true rfl⟩) hX hH gExits_105.k rfl rfl hl.1 rfl (Nat.le_of_ble_eq_true rfl) dX8_numberOfArrow_59 ⟨Nat.zero_le _, Nat.zero_le _⟩ (fun H locs hH => ?_)
        exact g_iretP hx hb0 hr hH hlocks dX8_numberOfArrow_62 h
      · obtain ⟨hgr, -, h⟩ := gIf_some h
        rcases h with ⟨hc3, h⟩ | ⟨hc3, h⟩
        · refine g_tabIn (i := (3 : Int)) (tgt := 63) hx hb0 dX8_numberOfArrow_1 hc3 (by decide) (by decide) (by decide) rfl (by decide) ?_
          refine lv_aload_n hx hb0 dX8_numberOfArrow_63 rfl (lv_at hl 0 rfl) ?_
          refine g_getR hx hb0 hts q_ws_X8 hown hX hH (C := RX8) (T := TX8) (N := 10) (k := 0) (i := 7) (j := 105) (rfl : gKinds[0]? = _) rfl (by decide) (hts _ q_fl_X8_57) rfl rfl dX8_numberOfArrow_64 ?_
          refine lv_iload_n hx hb0 dX8_numberOfArrow_67 rfl (lv_at hl 1 rfl) ?_
          obtain ⟨q68, e68, h⟩ := gBind_some h
          refine g_callVi (k := 105) (T := TX2) (N := 7) (As := [.int (gI a1)]) (rest := []) ⟨hx, hb0, hml, hown, hts⟩ (metX2_arrivesOn l D G 105 gExits_105 σ μ a1 q68 e68) (g_cwV (C := RX2) 1 hts q_ml_X8_349 q_im_X2_arrivesOn q_se_X2_arrivesOn q_in_X2 q_co_X2_arrivesOn ⟨rfl, rfl⟩ (by decide +kernel) ⟨Nat.le_of_ble_eq_true rfl, Nat.le_of_ble_eq_true rfl⟩) hX hH gExits_105.k rfl rfl hl.1 rfl (Nat.le_of_ble_eq_true rfl) dX8_numberOfArrow_68 ⟨Nat.zero_le _, Nat.zero_le _⟩ (fun H locs hH => ?_)
          exact g_iretP hx hb0 hr hH hlocks dX8_numberOfArrow_71 h
        · obtain ⟨hgr, -, h⟩ := gIf_some h
          rcases h with ⟨hc4, h⟩ | ⟨hc4, h⟩
          · refine g_tabIn (i := (4 : Int)) (tgt := 72) hx hb0 dX8_numberOfArrow_1 hc4 (by decide) (by decide) (by decide) rfl (by decide) ?_
            refine lv_aload_n hx hb0 dX8_numberOfArrow_72 rfl (lv_at hl 0 rfl) ?_
            refine g_getR hx hb0 hts q_ws_X8 hown hX hH (C := RX8) (T := TX8) (N := 10) (k := 0) (i := 7) (j := 105) (rfl : gKinds[0]? = _) rfl (by decide) (hts _ q_fl_X8_57) rfl rfl dX8_numberOfArrow_73 ?_
            refine lv_iload_n hx hb0 dX8_numberOfArrow_76 rfl (lv_at hl 1 rfl) ?_
            obtain ⟨q77, e77, h⟩ := gBind_some h
            refine g_callVi (k := 105) (T := TX2) (N := 7) (As := [.int (gI a1)]) (rest := []) ⟨hx, hb0, hml, hown, hts⟩ (metX2_exitOf l D G 105 gExits_105 σ μ a1 q77 e77) (g_cwV (C := RX2) 1 hts q_ml_X8_352 q_im_X2_exitOf q_se_X2_exitOf q_in_X2 q_co_X2_exitOf ⟨rfl, rfl⟩ (by decide +kernel) ⟨Nat.le_of_ble_eq_true rfl, Nat.le_of_ble_eq_true rfl⟩) hX hH gExits_105.k rfl rfl hl.1 rfl (Nat.le_of_ble_eq_true rfl) dX8_numberOfArrow_77 ⟨Nat.zero_le _, Nat.zero_le _⟩ (fun H locs hH => ?_)
            exact g_iretP hx hb0 hr hH hlocks dX8_numberOfArrow_80 h
          · refine g_tabOut (tgt := 81) hx hb0 dX8_numberOfArrow_1 hgr (by omega) (by decide) ?_
            refine lv_aload_n hx hb0 dX8_numberOfArrow_81 rfl (lv_at hl 0 rfl) ?_
            refine g_getR hx hb0 hts q_ws_X8 hown hX hH (C := RX8) (T := TX8) (N := 10) (k := 0) (i := 0) (j := 1) (rfl : gKinds[0]? = _) rfl (by decide) (hts _ q_fl_X8_12) rfl rfl dX8_numberOfArrow_82 ?_
            refine lv_iload_n hx hb0 dX8_numberOfArrow_85 rfl (lv_at hl 1 rfl) ?_
            obtain ⟨q86, e86, h⟩ := gBind_some h
            refine g_callVi (k := 1) (T := TX5) (N := 8) (As := [.int (gI a1)]) (rest := []) ⟨hx, hb0, hml, hown, hts⟩ (metX5_isLate l D G 1 gPlan_1 σ μ a1 q86 e86) (g_cwV (C := RX5) 1 hts q_ml_X8_355 q_im_X5_isLate q_se_X5_isLate q_in_X5 q_co_X5_isLate ⟨rfl, rfl⟩ (by decide +kernel) ⟨Nat.le_of_ble_eq_true rfl, Nat.le_of_ble_eq_true rfl⟩) hX hH gPlan_1.k rfl rfl hl.1 rfl (Nat.le_of_ble_eq_true rfl) dX8_numberOfArrow_86 ⟨Nat.zero_le _, Nat.zero_le _⟩ (fun H locs hH => ?_)
            refine g_if_eq (tgt := 96) hx hb0 dX8_numberOfArrow_89 (by decide) h (fun h => ?_) (fun h => ?_)
            · refine lv_iconst (v := gI (0 : Int)) hx hb0 dX8_numberOfArrow_96 (by decide) ?_
              exact g_iretP hx hb0 hr hH hlocks dX8_numberOfArrow_97 h
            · refine lv_iconst (v := gI (1 : Int)) hx hb0 dX8_numberOfArrow_92 (by decide) ?_
              refine lv_goto (tgt := 97) hx hb0 dX8_numberOfArrow_93 (by decide) ?_
              exact g_iretP hx hb0 hr hH hlocks dX8_numberOfArrow_97 h
def DX8_arrow_J15  : Option (Nat ⊕ Int) :=
  some (.inl 1)
def DX8_arrow (σ : gSt) (a1 : Int) (a2 : Int) : Option (Nat ⊕ Int) :=
  gXb (DX8_requireArrow σ a1) fun _ => gIf (a2 < (0 : Int)) a2 (0 : Int) ((DX8_arrow_J15)) (gIf (a2 < (6 : Int)) a2 (6 : Int) ((DX8_numberOfArrow σ a1 a2).bind fun q28 => some (.inr q28)) ((DX8_arrow_J15)))
set_option maxHeartbeats 4000000 in
set_option maxRecDepth 100000 in
theorem metX8_arrow (l : Launch) (hlt : l.stackTraces = false) (D : va_G) (G : gAd) (σ : gSt) (μ : gLg) (a1 : Int) (a2 : Int) (r : Nat ⊕ Int) (h : DX8_arrow σ a1 a2 = some r) : vx_Met l yX8_arrow (gWs yX8_arrow cX8_arrow 3 (some (Jvm.ClassFile.FieldType.int))) ({ frames := 7, cells := 2, slots := 12, locals := 103 } : Room) (gPc D G [.ref (G.1 0), .int (gI a1), .int (gI a2)] σ μ) (gXp D G r σ μ) (gXC D G r σ μ) 2 12 (gA G) := by
  refine vx_ofW (cc := cX8_arrow) (maxL := 3) (ret := (some (Jvm.ClassFile.FieldType.int))) (by decide) rfl ?_
  intro p e s m args below meth c s₁ B hml hxt hv
  obtain ⟨rfl, hP, hX⟩ := hv
  have hx := B.exec
  have hb0 := B.bytes
  have hr := B.returns
  have hts0 := atoms_spec (ws := (gWs yX8_arrow cX8_arrow 3 (some (Jvm.ClassFile.FieldType.int)))) B.pre
  have hts : ∀ w ∈ gLW, w.before _ s = true := fun w hw => hts0 w (List.mem_cons_of_mem _ hw)
  have hown : s.vm.findClass RX8 = some m.cls := findClass_of_methodNamed B.named
  have hlocks := B.notSynchronized
  have hH : gH D G s s.heap [] σ μ := ⟨hP, va_S.rf⟩
  have hl := lv_entry ([.ref (G.1 0), .int (gI a1), .int (gI a2)]) (n := 3) (Nat.le_of_ble_eq_true rfl)
  rw [lg_entry_eq]
  generalize (lg_sl ([.ref (G.1 0), .int (gI a1), .int (gI a2)]) ++ List.replicate (3 - (lg_sl ([.ref (G.1 0), .int (gI a1), .int (gI a2)])).length) Slot.unset).toArray = ls at hl ⊢
  have hl : lv_has ls 3 [(0, .ref (G.1 0)), (1, .int (gI a1)), (2, .int (gI a2))] := hl
  unfold DX8_arrow at h
  refine lv_aload_n hx hb0 dX8_arrow_0 rfl (lv_at hl 0 rfl) ?_
  refine lv_iload_n hx hb0 dX8_arrow_1 rfl (lv_at hl 1 rfl) ?_
  obtain ⟨q2, e2, h⟩ := gXb_some h
  refine g_xcallVv (k := 0) (T := TX8) (N := 10) (As := [.int (gI a1)]) (rest := []) (x := q2) ⟨hx, hb0, hml, hown, hts⟩ (metX8_requireArrow l hlt D G σ μ a1 q2 e2) (g_cwX (C := RX8) 1 hts q_ml_X8_146 q_im_X8_requireArrow q_se_X8_requireArrow q_in_X8 q_co_X8_requireArrow ⟨rfl, rfl⟩ (by decide +kernel) ⟨Nat.le_of_ble_eq_true rfl, Nat.le_of_ble_eq_true rfl⟩) hX hH (rfl : gKinds[0]? = _) rfl rfl hl.1 rfl (Nat.le_of_ble_eq_true rfl) dX8_arrow_2 ⟨Nat.le_of_ble_eq_true rfl, Nat.le_of_ble_eq_true rfl⟩ (fun k9 E9 ce9 q9 H locs hk9 hE9 hH h1 h2 h3 => ?_) (fun hk9 H locs hH => ?_)
  · rcases h with ⟨k8, h8, h⟩ | ⟨a8, h8, h⟩
    · rw [h8] at hk9
      cases hk9
      exact g_xout hxt hlocks hE9 hH h1 h2 h3 (Nat.le_of_ble_eq_true rfl) (Nat.le_of_ble_eq_true rfl) h
    · rw [h8] at hk9
      cases hk9
  · rcases h with ⟨k8, h8, h⟩ | ⟨a8, h8, h⟩
    · rw [h8] at hk9
      cases hk9
    · refine lv_iload_n hx hb0 dX8_arrow_5 rfl (lv_at hl 2 rfl) ?_
      have hJ15 : ∀  (H : Heap) (locs : List Loc) (ls : Array Slot), gH D G s H locs σ μ → lv_has ls 3 [] → (DX8_arrow_J15) = some r → W p l e (headSpec (gWs yX8_arrow cX8_arrow 3 (some (Jvm.ClassFile.FieldType.int))) ({ frames := 7, cells := 2, slots := 12, locals := 103 } : Room)).room s m ([.ref (G.1 0), .int (gI a1), .int (gI a2)] : List Value).toArray below meth c H locs 1 6 (vx_MQ below (gXp D G r σ μ) (gXC D G r σ μ) ([.ref (G.1 0), .int (gI a1), .int (gI a2)] : List Value).toArray s 2 12 (gA G)) (F0 m 15 ls []) := by
        intro H locs ls hH hl h
        unfold DX8_arrow_J15 at h
        exact g_throwS (text := "no such thing about an arrow") (k := 1) hx hb0 hlt hown hts hX hH rfl q_cl_X8_71 q_in_java_lang_IllegalArgumentException g_bad1 g_ok1 g_ot1 (by decide +kernel) (by decide +kernel) (hl.1.trans hml.symm) dX8_arrow_15 dX8_arrow_18 dX8_arrow_19 dX8_arrow_21 dX8_arrow_24 hxt ⟨⟨Nat.le_of_ble_eq_true rfl, Nat.le_of_ble_eq_true rfl⟩, Nat.le_of_ble_eq_true rfl, Nat.le_of_ble_eq_true rfl⟩ hlocks ⟨Nat.le_of_ble_eq_true rfl, Nat.le_of_ble_eq_true rfl⟩ h
      refine g_if_lt (tgt := 15) hx hb0 dX8_arrow_6 (by decide) h (fun h => ?_) (fun h => ?_)
      · exact hJ15  _ _ _ hH (lv_sub hl [] rfl) h
      · refine lv_iload_n hx hb0 dX8_arrow_9 rfl (lv_at hl 2 rfl) ?_
        refine lv_bipush (v := gI (6 : Int)) hx hb0 dX8_arrow_10 (by decide) ?_
        refine g_icmp_lt (tgt := 25) hx hb0 dX8_arrow_12 (by decide) h (fun h => ?_) (fun h => ?_)
        · refine lv_aload_n hx hb0 dX8_arrow_25 rfl (lv_at hl 0 rfl) ?_
          refine lv_iload_n hx hb0 dX8_arrow_26 rfl (lv_at hl 1 rfl) ?_
          refine lv_iload_n hx hb0 dX8_arrow_27 rfl (lv_at hl 2 rfl) ?_
          obtain ⟨q28, e28, h⟩ := gBind_some h
          refine g_callVi (k := 0) (T := TX8) (N := 10) (As := [.int (gI a1), .int (gI a2)]) (rest := []) ⟨hx, hb0, hml, hown, hts⟩ (metX8_numberOfArrow l D G σ μ a1 a2 q28 e28) (g_cwV (C := RX8) 2 hts q_ml_X8_198 q_im_X8_numberOfArrow q_se_X8_numberOfArrow q_in_X8 q_co_X8_numberOfArrow ⟨rfl, rfl⟩ (by decide +kernel) ⟨Nat.le_of_ble_eq_true rfl, Nat.le_of_ble_eq_true rfl⟩) hX hH (rfl : gKinds[0]? = _) rfl rfl hl.1 rfl (Nat.le_of_ble_eq_true rfl) dX8_arrow_28 ⟨Nat.le_of_ble_eq_true rfl, Nat.le_of_ble_eq_true rfl⟩ (fun H locs hH => ?_)
          exact g_xpret hx hb0 hr hH hlocks (Nat.le_of_ble_eq_true rfl) (Nat.le_of_ble_eq_true rfl) dX8_arrow_31 h
        · exact hJ15  _ _ _ hH (lv_sub hl [] rfl) h
def DX8_delay_J63 (R9 : Int → Int → Option (Nat ⊕ Int)) (x3_9 : Int) (x2_63 : Int) : Option (Nat ⊕ Int) :=
  (R9 (x3_9 + (1 : Int)) x2_63)
def DX8_delay_L9 (σ : gSt) (a1 : Int) : Nat → Int → Int → Option (Nat ⊕ Int)
  | 0, _, _ => none
  | f9 + 1, x3_9, x2_9 => (DX5_arrowCount 1 σ).bind fun q14 => gIf (x3_9 < q14) x3_9 q14 ((DX5_to 1 σ x3_9).bind fun q25 => gIf (q25 = a1) q25 a1 ((DX5_from 1 σ x3_9).bind fun q42 => (DX5_last 1 σ q42).bind fun q45 => (DX5_first 1 σ a1).bind fun q55 => gRr x2_9 ((q45 + (1 : Int)) - q55) ((DX8_delay_J63 (DX8_delay_L9 σ a1 f9) x3_9 (max x2_9 ((q45 + (1 : Int)) - q55))))) ((DX8_delay_J63 (DX8_delay_L9 σ a1 f9) x3_9 x2_9))) (some (.inr x2_9))
def DX8_delay (σ : gSt) (a1 : Int) : Option (Nat ⊕ Int) :=
  gXb (DX8_requireTask σ a1) fun _ => (DX8_delay_L9 σ a1 gFuel (0 : Int) (0 : Int))
set_option maxHeartbeats 4000000 in
set_option maxRecDepth 100000 in
theorem metX8_delay (l : Launch) (hlt : l.stackTraces = false) (D : va_G) (G : gAd) (σ : gSt) (μ : gLg) (a1 : Int) (r : Nat ⊕ Int) (h : DX8_delay σ a1 = some r) : vx_Met l yX8_delay (gWs yX8_delay cX8_delay 4 (some (Jvm.ClassFile.FieldType.int))) ({ frames := 7, cells := 1, slots := 6, locals := 103 } : Room) (gPc D G [.ref (G.1 0), .int (gI a1)] σ μ) (gXp D G r σ μ) (gXC D G r σ μ) 1 6 (gA G) := by
  refine vx_ofW (cc := cX8_delay) (maxL := 4) (ret := (some (Jvm.ClassFile.FieldType.int))) (by decide) rfl ?_
  intro p e s m args below meth c s₁ B hml hxt hv
  obtain ⟨rfl, hP, hX⟩ := hv
  have hx := B.exec
  have hb0 := B.bytes
  have hr := B.returns
  have hts0 := atoms_spec (ws := (gWs yX8_delay cX8_delay 4 (some (Jvm.ClassFile.FieldType.int)))) B.pre
  have hts : ∀ w ∈ gLW, w.before _ s = true := fun w hw => hts0 w (List.mem_cons_of_mem _ hw)
  have hown : s.vm.findClass RX8 = some m.cls := findClass_of_methodNamed B.named
  have hlocks := B.notSynchronized
  have hH : gH D G s s.heap [] σ μ := ⟨hP, va_S.rf⟩
  have hl := lv_entry ([.ref (G.1 0), .int (gI a1)]) (n := 4) (Nat.le_of_ble_eq_true rfl)
  rw [lg_entry_eq]
  generalize (lg_sl ([.ref (G.1 0), .int (gI a1)]) ++ List.replicate (4 - (lg_sl ([.ref (G.1 0), .int (gI a1)])).length) Slot.unset).toArray = ls at hl ⊢
  have hl : lv_has ls 4 [(0, .ref (G.1 0)), (1, .int (gI a1))] := hl
  unfold DX8_delay at h
  refine lv_aload_n hx hb0 dX8_delay_0 rfl (lv_at hl 0 rfl) ?_
  refine lv_iload_n hx hb0 dX8_delay_1 rfl (lv_at hl 1 rfl) ?_
  obtain ⟨q2, e2, h⟩ := gXb_some h
  refine g_xcallVv (k := 0) (T := TX8) (N := 10) (As := [.int (gI a1)]) (rest := []) (x := q2) ⟨hx, hb0, hml, hown, hts⟩ (metX8_requireTask l hlt D G σ μ a1 q2 e2) (g_cwX (C := RX8) 1 hts q_ml_X8_116 q_im_X8_requireTask q_se_X8_requireTask q_in_X8 q_co_X8_requireTask ⟨rfl, rfl⟩ (by decide +kernel) ⟨Nat.le_of_ble_eq_true rfl, Nat.le_of_ble_eq_true rfl⟩) hX hH (rfl : gKinds[0]? = _) rfl rfl hl.1 rfl (Nat.le_of_ble_eq_true rfl) dX8_delay_2 ⟨Nat.le_of_ble_eq_true rfl, Nat.le_of_ble_eq_true rfl⟩ (fun k9 E9 ce9 q9 H locs hk9 hE9 hH h1 h2 h3 => ?_) (fun hk9 H locs hH => ?_)
  · rcases h with ⟨k8, h8, h⟩ | ⟨a8, h8, h⟩
    · rw [h8] at hk9
      cases hk9
      exact g_xout hxt hlocks hE9 hH h1 h2 h3 (Nat.le_of_ble_eq_true rfl) (Nat.le_of_ble_eq_true rfl) h
    · rw [h8] at hk9
      cases hk9
  · rcases h with ⟨k8, h8, h⟩ | ⟨a8, h8, h⟩
    · rw [h8] at hk9
      cases hk9
    · refine lv_iconst (v := gI (0 : Int)) hx hb0 dX8_delay_5 (by decide) ?_
      refine lv_istore_n (lv' := [(2, .int (gI (0 : Int))), (0, .ref (G.1 0)), (1, .int (gI a1))]) hx hb0 dX8_delay_6 rfl hl (by decide) rfl (fun ls hl => ?_)
      refine lv_iconst (v := gI (0 : Int)) hx hb0 dX8_delay_7 (by decide) ?_
      refine lv_istore_n (lv' := [(3, .int (gI (0 : Int))), (2, .int (gI (0 : Int))), (0, .ref (G.1 0)), (1, .int (gI a1))]) hx hb0 dX8_delay_8 rfl hl (by decide) rfl (fun ls hl => ?_)
      have hL9 : ∀ (f9 : Nat) (x3_9 : Int) (x2_9 : Int) (H : Heap) (locs : List Loc) (ls : Array Slot), gH D G s H locs σ μ → lv_has ls 4 [(3, .int (gI x3_9)), (2, .int (gI x2_9)), (0, .ref (G.1 0)), (1, .int (gI a1))] → (DX8_delay_L9 σ a1 f9 x3_9 x2_9) = some r → W p l e (headSpec (gWs yX8_delay cX8_delay 4 (some (Jvm.ClassFile.FieldType.int))) ({ frames := 7, cells := 1, slots := 6, locals := 103 } : Room)).room s m ([.ref (G.1 0), .int (gI a1)] : List Value).toArray below meth c H locs 1 6 (vx_MQ below (gXp D G r σ μ) (gXC D G r σ μ) ([.ref (G.1 0), .int (gI a1)] : List Value).toArray s 1 6 (gA G)) (F0 m 9 ls []) := by
        intro f9
        induction f9 with
        | zero => intro x3_9 x2_9 H locs ls hH hl h; cases h
        | succ f9 ih9 =>
          intro x3_9 x2_9 H locs ls hH hl h
          unfold DX8_delay_L9 at h
          refine lv_iload_n hx hb0 dX8_delay_9 rfl (lv_at hl 0 rfl) ?_
          refine lv_aload_n hx hb0 dX8_delay_10 rfl (lv_at hl 2 rfl) ?_
          refine g_getR hx hb0 hts q_ws_X8 hown hX hH (C := RX8) (T := TX8) (N := 10) (k := 0) (i := 0) (j := 1) (rfl : gKinds[0]? = _) rfl (by decide) (hts _ q_fl_X8_12) rfl rfl dX8_delay_11 ?_
          obtain ⟨q14, e14, h⟩ := gBind_some h
          refine g_callVi (k := 1) (T := TX5) (N := 8) (As := []) (rest := [.int (gI x3_9)]) ⟨hx, hb0, hml, hown, hts⟩ (metX5_arrowCount l D G 1 gPlan_1 σ μ q14 e14) (g_cwV (C := RX5) 0 hts q_ml_X8_137 q_im_X5_arrowCount q_se_X5_arrowCount q_in_X5 q_co_X5_arrowCount ⟨rfl, rfl⟩ (by decide +kernel) ⟨Nat.le_of_ble_eq_true rfl, Nat.le_of_ble_eq_true rfl⟩) hX hH gPlan_1.k rfl rfl hl.1 rfl (Nat.le_of_ble_eq_true rfl) dX8_delay_14 ⟨Nat.le_of_ble_eq_true rfl, Nat.le_of_ble_eq_true rfl⟩ (fun H locs hH => ?_)
          refine g_icmp_ge (tgt := 69) hx hb0 dX8_delay_17 (by decide) h (fun h => ?_) (fun h => ?_)
          · refine lv_iload_n hx hb0 dX8_delay_69 rfl (lv_at hl 1 rfl) ?_
            exact g_xpret hx hb0 hr hH hlocks (Nat.le_of_ble_eq_true rfl) (Nat.le_of_ble_eq_true rfl) dX8_delay_70 h
          · refine lv_aload_n hx hb0 dX8_delay_20 rfl (lv_at hl 2 rfl) ?_
            refine g_getR hx hb0 hts q_ws_X8 hown hX hH (C := RX8) (T := TX8) (N := 10) (k := 0) (i := 0) (j := 1) (rfl : gKinds[0]? = _) rfl (by decide) (hts _ q_fl_X8_12) rfl rfl dX8_delay_21 ?_
            refine lv_iload_n hx hb0 dX8_delay_24 rfl (lv_at hl 0 rfl) ?_
            obtain ⟨q25, e25, h⟩ := gBind_some h
            refine g_callVi (k := 1) (T := TX5) (N := 8) (As := [.int (gI x3_9)]) (rest := []) ⟨hx, hb0, hml, hown, hts⟩ (metX5_to l D G 1 gPlan_1 σ μ x3_9 q25 e25) (g_cwV (C := RX5) 1 hts q_ml_X8_234 q_im_X5_to q_se_X5_to q_in_X5 q_co_X5_to ⟨rfl, rfl⟩ (by decide +kernel) ⟨Nat.le_of_ble_eq_true rfl, Nat.le_of_ble_eq_true rfl⟩) hX hH gPlan_1.k rfl rfl hl.1 rfl (Nat.le_of_ble_eq_true rfl) dX8_delay_25 ⟨Nat.le_of_ble_eq_true rfl, Nat.le_of_ble_eq_true rfl⟩ (fun H locs hH => ?_)
            refine lv_iload_n hx hb0 dX8_delay_28 rfl (lv_at hl 3 rfl) ?_
            have hJ63 : ∀ (x2_63 : Int) (H : Heap) (locs : List Loc) (ls : Array Slot), gH D G s H locs σ μ → lv_has ls 4 [(3, .int (gI x3_9)), (2, .int (gI x2_63)), (0, .ref (G.1 0)), (1, .int (gI a1))] → (DX8_delay_J63 (DX8_delay_L9 σ a1 f9) x3_9 x2_63) = some r → W p l e (headSpec (gWs yX8_delay cX8_delay 4 (some (Jvm.ClassFile.FieldType.int))) ({ frames := 7, cells := 1, slots := 6, locals := 103 } : Room)).room s m ([.ref (G.1 0), .int (gI a1)] : List Value).toArray below meth c H locs 1 6 (vx_MQ below (gXp D G r σ μ) (gXC D G r σ μ) ([.ref (G.1 0), .int (gI a1)] : List Value).toArray s 1 6 (gA G)) (F0 m 63 ls []) := by
              intro x2_63 H locs ls hH hl h
              unfold DX8_delay_J63 at h
              refine g_iinc (k := 0) (n := (1 : Int)) (lv' := [(3, .int (gI (x3_9 + (1 : Int)))), (2, .int (gI x2_63)), (0, .ref (G.1 0)), (1, .int (gI a1))]) hx hb0 dX8_delay_63 hl rfl (by decide) rfl (fun ls hl => ?_)
              refine lv_goto (tgt := 9) hx hb0 dX8_delay_66 (by decide) ?_
              exact ih9 _ _ _ _ _ hH (lv_sub hl [0, 1, 2, 3] rfl) h
            refine g_icmp_ne (tgt := 63) hx hb0 dX8_delay_29 (by decide) h (fun h => ?_) (fun h => ?_)
            · exact hJ63 _ _ _ _ hH (lv_sub hl [0, 1, 2, 3] rfl) h
            · refine lv_iload_n hx hb0 dX8_delay_32 rfl (lv_at hl 1 rfl) ?_
              refine lv_aload_n hx hb0 dX8_delay_33 rfl (lv_at hl 2 rfl) ?_
              refine g_getR hx hb0 hts q_ws_X8 hown hX hH (C := RX8) (T := TX8) (N := 10) (k := 0) (i := 0) (j := 1) (rfl : gKinds[0]? = _) rfl (by decide) (hts _ q_fl_X8_12) rfl rfl dX8_delay_34 ?_
              refine lv_aload_n hx hb0 dX8_delay_37 rfl (lv_at hl 2 rfl) ?_
              refine g_getR hx hb0 hts q_ws_X8 hown hX hH (C := RX8) (T := TX8) (N := 10) (k := 0) (i := 0) (j := 1) (rfl : gKinds[0]? = _) rfl (by decide) (hts _ q_fl_X8_12) rfl rfl dX8_delay_38 ?_
              refine lv_iload_n hx hb0 dX8_delay_41 rfl (lv_at hl 0 rfl) ?_
              obtain ⟨q42, e42, h⟩ := gBind_some h
              refine g_callVi (k := 1) (T := TX5) (N := 8) (As := [.int (gI x3_9)]) (rest := [.ref (G.1 1), .int (gI x2_9)]) ⟨hx, hb0, hml, hown, hts⟩ (metX5_from l D G 1 gPlan_1 σ μ x3_9 q42 e42) (g_cwV (C := RX5) 1 hts q_ml_X8_237 q_im_X5_from q_se_X5_from q_in_X5 q_co_X5_from ⟨rfl, rfl⟩ (by decide +kernel) ⟨Nat.le_of_ble_eq_true rfl, Nat.le_of_ble_eq_true rfl⟩) hX hH gPlan_1.k rfl rfl hl.1 rfl (Nat.le_of_ble_eq_true rfl) dX8_delay_42 ⟨Nat.le_of_ble_eq_true rfl, Nat.le_of_ble_eq_true rfl⟩ (fun H locs hH => ?_)
              obtain ⟨q45, e45, h⟩ := gBind_some h
              refine g_callVi (k := 1) (T := TX5) (N := 8) (As := [.int (gI q42)]) (rest := [.int (gI x2_9)]) ⟨hx, hb0, hml, hown, hts⟩ (metX5_last l D G 1 gPlan_1 σ μ q42 q45 e45) (g_cwV (C := RX5) 1 hts q_ml_X8_240 q_im_X5_last q_se_X5_last q_in_X5 q_co_X5_last ⟨rfl, rfl⟩ (by decide +kernel) ⟨Nat.le_of_ble_eq_true rfl, Nat.le_of_ble_eq_true rfl⟩) hX hH gPlan_1.k rfl rfl hl.1 rfl (Nat.le_of_ble_eq_true rfl) dX8_delay_45 ⟨Nat.le_of_ble_eq_true rfl, Nat.le_of_ble_eq_true rfl⟩ (fun H locs hH => ?_)
              refine lv_iconst (v := gI (1 : Int)) hx hb0 dX8_delay_48 (by decide) ?_
              refine g_iadd hx hb0 dX8_delay_49 ?_
              refine lv_aload_n hx hb0 dX8_delay_50 rfl (lv_at hl 2 rfl) ?_
              refine g_getR hx hb0 hts q_ws_X8 hown hX hH (C := RX8) (T := TX8) (N := 10) (k := 0) (i := 0) (j := 1) (rfl : gKinds[0]? = _) rfl (by decide) (hts _ q_fl_X8_12) rfl rfl dX8_delay_51 ?_
              refine lv_iload_n hx hb0 dX8_delay_54 rfl (lv_at hl 3 rfl) ?_
              obtain ⟨q55, e55, h⟩ := gBind_some h
              refine g_callVi (k := 1) (T := TX5) (N := 8) (As := [.int (gI a1)]) (rest := [.int (gI (q45 + (1 : Int))), .int (gI x2_9)]) ⟨hx, hb0, hml, hown, hts⟩ (metX5_first l D G 1 gPlan_1 σ μ a1 q55 e55) (g_cwV (C := RX5) 1 hts q_ml_X8_122 q_im_X5_first q_se_X5_first q_in_X5 q_co_X5_first ⟨rfl, rfl⟩ (by decide +kernel) ⟨Nat.le_of_ble_eq_true rfl, Nat.le_of_ble_eq_true rfl⟩) hX hH gPlan_1.k rfl rfl hl.1 rfl (Nat.le_of_ble_eq_true rfl) dX8_delay_55 ⟨Nat.le_of_ble_eq_true rfl, Nat.le_of_ble_eq_true rfl⟩ (fun H locs hH => ?_)
              refine g_isub hx hb0 dX8_delay_58 ?_
              refine g_mmax hx hb0 (hml.trans hl.1.symm) hts hown q_ml_X8_243 ⟨⟨Nat.le_of_ble_eq_true rfl, Nat.le_of_ble_eq_true rfl⟩, Nat.le_of_ble_eq_true rfl, Nat.le_of_ble_eq_true rfl⟩ dX8_delay_59 h (fun h => ?_)
              refine lv_istore_n (lv' := [(2, .int (gI (max x2_9 ((q45 + (1 : Int)) - q55)))), (3, .int (gI x3_9)), (0, .ref (G.1 0)), (1, .int (gI a1))]) hx hb0 dX8_delay_62 rfl hl (by decide) rfl (fun ls hl => ?_)
              exact hJ63 _ _ _ _ hH (lv_sub hl [1, 0, 2, 3] rfl) h
      exact hL9 gFuel _ _ _ _ _ hH (lv_sub hl [0, 1, 2, 3] rfl) h
