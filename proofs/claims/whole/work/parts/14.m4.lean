def DX7_readNumber_J77 (b : Nat) (σ61 : gSt) : Option (Int × gSt) :=
  (DX7_fail b σ61 (σ61 b 2)).bind fun q82 => gBo q82.1 (some (q82.1, q82.2))
def DX7_readNumber_J102 (b : Nat) (σ : gSt) (σ61 : gSt) : Option (Int × gSt) :=
  (DX7_fail b σ61 (σ b 2)).bind fun q105 => gBo q105.1 (some (q105.1, q105.2))
def DX7_readNumber_K61 (b : Nat) (σ : gSt) (a2 : Int) (a3 : Int) (σ61 : gSt) : Option (Int × gSt) :=
  gIf ((σ61 b 2) = (σ b 2)) (σ61 b 2) (σ b 2) ((DX7_readNumber_J77 b σ61)) ((DX7_nextIsDigit b σ61).bind fun q71 => gIf (q71 = (0 : Int)) q71 (0 : Int) (gIf ((σ61 b 4) < a2) (σ61 b 4) a2 ((DX7_readNumber_J102 b σ σ61)) (gIf (a3 < (σ61 b 4)) (σ61 b 4) a3 ((DX7_readNumber_J102 b σ σ61)) (gBo (1 : Int) (some ((1 : Int), σ61))))) ((DX7_readNumber_J77 b σ61)))
def DX7_readNumber_L11 (K61 : gSt → Option (Int × gSt)) (b : Nat) (σ : gSt) (a1 : Int) : Nat → gSt → Option (Int × gSt)
  | 0, _ => none
  | f11 + 1, σ11 => gIf ((σ11 b 2) < ((σ b 2) + a1)) (σ11 b 2) ((σ b 2) + a1) ((DX7_nextIsDigit b σ11).bind fun q23 => gIf (q23 = (0 : Int)) q23 (0 : Int) ((K61 σ11)) ((DX7_next b σ11).bind fun q38 => ((DX7_readNumber_L11 K61 b σ a1 f11) (gUp (gUp σ11 b 4 ((((σ11 b 4) * (10 : Int)) + q38) - (48 : Int))) b 2 (((gUp σ11 b 4 ((((σ11 b 4) * (10 : Int)) + q38) - (48 : Int))) b 2) + (1 : Int)))))) ((K61 σ11))
def DX7_readNumber (b : Nat) (σ : gSt) (a1 : Int) (a2 : Int) (a3 : Int) : Option (Int × gSt) :=
  (DX7_readNumber_L11 (DX7_readNumber_K61 b σ a2 a3) b σ a1 gFuel (gUp σ b 4 (0 : Int)))
set_option maxHeartbeats 4000000 in
set_option maxRecDepth 100000 in
theorem metX7_readNumber (l : Launch) (D : va_G) (G : gAd) (b : Nat) (hb : gText b) (σ : gSt) (μ : gLg) (a1 : Int) (a2 : Int) (a3 : Int) (r : Int) (σ' : gSt) (h : DX7_readNumber b σ a1 a2 a3 = some (r, σ')) : Met l yX7_readNumber (gWs yX7_readNumber cX7_readNumber 5 (some (Jvm.ClassFile.FieldType.boolean))) ({ frames := 3, cells := 0, slots := 0, locals := 61 } : Room) (gPc D G [.ref (G.1 b), .int (gI a1), .int (gI a2), .int (gI a3)] σ μ) (gQi D G r σ' μ) 0 0 (gA G) := by
  refine Met.ofW (cc := cX7_readNumber) (maxL := 5) (ret := (some (Jvm.ClassFile.FieldType.boolean))) (by decide) rfl ?_
  intro p e s m args below meth c s₁ B hml hv
  obtain ⟨rfl, hP, hX⟩ := hv
  have hx := B.exec
  have hb0 := B.bytes
  have hr := B.returns
  have hts0 := atoms_spec (ws := (gWs yX7_readNumber cX7_readNumber 5 (some (Jvm.ClassFile.FieldType.boolean)))) B.pre
  have hts : ∀ w ∈ gLW, w.before _ s = true := fun w hw => hts0 w (List.mem_cons_of_mem _ hw)
  have hown : s.vm.findClass RX7 = some m.cls := findClass_of_methodNamed B.named
  have hlocks := B.notSynchronized
  have hH : gH D G s s.heap [] σ μ := ⟨hP, va_S.rf⟩
  have hl := lv_entry ([.ref (G.1 b), .int (gI a1), .int (gI a2), .int (gI a3)]) (n := 5) (Nat.le_of_ble_eq_true rfl)
  rw [lg_entry_eq]
  generalize (lg_sl ([.ref (G.1 b), .int (gI a1), .int (gI a2), .int (gI a3)]) ++ List.replicate (5 - (lg_sl ([.ref (G.1 b), .int (gI a1), .int (gI a2), .int (gI a3)])).length) Slot.unset).toArray = ls at hl ⊢
  have hl : lv_has ls 5 [(0, .ref (G.1 b)), (1, .int (gI a1)), (2, .int (gI a2)), (3, .int (gI a3))] := hl
  unfold DX7_readNumber at h
  refine lv_aload_n hx hb0 dX7_readNumber_0 rfl (lv_at hl 0 rfl) ?_
  refine g_getI hx hb0 hts q_ws_X7 hown hX hH (C := RX7) (T := TX7) (N := 5) (k := b) (i := 2) hb.k rfl (by decide) (hts _ q_fl_X7_33) rfl rfl dX7_readNumber_1 ?_
  refine lv_istore (lv' := [(4, .int (gI (σ b 2))), (0, .ref (G.1 b)), (1, .int (gI a1)), (2, .int (gI a2)), (3, .int (gI a3))]) hx hb0 dX7_readNumber_4 hl (by decide) rfl (fun ls hl => ?_)
  refine lv_aload_n hx hb0 dX7_readNumber_6 rfl (lv_at hl 1 rfl) ?_
  refine lv_iconst (v := gI (0 : Int)) hx hb0 dX7_readNumber_7 (by decide) ?_
  refine g_putI hx hb0 hts q_ws_X7 tyX7 tyX7_ok nmX7 hown hX hH (C := RX7) (T := TX7) (N := 5) (k := b) (i := 4) hb.k rfl (by decide) (hts _ q_fl_X7_61) rfl rfl rfl rfl dX7_readNumber_8 (fun H locs hH => ?_)
  have hK61 : ∀ (σ61 : gSt) (H : Heap) (locs : List Loc) (ls : Array Slot), gH D G s H locs σ61 μ → lv_has ls 5 [(4, .int (gI (σ b 2))), (0, .ref (G.1 b)), (2, .int (gI a2)), (3, .int (gI a3))] → (DX7_readNumber_K61 b σ a2 a3 σ61) = some (r, σ') → W p l e (headSpec (gWs yX7_readNumber cX7_readNumber 5 (some (Jvm.ClassFile.FieldType.boolean))) ({ frames := 3, cells := 0, slots := 0, locals := 61 } : Room)).room s m ([.ref (G.1 b), .int (gI a1), .int (gI a2), .int (gI a3)] : List Value).toArray below meth c H locs 0 0 (MQ below (gQi D G r σ' μ) ([.ref (G.1 b), .int (gI a1), .int (gI a2), .int (gI a3)] : List Value).toArray s 0 0 (gA G)) (F0 m 61 ls []) := by
    intro σ61 H locs ls hH hl h
    unfold DX7_readNumber_K61 at h
    refine lv_aload_n hx hb0 dX7_readNumber_61 rfl (lv_at hl 1 rfl) ?_
    refine g_getI hx hb0 hts q_ws_X7 hown hX hH (C := RX7) (T := TX7) (N := 5) (k := b) (i := 2) hb.k rfl (by decide) (hts _ q_fl_X7_33) rfl rfl dX7_readNumber_62 ?_
    refine lv_iload hx hb0 dX7_readNumber_65 (lv_at hl 0 rfl) ?_
    have hJ77 : ∀  (H : Heap) (locs : List Loc) (ls : Array Slot), gH D G s H locs σ61 μ → lv_has ls 5 [(0, .ref (G.1 b))] → (DX7_readNumber_J77 b σ61) = some (r, σ') → W p l e (headSpec (gWs yX7_readNumber cX7_readNumber 5 (some (Jvm.ClassFile.FieldType.boolean))) ({ frames := 3, cells := 0, slots := 0, locals := 61 } : Room)).room s m ([.ref (G.1 b), .int (gI a1), .int (gI a2), .int (gI a3)] : List Value).toArray below meth c H locs 0 0 (MQ below (gQi D G r σ' μ) ([.ref (G.1 b), .int (gI a1), .int (gI a2), .int (gI a3)] : List Value).toArray s 0 0 (gA G)) (F0 m 77 ls []) := by
      intro H locs ls hH hl h
      unfold DX7_readNumber_J77 at h
      refine lv_aload_n hx hb0 dX7_readNumber_77 rfl (lv_at hl 0 rfl) ?_
      refine lv_aload_n hx hb0 dX7_readNumber_78 rfl (lv_at hl 0 rfl) ?_
      refine g_getI hx hb0 hts q_ws_X7 hown hX hH (C := RX7) (T := TX7) (N := 5) (k := b) (i := 2) hb.k rfl (by decide) (hts _ q_fl_X7_33) rfl rfl dX7_readNumber_79 ?_
      obtain ⟨q82, e82, h⟩ := gBind_some h
      refine g_callVi (k := b) (T := TX7) (N := 5) (As := [.int (gI (σ61 b 2))]) (rest := []) ⟨hx, hb0, hml, hown, hts⟩ (metX7_fail l D G b hb σ61 μ (σ61 b 2) q82.1 q82.2 e82) (g_cwV (C := RX7) 1 hts q_ml_X7_50 q_im_X7_fail q_se_X7_fail q_in_X7 q_co_X7_fail ⟨rfl, rfl⟩ (by decide +kernel) ⟨Nat.le_of_ble_eq_true rfl, Nat.le_of_ble_eq_true rfl⟩) hX hH hb.k rfl rfl hl.1 rfl (Nat.le_of_ble_eq_true rfl) dX7_readNumber_82 ⟨Nat.zero_le _, Nat.zero_le _⟩ (fun H locs hH => ?_)
      exact g_zretS hx hb0 hr hH hlocks dX7_readNumber_85 h
    refine g_icmp_eq (tgt := 77) hx hb0 dX7_readNumber_67 (by decide) h (fun h => ?_) (fun h => ?_)
    · exact hJ77  _ _ _ hH (lv_sub hl [1] rfl) h
    · refine lv_aload_n hx hb0 dX7_readNumber_70 rfl (lv_at hl 1 rfl) ?_
      obtain ⟨q71, e71, h⟩ := gBind_some h
      refine g_callVi (k := b) (T := TX7) (N := 5) (As := []) (rest := []) ⟨hx, hb0, hml, hown, hts⟩ (metX7_nextIsDigit l D G b hb σ61 μ q71 e71) (g_cwV (C := RX7) 0 hts q_ml_X7_79 q_im_X7_nextIsDigit q_se_X7_nextIsDigit q_in_X7 q_co_X7_nextIsDigit ⟨rfl, rfl⟩ (by decide +kernel) ⟨Nat.le_of_ble_eq_true rfl, Nat.le_of_ble_eq_true rfl⟩) hX hH hb.k rfl rfl hl.1 rfl (Nat.le_of_ble_eq_true rfl) dX7_readNumber_71 ⟨Nat.zero_le _, Nat.zero_le _⟩ (fun H locs hH => ?_)
      refine g_if_eq (tgt := 86) hx hb0 dX7_readNumber_74 (by decide) h (fun h => ?_) (fun h => ?_)
      · refine lv_aload_n hx hb0 dX7_readNumber_86 rfl (lv_at hl 1 rfl) ?_
        refine g_getI hx hb0 hts q_ws_X7 hown hX hH (C := RX7) (T := TX7) (N := 5) (k := b) (i := 4) hb.k rfl (by decide) (hts _ q_fl_X7_61) rfl rfl dX7_readNumber_87 ?_
        refine lv_iload_n hx hb0 dX7_readNumber_90 rfl (lv_at hl 2 rfl) ?_
        have hJ102 : ∀  (H : Heap) (locs : List Loc) (ls : Array Slot), gH D G s H locs σ61 μ → lv_has ls 5 [(4, .int (gI (σ b 2))), (0, .ref (G.1 b))] → (DX7_readNumber_J102 b σ σ61) = some (r, σ') → W p l e (headSpec (gWs yX7_readNumber cX7_readNumber 5 (some (Jvm.ClassFile.FieldType.boolean))) ({ frames := 3, cells := 0, slots := 0, locals := 61 } : Room)).room s m ([.ref (G.1 b), .int (gI a1), .int (gI a2), .int (gI a3)] : List Value).toArray below meth c H locs 0 0 (MQ below (gQi D G r σ' μ) ([.ref (G.1 b), .int (gI a1), .int (gI a2), .int (gI a3)] : List Value).toArray s 0 0 (gA G)) (F0 m 102 ls []) := by
          intro H locs ls hH hl h
          unfold DX7_readNumber_J102 at h
          refine lv_aload_n hx hb0 dX7_readNumber_102 rfl (lv_at hl 1 rfl) ?_
          refine lv_iload hx hb0 dX7_readNumber_103 (lv_at hl 0 rfl) ?_
          obtain ⟨q105, e105, h⟩ := gBind_some h
          refine g_callVi (k := b) (T := TX7) (N := 5) (As := [.int (gI (σ b 2))]) (rest := []) ⟨hx, hb0, hml, hown, hts⟩ (metX7_fail l D G b hb σ61 μ (σ b 2) q105.1 q105.2 e105) (g_cwV (C := RX7) 1 hts q_ml_X7_50 q_im_X7_fail q_se_X7_fail q_in_X7 q_co_X7_fail ⟨rfl, rfl⟩ (by decide +kernel) ⟨Nat.le_of_ble_eq_true rfl, Nat.le_of_ble_eq_true rfl⟩) hX hH hb.k rfl rfl hl.1 rfl (Nat.le_of_ble_eq_true rfl) dX7_readNumber_105 ⟨Nat.zero_le _, Nat.zero_le _⟩ (fun H locs hH => ?_)
          exact g_zretS hx hb0 hr hH hlocks dX7_readNumber_108 h
        refine g_icmp_lt (tgt := 102) hx hb0 dX7_readNumber_91 (by decide) h (fun h => ?_) (fun h => ?_)
        · exact hJ102  _ _ _ hH (lv_sub hl [0, 1] rfl) h
        · refine lv_aload_n hx hb0 dX7_readNumber_94 rfl (lv_at hl 1 rfl) ?_
          refine g_getI hx hb0 hts q_ws_X7 hown hX hH (C := RX7) (T := TX7) (N := 5) (k := b) (i := 4) hb.k rfl (by decide) (hts _ q_fl_X7_61) rfl rfl dX7_readNumber_95 ?_
          refine lv_iload_n hx hb0 dX7_readNumber_98 rfl (lv_at hl 3 rfl) ?_
          refine g_icmp_le (tgt := 109) hx hb0 dX7_readNumber_99 (by decide) h (fun h => ?_) (fun h => ?_)
          · refine lv_iconst (v := gI (1 : Int)) hx hb0 dX7_readNumber_109 (by decide) ?_
            exact g_zretS hx hb0 hr hH hlocks dX7_readNumber_110 h
          · exact hJ102  _ _ _ hH (lv_sub hl [0, 1] rfl) h
      · exact hJ77  _ _ _ hH (lv_sub hl [1] rfl) h
  have hL11 : ∀ (f11 : Nat) (σ11 : gSt) (H : Heap) (locs : List Loc) (ls : Array Slot), gH D G s H locs σ11 μ → lv_has ls 5 [(4, .int (gI (σ b 2))), (0, .ref (G.1 b)), (1, .int (gI a1)), (2, .int (gI a2)), (3, .int (gI a3))] → (DX7_readNumber_L11 (DX7_readNumber_K61 b σ a2 a3) b σ a1 f11 σ11) = some (r, σ') → W p l e (headSpec (gWs yX7_readNumber cX7_readNumber 5 (some (Jvm.ClassFile.FieldType.boolean))) ({ frames := 3, cells := 0, slots := 0, locals := 61 } : Room)).room s m ([.ref (G.1 b), .int (gI a1), .int (gI a2), .int (gI a3)] : List Value).toArray below meth c H locs 0 0 (MQ below (gQi D G r σ' μ) ([.ref (G.1 b), .int (gI a1), .int (gI a2), .int (gI a3)] : List Value).toArray s 0 0 (gA G)) (F0 m 11 ls []) := by
    intro f11
    induction f11 with
    | zero => intro σ11 H locs ls hH hl h; cases h
    | succ f11 ih11 =>
      intro σ11 H locs ls hH hl h
      unfold DX7_readNumber_L11 at h
      refine lv_aload_n hx hb0 dX7_readNumber_11 rfl (lv_at hl 1 rfl) ?_
      refine g_getI hx hb0 hts q_ws_X7 hown hX hH (C := RX7) (T := TX7) (N := 5) (k := b) (i := 2) hb.k rfl (by decide) (hts _ q_fl_X7_33) rfl rfl dX7_readNumber_12 ?_
      refine lv_iload hx hb0 dX7_readNumber_15 (lv_at hl 0 rfl) ?_
      refine lv_iload_n hx hb0 dX7_readNumber_17 rfl (lv_at hl 2 rfl) ?_
      refine g_iadd hx hb0 dX7_readNumber_18 ?_
      refine g_icmp_ge (tgt := 61) hx hb0 dX7_readNumber_19 (by decide) h (fun h => ?_) (fun h => ?_)
      · exact hK61 _ _ _ _ hH (lv_sub hl [0, 1, 3, 4] rfl) h
      · refine lv_aload_n hx hb0 dX7_readNumber_22 rfl (lv_at hl 1 rfl) ?_
        obtain ⟨q23, e23, h⟩ := gBind_some h
        refine g_callVi (k := b) (T := TX7) (N := 5) (As := []) (rest := []) ⟨hx, hb0, hml, hown, hts⟩ (metX7_nextIsDigit l D G b hb σ11 μ q23 e23) (g_cwV (C := RX7) 0 hts q_ml_X7_79 q_im_X7_nextIsDigit q_se_X7_nextIsDigit q_in_X7 q_co_X7_nextIsDigit ⟨rfl, rfl⟩ (by decide +kernel) ⟨Nat.le_of_ble_eq_true rfl, Nat.le_of_ble_eq_true rfl⟩) hX hH hb.k rfl rfl hl.1 rfl (Nat.le_of_ble_eq_true rfl) dX7_readNumber_23 ⟨Nat.zero_le _, Nat.zero_le _⟩ (fun H locs hH => ?_)
        refine g_if_eq (tgt := 61) hx hb0 dX7_readNumber_26 (by decide) h (fun h => ?_) (fun h => ?_)
        · exact hK61 _ _ _ _ hH (lv_sub hl [0, 1, 3, 4] rfl) h
        · refine lv_aload_n hx hb0 dX7_readNumber_29 rfl (lv_at hl 1 rfl) ?_
          refine lv_aload_n hx hb0 dX7_readNumber_30 rfl (lv_at hl 1 rfl) ?_
          refine g_getI hx hb0 hts q_ws_X7 hown hX hH (C := RX7) (T := TX7) (N := 5) (k := b) (i := 4) hb.k rfl (by decide) (hts _ q_fl_X7_61) rfl rfl dX7_readNumber_31 ?_
          refine lv_bipush (v := gI (10 : Int)) hx hb0 dX7_readNumber_34 (by decide) ?_
          refine g_imul hx hb0 dX7_readNumber_36 ?_
          refine lv_aload_n hx hb0 dX7_readNumber_37 rfl (lv_at hl 1 rfl) ?_
          obtain ⟨q38, e38, h⟩ := gBind_some h
          refine g_callVi (k := b) (T := TX7) (N := 5) (As := []) (rest := [.int (gI ((σ11 b 4) * (10 : Int))), .ref (G.1 b)]) ⟨hx, hb0, hml, hown, hts⟩ (metX7_next l D G b hb σ11 μ q38 e38) (g_cwV (C := RX7) 0 hts q_ml_X7_39 q_im_X7_next q_se_X7_next q_in_X7 q_co_X7_next ⟨rfl, rfl⟩ (by decide +kernel) ⟨Nat.le_of_ble_eq_true rfl, Nat.le_of_ble_eq_true rfl⟩) hX hH hb.k rfl rfl hl.1 rfl (Nat.le_of_ble_eq_true rfl) dX7_readNumber_38 ⟨Nat.zero_le _, Nat.zero_le _⟩ (fun H locs hH => ?_)
          refine g_iadd hx hb0 dX7_readNumber_41 ?_
          refine lv_bipush (v := gI (48 : Int)) hx hb0 dX7_readNumber_42 (by decide) ?_
          refine g_isub hx hb0 dX7_readNumber_44 ?_
          refine g_putI hx hb0 hts q_ws_X7 tyX7 tyX7_ok nmX7 hown hX hH (C := RX7) (T := TX7) (N := 5) (k := b) (i := 4) hb.k rfl (by decide) (hts _ q_fl_X7_61) rfl rfl rfl rfl dX7_readNumber_45 (fun H locs hH => ?_)
          refine lv_aload_n hx hb0 dX7_readNumber_48 rfl (lv_at hl 1 rfl) ?_
          refine lv_dup hx hb0 dX7_readNumber_49 rfl ?_
          refine g_getI hx hb0 hts q_ws_X7 hown hX hH (C := RX7) (T := TX7) (N := 5) (k := b) (i := 2) hb.k rfl (by decide) (hts _ q_fl_X7_33) rfl rfl dX7_readNumber_50 ?_
          refine lv_iconst (v := gI (1 : Int)) hx hb0 dX7_readNumber_53 (by decide) ?_
          refine g_iadd hx hb0 dX7_readNumber_54 ?_
          refine g_putI hx hb0 hts q_ws_X7 tyX7 tyX7_ok nmX7 hown hX hH (C := RX7) (T := TX7) (N := 5) (k := b) (i := 2) hb.k rfl (by decide) (hts _ q_fl_X7_33) rfl rfl rfl rfl dX7_readNumber_55 (fun H locs hH => ?_)
          refine lv_goto (tgt := 11) hx hb0 dX7_readNumber_58 (by decide) ?_
          exact ih11 _ _ _ _ hH (lv_sub hl [0, 1, 2, 3, 4] rfl) h
  exact hL11 gFuel _ _ _ _ hH (lv_sub hl [0, 1, 2, 3, 4] rfl) h
def DX7_readTask_J28 (b : Nat) (σ : gSt) : Option (Int × gSt) :=
  (DX7_fail b (gUp σ b 2 ((σ b 2) + (1 : Int))) ((gUp σ b 2 ((σ b 2) + (1 : Int))) b 2)).bind fun q33 => gBo q33.1 (some (q33.1, q33.2))
def DX7_readTask (b : Nat) (p1 : Nat) (σ : gSt) : Option (Int × gSt) :=
  (DX7_next b (gUp σ b 2 ((σ b 2) + (1 : Int)))).bind fun q11 => gIf ((q11 - (48 : Int)) < (0 : Int)) (q11 - (48 : Int)) (0 : Int) ((DX7_readTask_J28 b σ)) (gIf ((q11 - (48 : Int)) < (6 : Int)) (q11 - (48 : Int)) (6 : Int) ((DX7_readSign b (gUp (gUp σ b 2 ((σ b 2) + (1 : Int))) b 2 (((gUp σ b 2 ((σ b 2) + (1 : Int))) b 2) + (1 : Int))) (44 : Int)).bind fun q50 => gIf (q50.1 = (0 : Int)) q50.1 (0 : Int) (gBo (0 : Int) (some ((0 : Int), q50.2))) ((DX7_readNumber b q50.2 (3 : Int) (0 : Int) (199 : Int)).bind fun q62 => gIf (q62.1 = (0 : Int)) q62.1 (0 : Int) (gBo (0 : Int) (some ((0 : Int), q62.2))) ((DX7_readSign b q62.2 (44 : Int)).bind fun q78 => gIf (q78.1 = (0 : Int)) q78.1 (0 : Int) (gBo (0 : Int) (some ((0 : Int), q78.2))) ((DX7_readNumber b q78.2 (2 : Int) (1 : Int) (60 : Int)).bind fun q89 => gIf (q89.1 = (0 : Int)) q89.1 (0 : Int) (gBo (0 : Int) (some ((0 : Int), q89.2))) ((DX7_readSign b q89.2 (59 : Int)).bind fun q98 => gIf (q98.1 = (0 : Int)) q98.1 (0 : Int) (gBo (0 : Int) (some ((0 : Int), q98.2))) ((DX5_tellTask p1 q98.2 (q11 - (48 : Int)) (q62.2 b 4) (q98.2 b 4)).bind fun q113 => gBo (1 : Int) (some ((1 : Int), q113.2)))))))) ((DX7_readTask_J28 b σ)))
set_option maxHeartbeats 4000000 in
set_option maxRecDepth 100000 in
theorem metX7_readTask (l : Launch) (D : va_G) (G : gAd) (b : Nat) (p1 : Nat) (hb : gText b) (hp1 : gPlan p1) (σ : gSt) (μ : gLg) (r : Int) (σ' : gSt) (h : DX7_readTask b p1 σ = some (r, σ')) : Met l yX7_readTask (gWs yX7_readTask cX7_readTask 4 (some (Jvm.ClassFile.FieldType.boolean))) ({ frames := 4, cells := 0, slots := 0, locals := 85 } : Room) (gPc D G [.ref (G.1 b), .ref (G.1 p1)] σ μ) (gQi D G r σ' μ) 0 0 (gA G) := by
  refine Met.ofW (cc := cX7_readTask) (maxL := 4) (ret := (some (Jvm.ClassFile.FieldType.boolean))) (by decide) rfl ?_
  intro p e s m args below meth c s₁ B hml hv
  obtain ⟨rfl, hP, hX⟩ := hv
  have hx := B.exec
  have hb0 := B.bytes
  have hr := B.returns
  have hts0 := atoms_spec (ws := (gWs yX7_readTask cX7_readTask 4 (some (Jvm.ClassFile.FieldType.boolean)))) B.pre
  have hts : ∀ w ∈ gLW, w.before _ s = true := fun w hw => hts0 w (List.mem_cons_of_mem _ hw)
  have hown : s.vm.findClass RX7 = some m.cls := findClass_of_methodNamed B.named
  have hlocks := B.notSynchronized
  have hH : gH D G s s.heap [] σ μ := ⟨hP, va_S.rf⟩
  have hl := lv_entry ([.ref (G.1 b), .ref (G.1 p1)]) (n := 4) (Nat.le_of_ble_eq_true rfl)
  rw [lg_entry_eq]
  generalize (lg_sl ([.ref (G.1 b), .ref (G.1 p1)]) ++ List.replicate (4 - (lg_sl ([.ref (G.1 b), .ref (G.1 p1)])).length) Slot.unset).toArray = ls at hl ⊢
  have hl : lv_has ls 4 [(0, .ref (G.1 b)), (1, .ref (G.1 p1))] := hl
  unfold DX7_readTask at h
  refine lv_aload_n hx hb0 dX7_readTask_0 rfl (lv_at hl 0 rfl) ?_
  refine lv_dup hx hb0 dX7_readTask_1 rfl ?_
  refine g_getI hx hb0 hts q_ws_X7 hown hX hH (C := RX7) (T := TX7) (N := 5) (k := b) (i := 2) hb.k rfl (by decide) (hts _ q_fl_X7_33) rfl rfl dX7_readTask_2 ?_
  refine lv_iconst (v := gI (1 : Int)) hx hb0 dX7_readTask_5 (by decide) ?_
  refine g_iadd hx hb0 dX7_readTask_6 ?_
  refine g_putI hx hb0 hts q_ws_X7 tyX7 tyX7_ok nmX7 hown hX hH (C := RX7) (T := TX7) (N := 5) (k := b) (i := 2) hb.k rfl (by decide) (hts _ q_fl_X7_33) rfl rfl rfl rfl dX7_readTask_7 (fun H locs hH => ?_)
  refine lv_aload_n hx hb0 dX7_readTask_10 rfl (lv_at hl 0 rfl) ?_
  obtain ⟨q11, e11, h⟩ := gBind_some h
  refine g_callVi (k := b) (T := TX7) (N := 5) (As := []) (rest := []) ⟨hx, hb0, hml, hown, hts⟩ (metX7_next l D G b hb (gUp σ b 2 ((σ b 2) + (1 : Int))) μ q11 e11) (g_cwV (C := RX7) 0 hts q_ml_X7_39 q_im_X7_next q_se_X7_next q_in_X7 q_co_X7_next ⟨rfl, rfl⟩ (by decide +kernel) ⟨Nat.le_of_ble_eq_true rfl, Nat.le_of_ble_eq_true rfl⟩) hX hH hb.k rfl rfl hl.1 rfl (Nat.le_of_ble_eq_true rfl) dX7_readTask_11 ⟨Nat.zero_le _, Nat.zero_le _⟩ (fun H locs hH => ?_)
  refine lv_bipush (v := gI (48 : Int)) hx hb0 dX7_readTask_14 (by decide) ?_
  refine g_isub hx hb0 dX7_readTask_16 ?_
  refine lv_istore_n (lv' := [(2, .int (gI (q11 - (48 : Int)))), (0, .ref (G.1 b)), (1, .ref (G.1 p1))]) hx hb0 dX7_readTask_17 rfl hl (by decide) rfl (fun ls hl => ?_)
  refine lv_iload_n hx hb0 dX7_readTask_18 rfl (lv_at hl 0 rfl) ?_
  have hJ28 : ∀  (H : Heap) (locs : List Loc) (ls : Array Slot), gH D G s H locs (gUp σ b 2 ((σ b 2) + (1 : Int))) μ → lv_has ls 4 [(0, .ref (G.1 b))] → (DX7_readTask_J28 b σ) = some (r, σ') → W p l e (headSpec (gWs yX7_readTask cX7_readTask 4 (some (Jvm.ClassFile.FieldType.boolean))) ({ frames := 4, cells := 0, slots := 0, locals := 85 } : Room)).room s m ([.ref (G.1 b), .ref (G.1 p1)] : List Value).toArray below meth c H locs 0 0 (MQ below (gQi D G r σ' μ) ([.ref (G.1 b), .ref (G.1 p1)] : List Value).toArray s 0 0 (gA G)) (F0 m 28 ls []) := by
    intro H locs ls hH hl h
    unfold DX7_readTask_J28 at h
    refine lv_aload_n hx hb0 dX7_readTask_28 rfl (lv_at hl 0 rfl) ?_
    refine lv_aload_n hx hb0 dX7_readTask_29 rfl (lv_at hl 0 rfl) ?_
    refine g_getI hx hb0 hts q_ws_X7 hown hX hH (C := RX7) (T := TX7) (N := 5) (k := b) (i := 2) hb.k rfl (by decide) (hts _ q_fl_X7_33) rfl rfl dX7_readTask_30 ?_
    obtain ⟨q33, e33, h⟩ := gBind_some h
    refine g_callVi (k := b) (T := TX7) (N := 5) (As := [.int (gI ((gUp σ b 2 ((σ b 2) + (1 : Int))) b 2))]) (rest := []) ⟨hx, hb0, hml, hown, hts⟩ (metX7_fail l D G b hb (gUp σ b 2 ((σ b 2) + (1 : Int))) μ ((gUp σ b 2 ((σ b 2) + (1 : Int))) b 2) q33.1 q33.2 e33) (g_cwV (C := RX7) 1 hts q_ml_X7_50 q_im_X7_fail q_se_X7_fail q_in_X7 q_co_X7_fail ⟨rfl, rfl⟩ (by decide +kernel) ⟨Nat.le_of_ble_eq_true rfl, Nat.le_of_ble_eq_true rfl⟩) hX hH hb.k rfl rfl hl.1 rfl (Nat.le_of_ble_eq_true rfl) dX7_readTask_33 ⟨Nat.zero_le _, Nat.zero_le _⟩ (fun H locs hH => ?_)
    exact g_zretS hx hb0 hr hH hlocks dX7_readTask_36 h
  refine g_if_lt (tgt := 28) hx hb0 dX7_readTask_19 (by decide) h (fun h => ?_) (fun h => ?_)
  · exact hJ28  _ _ _ hH (lv_sub hl [1] rfl) h
  · refine lv_iload_n hx hb0 dX7_readTask_22 rfl (lv_at hl 0 rfl) ?_
    refine lv_bipush (v := gI (6 : Int)) hx hb0 dX7_readTask_23 (by decide) ?_
    refine g_icmp_lt (tgt := 37) hx hb0 dX7_readTask_25 (by decide) h (fun h => ?_) (fun h => ?_)
    · refine lv_aload_n hx hb0 dX7_readTask_37 rfl (lv_at hl 1 rfl) ?_
      refine lv_dup hx hb0 dX7_readTask_38 rfl ?_
      refine g_getI hx hb0 hts q_ws_X7 hown hX hH (C := RX7) (T := TX7) (N := 5) (k := b) (i := 2) hb.k rfl (by decide) (hts _ q_fl_X7_33) rfl rfl dX7_readTask_39 ?_
      refine lv_iconst (v := gI (1 : Int)) hx hb0 dX7_readTask_42 (by decide) ?_
      refine g_iadd hx hb0 dX7_readTask_43 ?_
      refine g_putI hx hb0 hts q_ws_X7 tyX7 tyX7_ok nmX7 hown hX hH (C := RX7) (T := TX7) (N := 5) (k := b) (i := 2) hb.k rfl (by decide) (hts _ q_fl_X7_33) rfl rfl rfl rfl dX7_readTask_44 (fun H locs hH => ?_)
      refine lv_aload_n hx hb0 dX7_readTask_47 rfl (lv_at hl 1 rfl) ?_
      refine lv_bipush (v := gI (44 : Int)) hx hb0 dX7_readTask_48 (by decide) ?_
      obtain ⟨q50, e50, h⟩ := gBind_some h
      refine g_callVi (k := b) (T := TX7) (N := 5) (As := [.int (gI (44 : Int))]) (rest := []) ⟨hx, hb0, hml, hown, hts⟩ (metX7_readSign l D G b hb (gUp (gUp σ b 2 ((σ b 2) + (1 : Int))) b 2 (((gUp σ b 2 ((σ b 2) + (1 : Int))) b 2) + (1 : Int))) μ (44 : Int) q50.1 q50.2 e50) (g_cwV (C := RX7) 1 hts q_ml_X7_54 q_im_X7_readSign q_se_X7_readSign q_in_X7 q_co_X7_readSign ⟨rfl, rfl⟩ (by decide +kernel) ⟨Nat.le_of_ble_eq_true rfl, Nat.le_of_ble_eq_true rfl⟩) hX hH hb.k rfl rfl hl.1 rfl (Nat.le_of_ble_eq_true rfl) dX7_readTask_50 ⟨Nat.zero_le _, Nat.zero_le _⟩ (fun H locs hH => ?_)
      refine g_if_eq (tgt := 68) hx hb0 dX7_readTask_53 (by decide) h (fun h => ?_) (fun h => ?_)
      · refine lv_iconst (v := gI (0 : Int)) hx hb0 dX7_readTask_68 (by decide) ?_
        exact g_zretS hx hb0 hr hH hlocks dX7_readTask_69 h
      · refine lv_aload_n hx hb0 dX7_readTask_56 rfl (lv_at hl 1 rfl) ?_
        refine lv_iconst (v := gI (3 : Int)) hx hb0 dX7_readTask_57 (by decide) ?_
        refine lv_iconst (v := gI (0 : Int)) hx hb0 dX7_readTask_58 (by decide) ?_
        refine lv_sipush (v := gI (199 : Int)) hx hb0 dX7_readTask_59 (by decide) ?_
        obtain ⟨q62, e62, h⟩ := gBind_some h
        refine g_callVi (k := b) (T := TX7) (N := 5) (As := [.int (gI (3 : Int)), .int (gI (0 : Int)), .int (gI (199 : Int))]) (rest := []) ⟨hx, hb0, hml, hown, hts⟩ (metX7_readNumber l D G b hb q50.2 μ (3 : Int) (0 : Int) (199 : Int) q62.1 q62.2 e62) (g_cwV (C := RX7) 3 hts q_ml_X7_57 q_im_X7_readNumber q_se_X7_readNumber q_in_X7 q_co_X7_readNumber ⟨rfl, rfl⟩ (by decide +kernel) ⟨Nat.le_of_ble_eq_true rfl, Nat.le_of_ble_eq_true rfl⟩) hX hH hb.k rfl rfl hl.1 rfl (Nat.le_of_ble_eq_true rfl) dX7_readTask_62 ⟨Nat.zero_le _, Nat.zero_le _⟩ (fun H locs hH => ?_)
        refine g_if_ne (tgt := 70) hx hb0 dX7_readTask_65 (by decide) h (fun h => ?_) (fun h => ?_)
        · refine lv_aload_n hx hb0 dX7_readTask_70 rfl (lv_at hl 1 rfl) ?_
          refine g_getI hx hb0 hts q_ws_X7 hown hX hH (C := RX7) (T := TX7) (N := 5) (k := b) (i := 4) hb.k rfl (by decide) (hts _ q_fl_X7_61) rfl rfl dX7_readTask_71 ?_
          refine lv_istore_n (lv' := [(3, .int (gI (q62.2 b 4))), (2, .int (gI (q11 - (48 : Int)))), (0, .ref (G.1 b)), (1, .ref (G.1 p1))]) hx hb0 dX7_readTask_74 rfl hl (by decide) rfl (fun ls hl => ?_)
          refine lv_aload_n hx hb0 dX7_readTask_75 rfl (lv_at hl 2 rfl) ?_
          refine lv_bipush (v := gI (44 : Int)) hx hb0 dX7_readTask_76 (by decide) ?_
          obtain ⟨q78, e78, h⟩ := gBind_some h
          refine g_callVi (k := b) (T := TX7) (N := 5) (As := [.int (gI (44 : Int))]) (rest := []) ⟨hx, hb0, hml, hown, hts⟩ (metX7_readSign l D G b hb q62.2 μ (44 : Int) q78.1 q78.2 e78) (g_cwV (C := RX7) 1 hts q_ml_X7_54 q_im_X7_readSign q_se_X7_readSign q_in_X7 q_co_X7_readSign ⟨rfl, rfl⟩ (by decide +kernel) ⟨Nat.le_of_ble_eq_true rfl, Nat.le_of_ble_eq_true rfl⟩) hX hH hb.k rfl rfl hl.1 rfl (Nat.le_of_ble_eq_true rfl) dX7_readTask_78 ⟨Nat.zero_le _, Nat.zero_le _⟩ (fun H locs hH => ?_)
          refine g_if_eq (tgt := 104) hx hb0 dX7_readTask_81 (by decide) h (fun h => ?_) (fun h => ?_)
          · refine lv_iconst (v := gI (0 : Int)) hx hb0 dX7_readTask_104 (by decide) ?_
            exact g_zretS hx hb0 hr hH hlocks dX7_readTask_105 h
          · refine lv_aload_n hx hb0 dX7_readTask_84 rfl (lv_at hl 2 rfl) ?_
            refine lv_iconst (v := gI (2 : Int)) hx hb0 dX7_readTask_85 (by decide) ?_
            refine lv_iconst (v := gI (1 : Int)) hx hb0 dX7_readTask_86 (by decide) ?_
            refine lv_bipush (v := gI (60 : Int)) hx hb0 dX7_readTask_87 (by decide) ?_
            obtain ⟨q89, e89, h⟩ := gBind_some h
            refine g_callVi (k := b) (T := TX7) (N := 5) (As := [.int (gI (2 : Int)), .int (gI (1 : Int)), .int (gI (60 : Int))]) (rest := []) ⟨hx, hb0, hml, hown, hts⟩ (metX7_readNumber l D G b hb q78.2 μ (2 : Int) (1 : Int) (60 : Int) q89.1 q89.2 e89) (g_cwV (C := RX7) 3 hts q_ml_X7_57 q_im_X7_readNumber q_se_X7_readNumber q_in_X7 q_co_X7_readNumber ⟨rfl, rfl⟩ (by decide +kernel) ⟨Nat.le_of_ble_eq_true rfl, Nat.le_of_ble_eq_true rfl⟩) hX hH hb.k rfl rfl hl.1 rfl (Nat.le_of_ble_eq_true rfl) dX7_readTask_89 ⟨Nat.zero_le _, Nat.zero_le _⟩ (fun H locs hH => ?_)
            refine g_if_eq (tgt := 104) hx hb0 dX7_readTask_92 (by decide) h (fun h => ?_) (fun h => ?_)
            · refine lv_iconst (v := gI (0 : Int)) hx hb0 dX7_readTask_104 (by decide) ?_
              exact g_zretS hx hb0 hr hH hlocks dX7_readTask_105 h
            · refine lv_aload_n hx hb0 dX7_readTask_95 rfl (lv_at hl 2 rfl) ?_
              refine lv_bipush (v := gI (59 : Int)) hx hb0 dX7_readTask_96 (by decide) ?_
              obtain ⟨q98, e98, h⟩ := gBind_some h
              refine g_callVi (k := b) (T := TX7) (N := 5) (As := [.int (gI (59 : Int))]) (rest := []) ⟨hx, hb0, hml, hown, hts⟩ (metX7_readSign l D G b hb q89.2 μ (59 : Int) q98.1 q98.2 e98) (g_cwV (C := RX7) 1 hts q_ml_X7_54 q_im_X7_readSign q_se_X7_readSign q_in_X7 q_co_X7_readSign ⟨rfl, rfl⟩ (by decide +kernel) ⟨Nat.le_of_ble_eq_true rfl, Nat.le_of_ble_eq_true rfl⟩) hX hH hb.k rfl rfl hl.1 rfl (Nat.le_of_ble_eq_true rfl) dX7_readTask_98 ⟨Nat.zero_le _, Nat.zero_le _⟩ (fun H locs hH => ?_)
              refine g_if_ne (tgt := 106) hx hb0 dX7_readTask_101 (by decide) h (fun h => ?_) (fun h => ?_)
              · refine lv_aload_n hx hb0 dX7_readTask_106 rfl (lv_at hl 3 rfl) ?_
                refine lv_iload_n hx hb0 dX7_readTask_107 rfl (lv_at hl 1 rfl) ?_
                refine lv_iload_n hx hb0 dX7_readTask_108 rfl (lv_at hl 0 rfl) ?_
                refine lv_aload_n hx hb0 dX7_readTask_109 rfl (lv_at hl 2 rfl) ?_
                refine g_getI hx hb0 hts q_ws_X7 hown hX hH (C := RX7) (T := TX7) (N := 5) (k := b) (i := 4) hb.k rfl (by decide) (hts _ q_fl_X7_61) rfl rfl dX7_readTask_110 ?_
                obtain ⟨q113, e113, h⟩ := gBind_some h
                refine g_callVi (k := p1) (T := TX5) (N := 8) (As := [.int (gI (q11 - (48 : Int))), .int (gI (q62.2 b 4)), .int (gI (q98.2 b 4))]) (rest := []) ⟨hx, hb0, hml, hown, hts⟩ (metX5_tellTask l D G p1 hp1 q98.2 μ (q11 - (48 : Int)) (q62.2 b 4) (q98.2 b 4) q113.1 q113.2 e113) (g_cwV (C := RX5) 3 hts q_ml_X7_64 q_im_X5_tellTask q_se_X5_tellTask q_in_X5 q_co_X5_tellTask ⟨rfl, rfl⟩ (by decide +kernel) ⟨Nat.le_of_ble_eq_true rfl, Nat.le_of_ble_eq_true rfl⟩) hX hH hp1.k rfl rfl hl.1 rfl (Nat.le_of_ble_eq_true rfl) dX7_readTask_113 ⟨Nat.zero_le _, Nat.zero_le _⟩ (fun H locs hH => ?_)
                refine lv_pop hx hb0 dX7_readTask_116 rfl ?_
                refine lv_iconst (v := gI (1 : Int)) hx hb0 dX7_readTask_117 (by decide) ?_
                exact g_zretS hx hb0 hr hH hlocks dX7_readTask_118 h
              · refine lv_iconst (v := gI (0 : Int)) hx hb0 dX7_readTask_104 (by decide) ?_
                exact g_zretS hx hb0 hr hH hlocks dX7_readTask_105 h
        · refine lv_iconst (v := gI (0 : Int)) hx hb0 dX7_readTask_68 (by decide) ?_
          exact g_zretS hx hb0 hr hH hlocks dX7_readTask_69 h
    · exact hJ28  _ _ _ hH (lv_sub hl [1] rfl) h
def DX7_readArrow (b : Nat) (p1 : Nat) (σ : gSt) : Option (Int × gSt) :=
  (DX7_readSign b σ (97 : Int)).bind fun q3 => gIf (q3.1 = (0 : Int)) q3.1 (0 : Int) (gBo (0 : Int) (some ((0 : Int), q3.2))) ((DX5_taskCount p1 q3.2).bind fun q13 => (DX7_readNumber b q3.2 (2 : Int) (0 : Int) (q13 - (1 : Int))).bind fun q18 => gIf (q18.1 = (0 : Int)) q18.1 (0 : Int) (gBo (0 : Int) (some ((0 : Int), q18.2))) ((DX7_readSign b q18.2 (44 : Int)).bind fun q34 => gIf (q34.1 = (0 : Int)) q34.1 (0 : Int) (gBo (0 : Int) (some ((0 : Int), q34.2))) ((DX5_taskCount p1 q34.2).bind fun q51 => (DX7_readNumber b q34.2 (2 : Int) (0 : Int) (q51 - (1 : Int))).bind fun q56 => gIf (q56.1 = (0 : Int)) q56.1 (0 : Int) (gBo (0 : Int) (some ((0 : Int), q56.2))) (gIf ((q56.2 b 4) = (q18.2 b 4)) (q56.2 b 4) (q18.2 b 4) ((DX7_fail b q56.2 (q34.2 b 2)).bind fun q74 => gBo q74.1 (some (q74.1, q74.2))) ((DX7_readSign b q56.2 (59 : Int)).bind fun q81 => gIf (q81.1 = (0 : Int)) q81.1 (0 : Int) (gBo (0 : Int) (some ((0 : Int), q81.2))) ((DX5_hasArrowBetween p1 q81.2 (q18.2 b 4) (q81.2 b 4)).bind fun q95 => gIf (q95 = (0 : Int)) q95 (0 : Int) ((DX5_tellArrow p1 q81.2 (q18.2 b 4) (q81.2 b 4)).bind fun q107 => gBo (1 : Int) (some ((1 : Int), q107.2))) (gBo (1 : Int) (some ((1 : Int), q81.2)))))))))
set_option maxHeartbeats 4000000 in
set_option maxRecDepth 100000 in
theorem metX7_readArrow (l : Launch) (D : va_G) (G : gAd) (b : Nat) (p1 : Nat) (hb : gText b) (hp1 : gPlan p1) (σ : gSt) (μ : gLg) (r : Int) (σ' : gSt) (h : DX7_readArrow b p1 σ = some (r, σ')) : Met l yX7_readArrow (gWs yX7_readArrow cX7_readArrow 4 (some (Jvm.ClassFile.FieldType.boolean))) ({ frames := 4, cells := 0, slots := 0, locals := 85 } : Room) (gPc D G [.ref (G.1 b), .ref (G.1 p1)] σ μ) (gQi D G r σ' μ) 0 0 (gA G) := by
  refine Met.ofW (cc := cX7_readArrow) (maxL := 4) (ret := (some (Jvm.ClassFile.FieldType.boolean))) (by decide) rfl ?_
  intro p e s m args below meth c s₁ B hml hv
  obtain ⟨rfl, hP, hX⟩ := hv
  have hx := B.exec
  have hb0 := B.bytes
  have hr := B.returns
  have hts0 := atoms_spec (ws := (gWs yX7_readArrow cX7_readArrow 4 (some (Jvm.ClassFile.FieldType.boolean)))) B.pre
  have hts : ∀ w ∈ gLW, w.before _ s = true := fun w hw => hts0 w (List.mem_cons_of_mem _ hw)
  have hown : s.vm.findClass RX7 = some m.cls := findClass_of_methodNamed B.named
  have hlocks := B.notSynchronized
  have hH : gH D G s s.heap [] σ μ := ⟨hP, va_S.rf⟩
  have hl := lv_entry ([.ref (G.1 b), .ref (G.1 p1)]) (n := 4) (Nat.le_of_ble_eq_true rfl)
  rw [lg_entry_eq]
  generalize (lg_sl ([.ref (G.1 b), .ref (G.1 p1)]) ++ List.replicate (4 - (lg_sl ([.ref (G.1 b), .ref (G.1 p1)])).length) Slot.unset).toArray = ls at hl ⊢
  have hl : lv_has ls 4 [(0, .ref (G.1 b)), (1, .ref (G.1 p1))] := hl
  unfold DX7_readArrow at h
  refine lv_aload_n hx hb0 dX7_readArrow_0 rfl (lv_at hl 0 rfl) ?_
  refine lv_bipush (v := gI (97 : Int)) hx hb0 dX7_readArrow_1 (by decide) ?_
  obtain ⟨q3, e3, h⟩ := gBind_some h
  refine g_callVi (k := b) (T := TX7) (N := 5) (As := [.int (gI (97 : Int))]) (rest := []) ⟨hx, hb0, hml, hown, hts⟩ (metX7_readSign l D G b hb σ μ (97 : Int) q3.1 q3.2 e3) (g_cwV (C := RX7) 1 hts q_ml_X7_54 q_im_X7_readSign q_se_X7_readSign q_in_X7 q_co_X7_readSign ⟨rfl, rfl⟩ (by decide +kernel) ⟨Nat.le_of_ble_eq_true rfl, Nat.le_of_ble_eq_true rfl⟩) hX hH hb.k rfl rfl hl.1 rfl (Nat.le_of_ble_eq_true rfl) dX7_readArrow_3 ⟨Nat.zero_le _, Nat.zero_le _⟩ (fun H locs hH => ?_)
  refine g_if_eq (tgt := 24) hx hb0 dX7_readArrow_6 (by decide) h (fun h => ?_) (fun h => ?_)
  · refine lv_iconst (v := gI (0 : Int)) hx hb0 dX7_readArrow_24 (by decide) ?_
    exact g_zretS hx hb0 hr hH hlocks dX7_readArrow_25 h
  · refine lv_aload_n hx hb0 dX7_readArrow_9 rfl (lv_at hl 0 rfl) ?_
    refine lv_iconst (v := gI (2 : Int)) hx hb0 dX7_readArrow_10 (by decide) ?_
    refine lv_iconst (v := gI (0 : Int)) hx hb0 dX7_readArrow_11 (by decide) ?_
    refine lv_aload_n hx hb0 dX7_readArrow_12 rfl (lv_at hl 1 rfl) ?_
    obtain ⟨q13, e13, h⟩ := gBind_some h
    refine g_callVi (k := p1) (T := TX5) (N := 8) (As := []) (rest := [.int (gI (0 : Int)), .int (gI (2 : Int)), .ref (G.1 b)]) ⟨hx, hb0, hml, hown, hts⟩ (metX5_taskCount l D G p1 hp1 q3.2 μ q13 e13) (g_cwV (C := RX5) 0 hts q_ml_X7_68 q_im_X5_taskCount q_se_X5_taskCount q_in_X5 q_co_X5_taskCount ⟨rfl, rfl⟩ (by decide +kernel) ⟨Nat.le_of_ble_eq_true rfl, Nat.le_of_ble_eq_true rfl⟩) hX hH hp1.k rfl rfl hl.1 rfl (Nat.le_of_ble_eq_true rfl) dX7_readArrow_13 ⟨Nat.zero_le _, Nat.zero_le _⟩ (fun H locs hH => ?_)
    refine lv_iconst (v := gI (1 : Int)) hx hb0 dX7_readArrow_16 (by decide) ?_
    refine g_isub hx hb0 dX7_readArrow_17 ?_
    obtain ⟨q18, e18, h⟩ := gBind_some h
    refine g_callVi (k := b) (T := TX7) (N := 5) (As := [.int (gI (2 : Int)), .int (gI (0 : Int)), .int (gI (q13 - (1 : Int)))]) (rest := []) ⟨hx, hb0, hml, hown, hts⟩ (metX7_readNumber l D G b hb q3.2 μ (2 : Int) (0 : Int) (q13 - (1 : Int)) q18.1 q18.2 e18) (g_cwV (C := RX7) 3 hts q_ml_X7_57 q_im_X7_readNumber q_se_X7_readNumber q_in_X7 q_co_X7_readNumber ⟨rfl, rfl⟩ (by decide +kernel) ⟨Nat.le_of_ble_eq_true rfl, Nat.le_of_ble_eq_true rfl⟩) hX hH hb.k rfl rfl hl.1 rfl (Nat.le_of_ble_eq_true rfl) dX7_readArrow_18 ⟨Nat.zero_le _, Nat.zero_le _⟩ (fun H locs hH => ?_)
    refine g_if_ne (tgt := 26) hx hb0 dX7_readArrow_21 (by decide) h (fun h => ?_) (fun h => ?_)
    · refine lv_aload_n hx hb0 dX7_readArrow_26 rfl (lv_at hl 0 rfl) ?_
      refine g_getI hx hb0 hts q_ws_X7 hown hX hH (C := RX7) (T := TX7) (N := 5) (k := b) (i := 4) hb.k rfl (by decide) (hts _ q_fl_X7_61) rfl rfl dX7_readArrow_27 ?_
      refine lv_istore_n (lv' := [(2, .int (gI (q18.2 b 4))), (0, .ref (G.1 b)), (1, .ref (G.1 p1))]) hx hb0 dX7_readArrow_30 rfl hl (by decide) rfl (fun ls hl => ?_)
      refine lv_aload_n hx hb0 dX7_readArrow_31 rfl (lv_at hl 1 rfl) ?_
      refine lv_bipush (v := gI (44 : Int)) hx hb0 dX7_readArrow_32 (by decide) ?_
      obtain ⟨q34, e34, h⟩ := gBind_some h
      refine g_callVi (k := b) (T := TX7) (N := 5) (As := [.int (gI (44 : Int))]) (rest := []) ⟨hx, hb0, hml, hown, hts⟩ (metX7_readSign l D G b hb q18.2 μ (44 : Int) q34.1 q34.2 e34) (g_cwV (C := RX7) 1 hts q_ml_X7_54 q_im_X7_readSign q_se_X7_readSign q_in_X7 q_co_X7_readSign ⟨rfl, rfl⟩ (by decide +kernel) ⟨Nat.le_of_ble_eq_true rfl, Nat.le_of_ble_eq_true rfl⟩) hX hH hb.k rfl rfl hl.1 rfl (Nat.le_of_ble_eq_true rfl) dX7_readArrow_34 ⟨Nat.zero_le _, Nat.zero_le _⟩ (fun H locs hH => ?_)
      refine g_if_ne (tgt := 42) hx hb0 dX7_readArrow_37 (by decide) h (fun h => ?_) (fun h => ?_)
      · refine lv_aload_n hx hb0 dX7_readArrow_42 rfl (lv_at hl 1 rfl) ?_
        refine g_getI hx hb0 hts q_ws_X7 hown hX hH (C := RX7) (T := TX7) (N := 5) (k := b) (i := 2) hb.k rfl (by decide) (hts _ q_fl_X7_33) rfl rfl dX7_readArrow_43 ?_
        refine lv_istore_n (lv' := [(3, .int (gI (q34.2 b 2))), (2, .int (gI (q18.2 b 4))), (0, .ref (G.1 b)), (1, .ref (G.1 p1))]) hx hb0 dX7_readArrow_46 rfl hl (by decide) rfl (fun ls hl => ?_)
        refine lv_aload_n hx hb0 dX7_readArrow_47 rfl (lv_at hl 2 rfl) ?_
        refine lv_iconst (v := gI (2 : Int)) hx hb0 dX7_readArrow_48 (by decide) ?_
        refine lv_iconst (v := gI (0 : Int)) hx hb0 dX7_readArrow_49 (by decide) ?_
        refine lv_aload_n hx hb0 dX7_readArrow_50 rfl (lv_at hl 3 rfl) ?_
        obtain ⟨q51, e51, h⟩ := gBind_some h
        refine g_callVi (k := p1) (T := TX5) (N := 8) (As := []) (rest := [.int (gI (0 : Int)), .int (gI (2 : Int)), .ref (G.1 b)]) ⟨hx, hb0, hml, hown, hts⟩ (metX5_taskCount l D G p1 hp1 q34.2 μ q51 e51) (g_cwV (C := RX5) 0 hts q_ml_X7_68 q_im_X5_taskCount q_se_X5_taskCount q_in_X5 q_co_X5_taskCount ⟨rfl, rfl⟩ (by decide +kernel) ⟨Nat.le_of_ble_eq_true rfl, Nat.le_of_ble_eq_true rfl⟩) hX hH hp1.k rfl rfl hl.1 rfl (Nat.le_of_ble_eq_true rfl) dX7_readArrow_51 ⟨Nat.zero_le _, Nat.zero_le _⟩ (fun H locs hH => ?_)
        refine lv_iconst (v := gI (1 : Int)) hx hb0 dX7_readArrow_54 (by decide) ?_
        refine g_isub hx hb0 dX7_readArrow_55 ?_
        obtain ⟨q56, e56, h⟩ := gBind_some h
        refine g_callVi (k := b) (T := TX7) (N := 5) (As := [.int (gI (2 : Int)), .int (gI (0 : Int)), .int (gI (q51 - (1 : Int)))]) (rest := []) ⟨hx, hb0, hml, hown, hts⟩ (metX7_readNumber l D G b hb q34.2 μ (2 : Int) (0 : Int) (q51 - (1 : Int)) q56.1 q56.2 e56) (g_cwV (C := RX7) 3 hts q_ml_X7_57 q_im_X7_readNumber q_se_X7_readNumber q_in_X7 q_co_X7_readNumber ⟨rfl, rfl⟩ (by decide +kernel) ⟨Nat.le_of_ble_eq_true rfl, Nat.le_of_ble_eq_true rfl⟩) hX hH hb.k rfl rfl hl.1 rfl (Nat.le_of_ble_eq_true rfl) dX7_readArrow_56 ⟨Nat.zero_le _, Nat.zero_le _⟩ (fun H locs hH => ?_)
        refine g_if_ne (tgt := 64) hx hb0 dX7_readArrow_59 (by decide) h (fun h => ?_) (fun h => ?_)
        · refine lv_aload_n hx hb0 dX7_readArrow_64 rfl (lv_at hl 2 rfl) ?_
          refine g_getI hx hb0 hts q_ws_X7 hown hX hH (C := RX7) (T := TX7) (N := 5) (k := b) (i := 4) hb.k rfl (by decide) (hts _ q_fl_X7_61) rfl rfl dX7_readArrow_65 ?_
          refine lv_iload_n hx hb0 dX7_readArrow_68 rfl (lv_at hl 1 rfl) ?_
          refine g_icmp_ne (tgt := 78) hx hb0 dX7_readArrow_69 (by decide) h (fun h => ?_) (fun h => ?_)
          · refine lv_aload_n hx hb0 dX7_readArrow_78 rfl (lv_at hl 2 rfl) ?_
            refine lv_bipush (v := gI (59 : Int)) hx hb0 dX7_readArrow_79 (by decide) ?_
            obtain ⟨q81, e81, h⟩ := gBind_some h
            refine g_callVi (k := b) (T := TX7) (N := 5) (As := [.int (gI (59 : Int))]) (rest := []) ⟨hx, hb0, hml, hown, hts⟩ (metX7_readSign l D G b hb q56.2 μ (59 : Int) q81.1 q81.2 e81) (g_cwV (C := RX7) 1 hts q_ml_X7_54 q_im_X7_readSign q_se_X7_readSign q_in_X7 q_co_X7_readSign ⟨rfl, rfl⟩ (by decide +kernel) ⟨Nat.le_of_ble_eq_true rfl, Nat.le_of_ble_eq_true rfl⟩) hX hH hb.k rfl rfl hl.1 rfl (Nat.le_of_ble_eq_true rfl) dX7_readArrow_81 ⟨Nat.zero_le _, Nat.zero_le _⟩ (fun H locs hH => ?_)
            refine g_if_ne (tgt := 89) hx hb0 dX7_readArrow_84 (by decide) h (fun h => ?_) (fun h => ?_)
            · refine lv_aload_n hx hb0 dX7_readArrow_89 rfl (lv_at hl 3 rfl) ?_
              refine lv_iload_n hx hb0 dX7_readArrow_90 rfl (lv_at hl 1 rfl) ?_
              refine lv_aload_n hx hb0 dX7_readArrow_91 rfl (lv_at hl 2 rfl) ?_
              refine g_getI hx hb0 hts q_ws_X7 hown hX hH (C := RX7) (T := TX7) (N := 5) (k := b) (i := 4) hb.k rfl (by decide) (hts _ q_fl_X7_61) rfl rfl dX7_readArrow_92 ?_
              obtain ⟨q95, e95, h⟩ := gBind_some h
              refine g_callVi (k := p1) (T := TX5) (N := 8) (As := [.int (gI (q18.2 b 4)), .int (gI (q81.2 b 4))]) (rest := []) ⟨hx, hb0, hml, hown, hts⟩ (metX5_hasArrowBetween l D G p1 hp1 q81.2 μ (q18.2 b 4) (q81.2 b 4) q95 e95) (g_cwV (C := RX5) 2 hts q_ml_X7_71 q_im_X5_hasArrowBetween q_se_X5_hasArrowBetween q_in_X5 q_co_X5_hasArrowBetween ⟨rfl, rfl⟩ (by decide +kernel) ⟨Nat.le_of_ble_eq_true rfl, Nat.le_of_ble_eq_true rfl⟩) hX hH hp1.k rfl rfl hl.1 rfl (Nat.le_of_ble_eq_true rfl) dX7_readArrow_95 ⟨Nat.zero_le _, Nat.zero_le _⟩ (fun H locs hH => ?_)
              refine g_if_ne (tgt := 111) hx hb0 dX7_readArrow_98 (by decide) h (fun h => ?_) (fun h => ?_)
              · refine lv_iconst (v := gI (1 : Int)) hx hb0 dX7_readArrow_111 (by decide) ?_
                exact g_zretS hx hb0 hr hH hlocks dX7_readArrow_112 h
              · refine lv_aload_n hx hb0 dX7_readArrow_101 rfl (lv_at hl 3 rfl) ?_
                refine lv_iload_n hx hb0 dX7_readArrow_102 rfl (lv_at hl 1 rfl) ?_
                refine lv_aload_n hx hb0 dX7_readArrow_103 rfl (lv_at hl 2 rfl) ?_
                refine g_getI hx hb0 hts q_ws_X7 hown hX hH (C := RX7) (T := TX7) (N := 5) (k := b) (i := 4) hb.k rfl (by decide) (hts _ q_fl_X7_61) rfl rfl dX7_readArrow_104 ?_
                obtain ⟨q107, e107, h⟩ := gBind_some h
                refine g_callVi (k := p1) (T := TX5) (N := 8) (As := [.int (gI (q18.2 b 4)), .int (gI (q81.2 b 4))]) (rest := []) ⟨hx, hb0, hml, hown, hts⟩ (metX5_tellArrow l D G p1 hp1 q81.2 μ (q18.2 b 4) (q81.2 b 4) q107.1 q107.2 e107) (g_cwV (C := RX5) 2 hts q_ml_X7_75 q_im_X5_tellArrow q_se_X5_tellArrow q_in_X5 q_co_X5_tellArrow ⟨rfl, rfl⟩ (by decide +kernel) ⟨Nat.le_of_ble_eq_true rfl, Nat.le_of_ble_eq_true rfl⟩) hX hH hp1.k rfl rfl hl.1 rfl (Nat.le_of_ble_eq_true rfl) dX7_readArrow_107 ⟨Nat.zero_le _, Nat.zero_le _⟩ (fun H locs hH => ?_)
                refine lv_pop hx hb0 dX7_readArrow_110 rfl ?_
                refine lv_iconst (v := gI (1 : Int)) hx hb0 dX7_readArrow_111 (by decide) ?_
                exact g_zretS hx hb0 hr hH hlocks dX7_readArrow_112 h
            · refine lv_iconst (v := gI (0 : Int)) hx hb0 dX7_readArrow_87 (by decide) ?_
              exact g_zretS hx hb0 hr hH hlocks dX7_readArrow_88 h
          · refine lv_aload_n hx hb0 dX7_readArrow_72 rfl (lv_at hl 2 rfl) ?_
            refine lv_iload_n hx hb0 dX7_readArrow_73 rfl (lv_at hl 0 rfl) ?_
            obtain ⟨q74, e74, h⟩ := gBind_some h
            refine g_callVi (k := b) (T := TX7) (N := 5) (As := [.int (gI (q34.2 b 2))]) (rest := []) ⟨hx, hb0, hml, hown, hts⟩ (metX7_fail l D G b hb q56.2 μ (q34.2 b 2) q74.1 q74.2 e74) (g_cwV (C := RX7) 1 hts q_ml_X7_50 q_im_X7_fail q_se_X7_fail q_in_X7 q_co_X7_fail ⟨rfl, rfl⟩ (by decide +kernel) ⟨Nat.le_of_ble_eq_true rfl, Nat.le_of_ble_eq_true rfl⟩) hX hH hb.k rfl rfl hl.1 rfl (Nat.le_of_ble_eq_true rfl) dX7_readArrow_74 ⟨Nat.zero_le _, Nat.zero_le _⟩ (fun H locs hH => ?_)
            exact g_zretS hx hb0 hr hH hlocks dX7_readArrow_77 h
        · refine lv_iconst (v := gI (0 : Int)) hx hb0 dX7_readArrow_62 (by decide) ?_
          exact g_zretS hx hb0 hr hH hlocks dX7_readArrow_63 h
      · refine lv_iconst (v := gI (0 : Int)) hx hb0 dX7_readArrow_40 (by decide) ?_
        exact g_zretS hx hb0 hr hH hlocks dX7_readArrow_41 h
    · refine lv_iconst (v := gI (0 : Int)) hx hb0 dX7_readArrow_24 (by decide) ?_
      exact g_zretS hx hb0 hr hH hlocks dX7_readArrow_25 h
def DX7_read_J62 (R18 : Int → Int → gSt → Option (Int × gSt)) (x3_18 : Int) (t0_62 : Int) (σ62 : gSt) : Option (Int × gSt) :=
  (R18 (x3_18 + (1 : Int)) t0_62 σ62)
def DX7_read_L18 (b : Nat) (p1 : Nat) : Nat → Int → Int → gSt → Option (Int × gSt)
  | 0, _, _, _ => none
  | f18 + 1, x3_18, x2_18, σ18 => gIf (x2_18 = (0 : Int)) x2_18 (0 : Int) (some ((σ18 b 3), σ18)) (gIf ((σ18 b 2) < (σ18 b 1)) (σ18 b 2) (σ18 b 1) (gIf (x3_18 < (150 : Int)) x3_18 (150 : Int) ((DX7_next b σ18).bind fun q41 => gIf (q41 = (116 : Int)) q41 (116 : Int) ((DX7_readTask b p1 σ18).bind fun q51 => (DX7_read_J62 (DX7_read_L18 b p1 f18) x3_18 q51.1 q51.2)) ((DX7_readArrow b p1 σ18).bind fun q59 => (DX7_read_J62 (DX7_read_L18 b p1 f18) x3_18 q59.1 q59.2))) (some ((σ18 b 3), σ18))) (some ((σ18 b 3), σ18)))
def DX7_read (b : Nat) (p1 : Nat) (σ : gSt) : Option (Int × gSt) :=
  (DX5_forgetTasksAndArrows p1 σ).bind fun q1 => (DX7_read_L18 b p1 gFuel (0 : Int) (1 : Int) (gUp (gUp q1 b 2 (0 : Int)) b 3 (-1 : Int)))
set_option maxHeartbeats 4000000 in
set_option maxRecDepth 100000 in
theorem metX7_read (l : Launch) (D : va_G) (G : gAd) (b : Nat) (p1 : Nat) (hb : gText b) (hp1 : gPlan p1) (σ : gSt) (μ : gLg) (r : Int) (σ' : gSt) (h : DX7_read b p1 σ = some (r, σ')) : Met l yX7_read (gWs yX7_read cX7_read 4 (some (Jvm.ClassFile.FieldType.int))) ({ frames := 5, cells := 0, slots := 0, locals := 108 } : Room) (gPc D G [.ref (G.1 b), .ref (G.1 p1)] σ μ) (gQi D G r σ' μ) 0 0 (gA G) := by
  refine Met.ofW (cc := cX7_read) (maxL := 4) (ret := (some (Jvm.ClassFile.FieldType.int))) (by decide) rfl ?_
  intro p e s m args below meth c s₁ B hml hv
  obtain ⟨rfl, hP, hX⟩ := hv
  have hx := B.exec
  have hb0 := B.bytes
  have hr := B.returns
  have hts0 := atoms_spec (ws := (gWs yX7_read cX7_read 4 (some (Jvm.ClassFile.FieldType.int)))) B.pre
  have hts : ∀ w ∈ gLW, w.before _ s = true := fun w hw => hts0 w (List.mem_cons_of_mem _ hw)
  have hown : s.vm.findClass RX7 = some m.cls := findClass_of_methodNamed B.named
  have hlocks := B.notSynchronized
  have hH : gH D G s s.heap [] σ μ := ⟨hP, va_S.rf⟩
  have hl := lv_entry ([.ref (G.1 b), .ref (G.1 p1)]) (n := 4) (Nat.le_of_ble_eq_true rfl)
  rw [lg_entry_eq]
  generalize (lg_sl ([.ref (G.1 b), .ref (G.1 p1)]) ++ List.replicate (4 - (lg_sl ([.ref (G.1 b), .ref (G.1 p1)])).length) Slot.unset).toArray = ls at hl ⊢
  have hl : lv_has ls 4 [(0, .ref (G.1 b)), (1, .ref (G.1 p1))] := hl
  unfold DX7_read at h
  refine lv_aload_n hx hb0 dX7_read_0 rfl (lv_at hl 1 rfl) ?_
  obtain ⟨q1, e1, h⟩ := gBind_some h
  refine g_callVv (k := p1) (T := TX5) (N := 8) (As := []) (rest := []) ⟨hx, hb0, hml, hown, hts⟩ (metX5_forgetTasksAndArrows l D G p1 hp1 σ μ q1 e1) (g_cwV (C := RX5) 0 hts q_ml_X7_28 q_im_X5_forgetTasksAndArrows q_se_X5_forgetTasksAndArrows q_in_X5 q_co_X5_forgetTasksAndArrows ⟨rfl, rfl⟩ (by decide +kernel) ⟨Nat.le_of_ble_eq_true rfl, Nat.le_of_ble_eq_true rfl⟩) hX hH hp1.k rfl rfl hl.1 rfl (Nat.le_of_ble_eq_true rfl) dX7_read_1 ⟨Nat.zero_le _, Nat.zero_le _⟩ (fun H locs hH => ?_)
  refine lv_aload_n hx hb0 dX7_read_4 rfl (lv_at hl 0 rfl) ?_
  refine lv_iconst (v := gI (0 : Int)) hx hb0 dX7_read_5 (by decide) ?_
  refine g_putI hx hb0 hts q_ws_X7 tyX7 tyX7_ok nmX7 hown hX hH (C := RX7) (T := TX7) (N := 5) (k := b) (i := 2) hb.k rfl (by decide) (hts _ q_fl_X7_33) rfl rfl rfl rfl dX7_read_6 (fun H locs hH => ?_)
  refine lv_aload_n hx hb0 dX7_read_9 rfl (lv_at hl 0 rfl) ?_
  refine lv_iconst (v := gI (-1 : Int)) hx hb0 dX7_read_10 (by decide) ?_
  refine g_putI hx hb0 hts q_ws_X7 tyX7 tyX7_ok nmX7 hown hX hH (C := RX7) (T := TX7) (N := 5) (k := b) (i := 3) hb.k rfl (by decide) (hts _ q_fl_X7_36) rfl rfl rfl rfl dX7_read_11 (fun H locs hH => ?_)
  refine lv_iconst (v := gI (1 : Int)) hx hb0 dX7_read_14 (by decide) ?_
  refine lv_istore_n (lv' := [(2, .int (gI (1 : Int))), (0, .ref (G.1 b)), (1, .ref (G.1 p1))]) hx hb0 dX7_read_15 rfl hl (by decide) rfl (fun ls hl => ?_)
  refine lv_iconst (v := gI (0 : Int)) hx hb0 dX7_read_16 (by decide) ?_
  refine lv_istore_n (lv' := [(3, .int (gI (0 : Int))), (2, .int (gI (1 : Int))), (0, .ref (G.1 b)), (1, .ref (G.1 p1))]) hx hb0 dX7_read_17 rfl hl (by decide) rfl (fun ls hl => ?_)
  have hL18 : ∀ (f18 : Nat) (x3_18 : Int) (x2_18 : Int) (σ18 : gSt) (H : Heap) (locs : List Loc) (ls : Array Slot), gH D G s H locs σ18 μ → lv_has ls 4 [(3, .int (gI x3_18)), (2, .int (gI x2_18)), (0, .ref (G.1 b)), (1, .ref (G.1 p1))] → (DX7_read_L18 b p1 f18 x3_18 x2_18 σ18) = some (r, σ') → W p l e (headSpec (gWs yX7_read cX7_read 4 (some (Jvm.ClassFile.FieldType.int))) ({ frames := 5, cells := 0, slots := 0, locals := 108 } : Room)).room s m ([.ref (G.1 b), .ref (G.1 p1)] : List Value).toArray below meth c H locs 0 0 (MQ below (gQi D G r σ' μ) ([.ref (G.1 b), .ref (G.1 p1)] : List Value).toArray s 0 0 (gA G)) (F0 m 18 ls []) := by
    intro f18
    induction f18 with
    | zero => intro x3_18 x2_18 σ18 H locs ls hH hl h; cases h
    | succ f18 ih18 =>
      intro x3_18 x2_18 σ18 H locs ls hH hl h
      unfold DX7_read_L18 at h
      refine lv_iload_n hx hb0 dX7_read_18 rfl (lv_at hl 1 rfl) ?_
      refine g_if_eq (tgt := 69) hx hb0 dX7_read_19 (by decide) h (fun h => ?_) (fun h => ?_)
      · refine lv_aload_n hx hb0 dX7_read_69 rfl (lv_at hl 2 rfl) ?_
        refine g_getI hx hb0 hts q_ws_X7 hown hX hH (C := RX7) (T := TX7) (N := 5) (k := b) (i := 3) hb.k rfl (by decide) (hts _ q_fl_X7_36) rfl rfl dX7_read_70 ?_
        exact g_iretS hx hb0 hr hH hlocks dX7_read_73 h
      · refine lv_aload_n hx hb0 dX7_read_22 rfl (lv_at hl 2 rfl) ?_
        refine g_getI hx hb0 hts q_ws_X7 hown hX hH (C := RX7) (T := TX7) (N := 5) (k := b) (i := 2) hb.k rfl (by decide) (hts _ q_fl_X7_33) rfl rfl dX7_read_23 ?_
        refine lv_aload_n hx hb0 dX7_read_26 rfl (lv_at hl 2 rfl) ?_
        refine g_getI hx hb0 hts q_ws_X7 hown hX hH (C := RX7) (T := TX7) (N := 5) (k := b) (i := 1) hb.k rfl (by decide) (hts _ q_fl_X7_20) rfl rfl dX7_read_27 ?_
        refine g_icmp_ge (tgt := 69) hx hb0 dX7_read_30 (by decide) h (fun h => ?_) (fun h => ?_)
        · refine lv_aload_n hx hb0 dX7_read_69 rfl (lv_at hl 2 rfl) ?_
          refine g_getI hx hb0 hts q_ws_X7 hown hX hH (C := RX7) (T := TX7) (N := 5) (k := b) (i := 3) hb.k rfl (by decide) (hts _ q_fl_X7_36) rfl rfl dX7_read_70 ?_
          exact g_iretS hx hb0 hr hH hlocks dX7_read_73 h
        · refine lv_iload_n hx hb0 dX7_read_33 rfl (lv_at hl 0 rfl) ?_
          refine lv_sipush (v := gI (150 : Int)) hx hb0 dX7_read_34 (by decide) ?_
          refine g_icmp_ge (tgt := 69) hx hb0 dX7_read_37 (by decide) h (fun h => ?_) (fun h => ?_)
          · refine lv_aload_n hx hb0 dX7_read_69 rfl (lv_at hl 2 rfl) ?_
            refine g_getI hx hb0 hts q_ws_X7 hown hX hH (C := RX7) (T := TX7) (N := 5) (k := b) (i := 3) hb.k rfl (by decide) (hts _ q_fl_X7_36) rfl rfl dX7_read_70 ?_
            exact g_iretS hx hb0 hr hH hlocks dX7_read_73 h
          · refine lv_aload_n hx hb0 dX7_read_40 rfl (lv_at hl 2 rfl) ?_
            obtain ⟨q41, e41, h⟩ := gBind_some h
            refine g_callVi (k := b) (T := TX7) (N := 5) (As := []) (rest := []) ⟨hx, hb0, hml, hown, hts⟩ (metX7_next l D G b hb σ18 μ q41 e41) (g_cwV (C := RX7) 0 hts q_ml_X7_39 q_im_X7_next q_se_X7_next q_in_X7 q_co_X7_next ⟨rfl, rfl⟩ (by decide +kernel) ⟨Nat.le_of_ble_eq_true rfl, Nat.le_of_ble_eq_true rfl⟩) hX hH hb.k rfl rfl hl.1 rfl (Nat.le_of_ble_eq_true rfl) dX7_read_41 ⟨Nat.zero_le _, Nat.zero_le _⟩ (fun H locs hH => ?_)
            refine lv_bipush (v := gI (116 : Int)) hx hb0 dX7_read_44 (by decide) ?_
            have hJ62 : ∀ (t0_62 : Int) (σ62 : gSt) (H : Heap) (locs : List Loc) (ls : Array Slot), gH D G s H locs σ62 μ → lv_has ls 4 [(3, .int (gI x3_18)), (0, .ref (G.1 b)), (1, .ref (G.1 p1))] → (DX7_read_J62 (DX7_read_L18 b p1 f18) x3_18 t0_62 σ62) = some (r, σ') → W p l e (headSpec (gWs yX7_read cX7_read 4 (some (Jvm.ClassFile.FieldType.int))) ({ frames := 5, cells := 0, slots := 0, locals := 108 } : Room)).room s m ([.ref (G.1 b), .ref (G.1 p1)] : List Value).toArray below meth c H locs 0 0 (MQ below (gQi D G r σ' μ) ([.ref (G.1 b), .ref (G.1 p1)] : List Value).toArray s 0 0 (gA G)) (F0 m 62 ls [.int (gI t0_62)]) := by
              intro t0_62 σ62 H locs ls hH hl h
              unfold DX7_read_J62 at h
              refine lv_istore_n (lv' := [(2, .int (gI t0_62)), (3, .int (gI x3_18)), (0, .ref (G.1 b)), (1, .ref (G.1 p1))]) hx hb0 dX7_read_62 rfl hl (by decide) rfl (fun ls hl => ?_)
              refine g_iinc (k := 1) (n := (1 : Int)) (lv' := [(3, .int (gI (x3_18 + (1 : Int)))), (2, .int (gI t0_62)), (0, .ref (G.1 b)), (1, .ref (G.1 p1))]) hx hb0 dX7_read_63 hl rfl (by decide) rfl (fun ls hl => ?_)
              refine lv_goto (tgt := 18) hx hb0 dX7_read_66 (by decide) ?_
              exact ih18 _ _ _ _ _ _ hH (lv_sub hl [0, 1, 2, 3] rfl) h
            refine g_icmp_ne (tgt := 57) hx hb0 dX7_read_46 (by decide) h (fun h => ?_) (fun h => ?_)
            · refine lv_aload_n hx hb0 dX7_read_57 rfl (lv_at hl 2 rfl) ?_
              refine lv_aload_n hx hb0 dX7_read_58 rfl (lv_at hl 3 rfl) ?_
              obtain ⟨q59, e59, h⟩ := gBind_some h
              refine g_callVi (k := b) (T := TX7) (N := 5) (As := [.ref (G.1 p1)]) (rest := []) ⟨hx, hb0, hml, hown, hts⟩ (metX7_readArrow l D G b p1 hb hp1 σ18 μ q59.1 q59.2 e59) (g_cwV (C := RX7) 1 hts q_ml_X7_47 q_im_X7_readArrow q_se_X7_readArrow q_in_X7 q_co_X7_readArrow ⟨rfl, rfl⟩ (by decide +kernel) ⟨Nat.le_of_ble_eq_true rfl, Nat.le_of_ble_eq_true rfl⟩) hX hH hb.k rfl rfl hl.1 rfl (Nat.le_of_ble_eq_true rfl) dX7_read_59 ⟨Nat.zero_le _, Nat.zero_le _⟩ (fun H locs hH => ?_)
              exact hJ62 _ _ _ _ _ hH (lv_sub hl [0, 2, 3] rfl) h
            · refine lv_aload_n hx hb0 dX7_read_49 rfl (lv_at hl 2 rfl) ?_
              refine lv_aload_n hx hb0 dX7_read_50 rfl (lv_at hl 3 rfl) ?_
              obtain ⟨q51, e51, h⟩ := gBind_some h
              refine g_callVi (k := b) (T := TX7) (N := 5) (As := [.ref (G.1 p1)]) (rest := []) ⟨hx, hb0, hml, hown, hts⟩ (metX7_readTask l D G b p1 hb hp1 σ18 μ q51.1 q51.2 e51) (g_cwV (C := RX7) 1 hts q_ml_X7_43 q_im_X7_readTask q_se_X7_readTask q_in_X7 q_co_X7_readTask ⟨rfl, rfl⟩ (by decide +kernel) ⟨Nat.le_of_ble_eq_true rfl, Nat.le_of_ble_eq_true rfl⟩) hX hH hb.k rfl rfl hl.1 rfl (Nat.le_of_ble_eq_true rfl) dX7_read_51 ⟨Nat.zero_le _, Nat.zero_le _⟩ (fun H locs hH => ?_)
              refine lv_goto (tgt := 62) hx hb0 dX7_read_54 (by decide) ?_
              exact hJ62 _ _ _ _ _ hH (lv_sub hl [0, 2, 3] rfl) h
  exact hL18 gFuel _ _ _ _ _ _ hH (lv_sub hl [0, 1, 2, 3] rfl) h
def DX8_parse (σ : gSt) : Option (Int × gSt) :=
  (DX7_read 81 14 σ).bind fun q8 => gIf (q8.1 = (-1 : Int)) q8.1 (-1 : Int) ((DX3_save 1 q8.2).bind fun q30 => (DX5_copyTasksAndArrows 1 14 q30).bind fun q41 => (DX8_printAnew q41).bind fun q45 => (DX5_taskCount 1 q45).bind fun q52 => some (q52, q45)) (some (((-10 : Int) - q8.1), q8.2))
set_option maxHeartbeats 4000000 in
set_option maxRecDepth 100000 in
theorem metX8_parse (l : Launch) (D : va_G) (G : gAd) (σ : gSt) (μ : gLg) (r : Int) (σ' : gSt) (h : DX8_parse σ = some (r, σ')) : Met l yX8_parse (gWs yX8_parse cX8_parse 2 (some (Jvm.ClassFile.FieldType.int))) ({ frames := 6, cells := 0, slots := 0, locals := 131 } : Room) (gPc D G [.ref (G.1 0)] σ μ) (gQi D G r σ' μ) 0 0 (gA G) := by
  refine Met.ofW (cc := cX8_parse) (maxL := 2) (ret := (some (Jvm.ClassFile.FieldType.int))) (by decide) rfl ?_
  intro p e s m args below meth c s₁ B hml hv
  obtain ⟨rfl, hP, hX⟩ := hv
  have hx := B.exec
  have hb0 := B.bytes
  have hr := B.returns
  have hts0 := atoms_spec (ws := (gWs yX8_parse cX8_parse 2 (some (Jvm.ClassFile.FieldType.int)))) B.pre
  have hts : ∀ w ∈ gLW, w.before _ s = true := fun w hw => hts0 w (List.mem_cons_of_mem _ hw)
  have hown : s.vm.findClass RX8 = some m.cls := findClass_of_methodNamed B.named
  have hlocks := B.notSynchronized
  have hH : gH D G s s.heap [] σ μ := ⟨hP, va_S.rf⟩
  have hl := lv_entry ([.ref (G.1 0)]) (n := 2) (Nat.le_of_ble_eq_true rfl)
  rw [lg_entry_eq]
  generalize (lg_sl ([.ref (G.1 0)]) ++ List.replicate (2 - (lg_sl ([.ref (G.1 0)])).length) Slot.unset).toArray = ls at hl ⊢
  have hl : lv_has ls 2 [(0, .ref (G.1 0))] := hl
  unfold DX8_parse at h
  refine lv_aload_n hx hb0 dX8_parse_0 rfl (lv_at hl 0 rfl) ?_
  refine g_getR hx hb0 hts q_ws_X8 hown hX hH (C := RX8) (T := TX8) (N := 10) (k := 0) (i := 3) (j := 81) (rfl : gKinds[0]? = _) rfl (by decide) (hts _ q_fl_X8_29) rfl rfl dX8_parse_1 ?_
  refine lv_aload_n hx hb0 dX8_parse_4 rfl (lv_at hl 0 rfl) ?_
  refine g_getR hx hb0 hts q_ws_X8 hown hX hH (C := RX8) (T := TX8) (N := 10) (k := 0) (i := 1) (j := 14) (rfl : gKinds[0]? = _) rfl (by decide) (hts _ q_fl_X8_16) rfl rfl dX8_parse_5 ?_
  obtain ⟨q8, e8, h⟩ := gBind_some h
  refine g_callVi (k := 81) (T := TX7) (N := 5) (As := [.ref (G.1 14)]) (rest := []) ⟨hx, hb0, hml, hown, hts⟩ (metX7_read l D G 81 14 gText_81 gPlan_14 σ μ q8.1 q8.2 e8) (g_cwV (C := RX7) 1 hts q_ml_X8_265 q_im_X7_read q_se_X7_read q_in_X7 q_co_X7_read ⟨rfl, rfl⟩ (by decide +kernel) ⟨Nat.le_of_ble_eq_true rfl, Nat.le_of_ble_eq_true rfl⟩) hX hH gText_81.k rfl rfl hl.1 rfl (Nat.le_of_ble_eq_true rfl) dX8_parse_8 ⟨Nat.zero_le _, Nat.zero_le _⟩ (fun H locs hH => ?_)
  refine lv_istore_n (lv' := [(1, .int (gI q8.1)), (0, .ref (G.1 0))]) hx hb0 dX8_parse_11 rfl hl (by decide) rfl (fun ls hl => ?_)
  refine lv_iload_n hx hb0 dX8_parse_12 rfl (lv_at hl 0 rfl) ?_
  refine lv_iconst (v := gI (-1 : Int)) hx hb0 dX8_parse_13 (by decide) ?_
  refine g_icmp_eq (tgt := 22) hx hb0 dX8_parse_14 (by decide) h (fun h => ?_) (fun h => ?_)
  · refine lv_aload_n hx hb0 dX8_parse_22 rfl (lv_at hl 1 rfl) ?_
    refine g_getR hx hb0 hts q_ws_X8 hown hX hH (C := RX8) (T := TX8) (N := 10) (k := 0) (i := 2) (j := 27) (rfl : gKinds[0]? = _) rfl (by decide) (hts _ q_fl_X8_22) rfl rfl dX8_parse_23 ?_
    refine lv_aload_n hx hb0 dX8_parse_26 rfl (lv_at hl 1 rfl) ?_
    refine g_getR hx hb0 hts q_ws_X8 hown hX hH (C := RX8) (T := TX8) (N := 10) (k := 0) (i := 0) (j := 1) (rfl : gKinds[0]? = _) rfl (by decide) (hts _ q_fl_X8_12) rfl rfl dX8_parse_27 ?_
    obtain ⟨q30, e30, h⟩ := gBind_some h
    refine g_callVv (k := 27) (T := TX3) (N := 3) (As := [.ref (G.1 1)]) (rest := []) ⟨hx, hb0, hml, hown, hts⟩ (metX3_save l D G 1 gPlan_1 q8.2 μ q30 e30) (g_cwV (C := RX3) 1 hts q_ml_X8_78 q_im_X3_save q_se_X3_save q_in_X3 q_co_X3_save ⟨rfl, rfl⟩ (by decide +kernel) ⟨Nat.le_of_ble_eq_true rfl, Nat.le_of_ble_eq_true rfl⟩) hX hH (rfl : gKinds[27]? = _) rfl rfl hl.1 rfl (Nat.le_of_ble_eq_true rfl) dX8_parse_30 ⟨Nat.zero_le _, Nat.zero_le _⟩ (fun H locs hH => ?_)
    refine lv_aload_n hx hb0 dX8_parse_33 rfl (lv_at hl 1 rfl) ?_
    refine g_getR hx hb0 hts q_ws_X8 hown hX hH (C := RX8) (T := TX8) (N := 10) (k := 0) (i := 0) (j := 1) (rfl : gKinds[0]? = _) rfl (by decide) (hts _ q_fl_X8_12) rfl rfl dX8_parse_34 ?_
    refine lv_aload_n hx hb0 dX8_parse_37 rfl (lv_at hl 1 rfl) ?_
    refine g_getR hx hb0 hts q_ws_X8 hown hX hH (C := RX8) (T := TX8) (N := 10) (k := 0) (i := 1) (j := 14) (rfl : gKinds[0]? = _) rfl (by decide) (hts _ q_fl_X8_16) rfl rfl dX8_parse_38 ?_
    obtain ⟨q41, e41, h⟩ := gBind_some h
    refine g_callVv (k := 1) (T := TX5) (N := 8) (As := [.ref (G.1 14)]) (rest := []) ⟨hx, hb0, hml, hown, hts⟩ (metX5_copyTasksAndArrows l D G 1 14 gPlan_1 gPlan_14 q30 μ q41 e41) (g_cwV (C := RX5) 1 hts q_ml_X8_268 q_im_X5_copyTasksAndArrows q_se_X5_copyTasksAndArrows q_in_X5 q_co_X5_copyTasksAndArrows ⟨rfl, rfl⟩ (by decide +kernel) ⟨Nat.le_of_ble_eq_true rfl, Nat.le_of_ble_eq_true rfl⟩) hX hH gPlan_1.k rfl rfl hl.1 rfl (Nat.le_of_ble_eq_true rfl) dX8_parse_41 ⟨Nat.zero_le _, Nat.zero_le _⟩ (fun H locs hH => ?_)
    refine lv_aload_n hx hb0 dX8_parse_44 rfl (lv_at hl 1 rfl) ?_
    obtain ⟨q45, e45, h⟩ := gBind_some h
    refine g_callVv (k := 0) (T := TX8) (N := 10) (As := []) (rest := []) ⟨hx, hb0, hml, hown, hts⟩ (metX8_printAnew l D G q41 μ q45 e45) (g_cwV (C := RX8) 0 hts q_ml_X8_90 q_im_X8_printAnew q_se_X8_printAnew q_in_X8 q_co_X8_printAnew ⟨rfl, rfl⟩ (by decide +kernel) ⟨Nat.le_of_ble_eq_true rfl, Nat.le_of_ble_eq_true rfl⟩) hX hH (rfl : gKinds[0]? = _) rfl rfl hl.1 rfl (Nat.le_of_ble_eq_true rfl) dX8_parse_45 ⟨Nat.zero_le _, Nat.zero_le _⟩ (fun H locs hH => ?_)
    refine lv_aload_n hx hb0 dX8_parse_48 rfl (lv_at hl 1 rfl) ?_
    refine g_getR hx hb0 hts q_ws_X8 hown hX hH (C := RX8) (T := TX8) (N := 10) (k := 0) (i := 0) (j := 1) (rfl : gKinds[0]? = _) rfl (by decide) (hts _ q_fl_X8_12) rfl rfl dX8_parse_49 ?_
    obtain ⟨q52, e52, h⟩ := gBind_some h
    refine g_callVi (k := 1) (T := TX5) (N := 8) (As := []) (rest := []) ⟨hx, hb0, hml, hown, hts⟩ (metX5_taskCount l D G 1 gPlan_1 q45 μ q52 e52) (g_cwV (C := RX5) 0 hts q_ml_X8_103 q_im_X5_taskCount q_se_X5_taskCount q_in_X5 q_co_X5_taskCount ⟨rfl, rfl⟩ (by decide +kernel) ⟨Nat.le_of_ble_eq_true rfl, Nat.le_of_ble_eq_true rfl⟩) hX hH gPlan_1.k rfl rfl hl.1 rfl (Nat.le_of_ble_eq_true rfl) dX8_parse_52 ⟨Nat.zero_le _, Nat.zero_le _⟩ (fun H locs hH => ?_)
    exact g_iretS hx hb0 hr hH hlocks dX8_parse_55 h
  · refine lv_bipush (v := gI (-10 : Int)) hx hb0 dX8_parse_17 (by decide) ?_
    refine lv_iload_n hx hb0 dX8_parse_19 rfl (lv_at hl 0 rfl) ?_
    refine g_isub hx hb0 dX8_parse_20 ?_
    exact g_iretS hx hb0 hr hH hlocks dX8_parse_21 h
def DX3_count (σ : gSt) : Option (Int) :=
  some (σ 27 2)
set_option maxHeartbeats 4000000 in
set_option maxRecDepth 100000 in
theorem metX3_count (l : Launch) (D : va_G) (G : gAd) (σ : gSt) (μ : gLg) (r : Int) (h : DX3_count σ = some r) : Met l yX3_count (gWs yX3_count cX3_count 1 (some (Jvm.ClassFile.FieldType.int))) ({ frames := 0, cells := 0, slots := 0, locals := 0 } : Room) (gPc D G [.ref (G.1 27)] σ μ) (gQi D G r σ μ) 0 0 (gA G) := by
  refine Met.ofW (cc := cX3_count) (maxL := 1) (ret := (some (Jvm.ClassFile.FieldType.int))) (by decide) rfl ?_
  intro p e s m args below meth c s₁ B hml hv
  obtain ⟨rfl, hP, hX⟩ := hv
  have hx := B.exec
  have hb0 := B.bytes
  have hr := B.returns
  have hts0 := atoms_spec (ws := (gWs yX3_count cX3_count 1 (some (Jvm.ClassFile.FieldType.int)))) B.pre
  have hts : ∀ w ∈ gLW, w.before _ s = true := fun w hw => hts0 w (List.mem_cons_of_mem _ hw)
  have hown : s.vm.findClass RX3 = some m.cls := findClass_of_methodNamed B.named
  have hlocks := B.notSynchronized
  have hH : gH D G s s.heap [] σ μ := ⟨hP, va_S.rf⟩
  have hl := lv_entry ([.ref (G.1 27)]) (n := 1) (Nat.le_of_ble_eq_true rfl)
  rw [lg_entry_eq]
  generalize (lg_sl ([.ref (G.1 27)]) ++ List.replicate (1 - (lg_sl ([.ref (G.1 27)])).length) Slot.unset).toArray = ls at hl ⊢
  have hl : lv_has ls 1 [(0, .ref (G.1 27))] := hl
  unfold DX3_count at h
  refine lv_aload_n hx hb0 dX3_count_0 rfl (lv_at hl 0 rfl) ?_
  refine g_getI hx hb0 hts q_ws_X3 hown hX hH (C := RX3) (T := TX3) (N := 3) (k := 27) (i := 2) (rfl : gKinds[27]? = _) rfl (by decide) (hts _ q_fl_X3_18) rfl rfl dX3_count_1 ?_
  exact g_iretP hx hb0 hr hH hlocks dX3_count_4 h
def DX3_restore_J17 (p1 : Nat) (σ : gSt) (t0_17 : Int) : Option (gSt) :=
  (DX3_slot σ t0_17).bind fun q20 => gQs q20 fun j20 => gIf ((0 : Int) < (σ 27 2)) (σ 27 2) (0 : Int) ((DX5_copyAll p1 j20 σ).bind fun q37 => some (gUp (gUp q37 27 1 t0_17) 27 2 (((gUp q37 27 1 t0_17) 27 2) - (1 : Int)))) (some σ)
def DX3_restore (p1 : Nat) (σ : gSt) : Option (gSt) :=
  gIf ((0 : Int) < (σ 27 1)) (σ 27 1) (0 : Int) ((DX3_restore_J17 p1 σ ((σ 27 1) - (1 : Int)))) ((DX3_restore_J17 p1 σ (3 : Int)))
set_option maxHeartbeats 4000000 in
set_option maxRecDepth 100000 in
theorem metX3_restore (l : Launch) (D : va_G) (G : gAd) (p1 : Nat) (hp1 : gPlan p1) (σ : gSt) (μ : gLg) (σ' : gSt) (h : DX3_restore p1 σ = some σ') : Met l yX3_restore (gWs yX3_restore cX3_restore 4 none) ({ frames := 3, cells := 0, slots := 0, locals := 64 } : Room) (gPc D G [.ref (G.1 27), .ref (G.1 p1)] σ μ) (gQv D G σ' μ) 0 0 (gA G) := by
  refine Met.ofW (cc := cX3_restore) (maxL := 4) (ret := none) (by decide) rfl ?_
  intro p e s m args below meth c s₁ B hml hv
  obtain ⟨rfl, hP, hX⟩ := hv
  have hx := B.exec
  have hb0 := B.bytes
  have hr := B.returns
  have hts0 := atoms_spec (ws := (gWs yX3_restore cX3_restore 4 none)) B.pre
  have hts : ∀ w ∈ gLW, w.before _ s = true := fun w hw => hts0 w (List.mem_cons_of_mem _ hw)
  have hown : s.vm.findClass RX3 = some m.cls := findClass_of_methodNamed B.named
  have hlocks := B.notSynchronized
  have hH : gH D G s s.heap [] σ μ := ⟨hP, va_S.rf⟩
  have hl := lv_entry ([.ref (G.1 27), .ref (G.1 p1)]) (n := 4) (Nat.le_of_ble_eq_true rfl)
  rw [lg_entry_eq]
  generalize (lg_sl ([.ref (G.1 27), .ref (G.1 p1)]) ++ List.replicate (4 - (lg_sl ([.ref (G.1 27), .ref (G.1 p1)])).length) Slot.unset).toArray = ls at hl ⊢
  have hl : lv_has ls 4 [(0, .ref (G.1 27)), (1, .ref (G.1 p1))] := hl
  unfold DX3_restore at h
  refine lv_aload_n hx hb0 dX3_restore_0 rfl (lv_at hl 0 rfl) ?_
  refine g_getI hx hb0 hts q_ws_X3 hown hX hH (C := RX3) (T := TX3) (N := 3) (k := 27) (i := 1) (rfl : gKinds[27]? = _) rfl (by decide) (hts _ q_fl_X3_22) rfl rfl dX3_restore_1 ?_
  have hJ17 : ∀ (t0_17 : Int) (H : Heap) (locs : List Loc) (ls : Array Slot), gH D G s H locs σ μ → lv_has ls 4 [(0, .ref (G.1 27)), (1, .ref (G.1 p1))] → (DX3_restore_J17 p1 σ t0_17) = some σ' → W p l e (headSpec (gWs yX3_restore cX3_restore 4 none) ({ frames := 3, cells := 0, slots := 0, locals := 64 } : Room)).room s m ([.ref (G.1 27), .ref (G.1 p1)] : List Value).toArray below meth c H locs 0 0 (MQ below (gQv D G σ' μ) ([.ref (G.1 27), .ref (G.1 p1)] : List Value).toArray s 0 0 (gA G)) (F0 m 17 ls [.int (gI t0_17)]) := by
    intro t0_17 H locs ls hH hl h
    unfold DX3_restore_J17 at h
    refine lv_istore_n (lv' := [(2, .int (gI t0_17)), (0, .ref (G.1 27)), (1, .ref (G.1 p1))]) hx hb0 dX3_restore_17 rfl hl (by decide) rfl (fun ls hl => ?_)
    refine lv_aload_n hx hb0 dX3_restore_18 rfl (lv_at hl 1 rfl) ?_
    refine lv_iload_n hx hb0 dX3_restore_19 rfl (lv_at hl 0 rfl) ?_
    obtain ⟨q20, e20, h⟩ := gBind_some h
    obtain ⟨j20, hj20, hqs, hn⟩ := gQs_some h
    clear h
    subst hqs
    have h := hn
    refine g_callVqs (j := j20) (k := 27) (T := TX3) (N := 3) (As := [.int (gI t0_17)]) (rest := []) ⟨hx, hb0, hml, hown, hts⟩ (metX3_slot l D G σ μ t0_17 (some j20) e20) (g_cwV (C := RX3) 1 hts q_ml_X3_25 q_im_X3_slot q_se_X3_slot q_in_X3 q_co_X3_slot ⟨rfl, rfl⟩ (by decide +kernel) ⟨Nat.le_of_ble_eq_true rfl, Nat.le_of_ble_eq_true rfl⟩) hX hH (rfl : gKinds[27]? = _) rfl rfl hl.1 rfl (Nat.le_of_ble_eq_true rfl) dX3_restore_20 ⟨Nat.zero_le _, Nat.zero_le _⟩ (fun H locs hH => ?_)
    refine lv_astore_n (lv' := [(3, .ref (G.1 j20)), (2, .int (gI t0_17)), (0, .ref (G.1 27)), (1, .ref (G.1 p1))]) hx hb0 dX3_restore_23 rfl hl (by decide) rfl (fun ls hl => ?_)
    refine lv_aload_n hx hb0 dX3_restore_24 rfl (lv_at hl 2 rfl) ?_
    refine g_getI hx hb0 hts q_ws_X3 hown hX hH (C := RX3) (T := TX3) (N := 3) (k := 27) (i := 2) (rfl : gKinds[27]? = _) rfl (by decide) (hts _ q_fl_X3_18) rfl rfl dX3_restore_25 ?_
    refine g_if_le (tgt := 55) hx hb0 dX3_restore_28 (by decide) h (fun h => ?_) (fun h => ?_)
    · exact g_vretS hx hb0 hr hH hlocks dX3_restore_55 h
    · refine lv_aload_n hx hb0 dX3_restore_31 rfl (lv_at hl 0 rfl) ?_
      refine lv_ifnull hx hb0 dX3_restore_32 ?_
      refine lv_aload_n hx hb0 dX3_restore_35 rfl (lv_at hl 3 rfl) ?_
      refine lv_aload_n hx hb0 dX3_restore_36 rfl (lv_at hl 0 rfl) ?_
      obtain ⟨q37, e37, h⟩ := gBind_some h
      refine g_callVv (k := p1) (T := TX5) (N := 8) (As := [.ref (G.1 j20)]) (rest := []) ⟨hx, hb0, hml, hown, hts⟩ (metX5_copyAll l D G p1 j20 hp1 hj20 σ μ q37 e37) (g_cwV (C := RX5) 1 hts q_ml_X3_29 q_im_X5_copyAll q_se_X5_copyAll q_in_X5 q_co_X5_copyAll ⟨rfl, rfl⟩ (by decide +kernel) ⟨Nat.le_of_ble_eq_true rfl, Nat.le_of_ble_eq_true rfl⟩) hX hH hp1.k rfl rfl hl.1 rfl (Nat.le_of_ble_eq_true rfl) dX3_restore_37 ⟨Nat.zero_le _, Nat.zero_le _⟩ (fun H locs hH => ?_)
      refine lv_aload_n hx hb0 dX3_restore_40 rfl (lv_at hl 2 rfl) ?_
      refine lv_iload_n hx hb0 dX3_restore_41 rfl (lv_at hl 1 rfl) ?_
      refine g_putI hx hb0 hts q_ws_X3 tyX3 tyX3_ok nmX3 hown hX hH (C := RX3) (T := TX3) (N := 3) (k := 27) (i := 1) (rfl : gKinds[27]? = _) rfl (by decide) (hts _ q_fl_X3_22) rfl rfl rfl rfl dX3_restore_42 (fun H locs hH => ?_)
      refine lv_aload_n hx hb0 dX3_restore_45 rfl (lv_at hl 2 rfl) ?_
      refine lv_dup hx hb0 dX3_restore_46 rfl ?_
      refine g_getI hx hb0 hts q_ws_X3 hown hX hH (C := RX3) (T := TX3) (N := 3) (k := 27) (i := 2) (rfl : gKinds[27]? = _) rfl (by decide) (hts _ q_fl_X3_18) rfl rfl dX3_restore_47 ?_
      refine lv_iconst (v := gI (1 : Int)) hx hb0 dX3_restore_50 (by decide) ?_
      refine g_isub hx hb0 dX3_restore_51 ?_
      refine g_putI hx hb0 hts q_ws_X3 tyX3 tyX3_ok nmX3 hown hX hH (C := RX3) (T := TX3) (N := 3) (k := 27) (i := 2) (rfl : gKinds[27]? = _) rfl (by decide) (hts _ q_fl_X3_18) rfl rfl rfl rfl dX3_restore_52 (fun H locs hH => ?_)
      exact g_vretS hx hb0 hr hH hlocks dX3_restore_55 h
  refine g_if_le (tgt := 16) hx hb0 dX3_restore_4 (by decide) h (fun h => ?_) (fun h => ?_)
  · refine lv_iconst (v := gI (3 : Int)) hx hb0 dX3_restore_16 (by decide) ?_
    exact hJ17 _ _ _ _ hH (lv_sub hl [0, 1] rfl) h
  · refine lv_aload_n hx hb0 dX3_restore_7 rfl (lv_at hl 0 rfl) ?_
    refine g_getI hx hb0 hts q_ws_X3 hown hX hH (C := RX3) (T := TX3) (N := 3) (k := 27) (i := 1) (rfl : gKinds[27]? = _) rfl (by decide) (hts _ q_fl_X3_22) rfl rfl dX3_restore_8 ?_
    refine lv_iconst (v := gI (1 : Int)) hx hb0 dX3_restore_11 (by decide) ?_
    refine g_isub hx hb0 dX3_restore_12 ?_
    refine lv_goto (tgt := 17) hx hb0 dX3_restore_13 (by decide) ?_
    exact hJ17 _ _ _ _ hH (lv_sub hl [0, 1] rfl) h
def DX8_undo (σ : gSt) : Option (Nat ⊕ (Int × gSt)) :=
  (DX3_count σ).bind fun q4 => gIf (q4 = (0 : Int)) q4 (0 : Int) (some (.inl 2)) ((DX3_restore 1 σ).bind fun q29 => (DX8_printAnew q29).bind fun q33 => (DX3_count q33).bind fun q40 => some (.inr (q40, q33)))
set_option maxHeartbeats 4000000 in
set_option maxRecDepth 100000 in
theorem metX8_undo (l : Launch) (hlt : l.stackTraces = false) (D : va_G) (G : gAd) (σ : gSt) (μ : gLg) (r : Nat ⊕ (Int × gSt)) (h : DX8_undo σ = some r) : vx_Met l yX8_undo (gWs yX8_undo cX8_undo 1 (some (Jvm.ClassFile.FieldType.int))) ({ frames := 6, cells := 1, slots := 6, locals := 131 } : Room) (gPc D G [.ref (G.1 0)] σ μ) (gXs D G r μ) (gXC D G r σ μ) 1 6 (gA G) := by
  refine vx_ofW (cc := cX8_undo) (maxL := 1) (ret := (some (Jvm.ClassFile.FieldType.int))) (by decide) rfl ?_
  intro p e s m args below meth c s₁ B hml hxt hv
  obtain ⟨rfl, hP, hX⟩ := hv
  have hx := B.exec
  have hb0 := B.bytes
  have hr := B.returns
  have hts0 := atoms_spec (ws := (gWs yX8_undo cX8_undo 1 (some (Jvm.ClassFile.FieldType.int)))) B.pre
  have hts : ∀ w ∈ gLW, w.before _ s = true := fun w hw => hts0 w (List.mem_cons_of_mem _ hw)
  have hown : s.vm.findClass RX8 = some m.cls := findClass_of_methodNamed B.named
  have hlocks := B.notSynchronized
  have hH : gH D G s s.heap [] σ μ := ⟨hP, va_S.rf⟩
  have hl := lv_entry ([.ref (G.1 0)]) (n := 1) (Nat.le_of_ble_eq_true rfl)
  rw [lg_entry_eq]
  generalize (lg_sl ([.ref (G.1 0)]) ++ List.replicate (1 - (lg_sl ([.ref (G.1 0)])).length) Slot.unset).toArray = ls at hl ⊢
  have hl : lv_has ls 1 [(0, .ref (G.1 0))] := hl
  unfold DX8_undo at h
  refine lv_aload_n hx hb0 dX8_undo_0 rfl (lv_at hl 0 rfl) ?_
  refine g_getR hx hb0 hts q_ws_X8 hown hX hH (C := RX8) (T := TX8) (N := 10) (k := 0) (i := 2) (j := 27) (rfl : gKinds[0]? = _) rfl (by decide) (hts _ q_fl_X8_22) rfl rfl dX8_undo_1 ?_
  obtain ⟨q4, e4, h⟩ := gBind_some h
  refine g_callVi (k := 27) (T := TX3) (N := 3) (As := []) (rest := []) ⟨hx, hb0, hml, hown, hts⟩ (metX3_count l D G σ μ q4 e4) (g_cwV (C := RX3) 0 hts q_ml_X8_271 q_im_X3_count q_se_X3_count q_in_X3 q_co_X3_count ⟨rfl, rfl⟩ (by decide +kernel) ⟨Nat.le_of_ble_eq_true rfl, Nat.le_of_ble_eq_true rfl⟩) hX hH (rfl : gKinds[27]? = _) rfl rfl hl.1 rfl (Nat.le_of_ble_eq_true rfl) dX8_undo_4 ⟨Nat.le_of_ble_eq_true rfl, Nat.le_of_ble_eq_true rfl⟩ (fun H locs hH => ?_)
  refine g_if_ne (tgt := 21) hx hb0 dX8_undo_7 (by decide) h (fun h => ?_) (fun h => ?_)
  · refine lv_aload_n hx hb0 dX8_undo_21 rfl (lv_at hl 0 rfl) ?_
    refine g_getR hx hb0 hts q_ws_X8 hown hX hH (C := RX8) (T := TX8) (N := 10) (k := 0) (i := 2) (j := 27) (rfl : gKinds[0]? = _) rfl (by decide) (hts _ q_fl_X8_22) rfl rfl dX8_undo_22 ?_
    refine lv_aload_n hx hb0 dX8_undo_25 rfl (lv_at hl 0 rfl) ?_
    refine g_getR hx hb0 hts q_ws_X8 hown hX hH (C := RX8) (T := TX8) (N := 10) (k := 0) (i := 0) (j := 1) (rfl : gKinds[0]? = _) rfl (by decide) (hts _ q_fl_X8_12) rfl rfl dX8_undo_26 ?_
    obtain ⟨q29, e29, h⟩ := gBind_some h
    refine g_callVv (k := 27) (T := TX3) (N := 3) (As := [.ref (G.1 1)]) (rest := []) ⟨hx, hb0, hml, hown, hts⟩ (metX3_restore l D G 1 gPlan_1 σ μ q29 e29) (g_cwV (C := RX3) 1 hts q_ml_X8_274 q_im_X3_restore q_se_X3_restore q_in_X3 q_co_X3_restore ⟨rfl, rfl⟩ (by decide +kernel) ⟨Nat.le_of_ble_eq_true rfl, Nat.le_of_ble_eq_true rfl⟩) hX hH (rfl : gKinds[27]? = _) rfl rfl hl.1 rfl (Nat.le_of_ble_eq_true rfl) dX8_undo_29 ⟨Nat.le_of_ble_eq_true rfl, Nat.le_of_ble_eq_true rfl⟩ (fun H locs hH => ?_)
    refine lv_aload_n hx hb0 dX8_undo_32 rfl (lv_at hl 0 rfl) ?_
    obtain ⟨q33, e33, h⟩ := gBind_some h
    refine g_callVv (k := 0) (T := TX8) (N := 10) (As := []) (rest := []) ⟨hx, hb0, hml, hown, hts⟩ (metX8_printAnew l D G q29 μ q33 e33) (g_cwV (C := RX8) 0 hts q_ml_X8_90 q_im_X8_printAnew q_se_X8_printAnew q_in_X8 q_co_X8_printAnew ⟨rfl, rfl⟩ (by decide +kernel) ⟨Nat.le_of_ble_eq_true rfl, Nat.le_of_ble_eq_true rfl⟩) hX hH (rfl : gKinds[0]? = _) rfl rfl hl.1 rfl (Nat.le_of_ble_eq_true rfl) dX8_undo_33 ⟨Nat.le_of_ble_eq_true rfl, Nat.le_of_ble_eq_true rfl⟩ (fun H locs hH => ?_)
    refine lv_aload_n hx hb0 dX8_undo_36 rfl (lv_at hl 0 rfl) ?_
    refine g_getR hx hb0 hts q_ws_X8 hown hX hH (C := RX8) (T := TX8) (N := 10) (k := 0) (i := 2) (j := 27) (rfl : gKinds[0]? = _) rfl (by decide) (hts _ q_fl_X8_22) rfl rfl dX8_undo_37 ?_
    obtain ⟨q40, e40, h⟩ := gBind_some h
    refine g_callVi (k := 27) (T := TX3) (N := 3) (As := []) (rest := []) ⟨hx, hb0, hml, hown, hts⟩ (metX3_count l D G q33 μ q40 e40) (g_cwV (C := RX3) 0 hts q_ml_X8_271 q_im_X3_count q_se_X3_count q_in_X3 q_co_X3_count ⟨rfl, rfl⟩ (by decide +kernel) ⟨Nat.le_of_ble_eq_true rfl, Nat.le_of_ble_eq_true rfl⟩) hX hH (rfl : gKinds[27]? = _) rfl rfl hl.1 rfl (Nat.le_of_ble_eq_true rfl) dX8_undo_40 ⟨Nat.le_of_ble_eq_true rfl, Nat.le_of_ble_eq_true rfl⟩ (fun H locs hH => ?_)
    exact g_xsret hx hb0 hr hH hlocks (Nat.le_of_ble_eq_true rfl) (Nat.le_of_ble_eq_true rfl) dX8_undo_43 h
  · exact g_throwSW (text := "no state is saved") (k := 2) hx hb0 hlt hown hts hX hH rfl q_cl_X8_107 q_in_java_lang_IllegalStateException g_bad2 g_ok2 g_ot2 (by decide +kernel) (by decide +kernel) (hl.1.trans hml.symm) dX8_undo_10 dX8_undo_13 dX8_undo_14 dX8_undo_17 dX8_undo_20 hxt ⟨⟨Nat.le_of_ble_eq_true rfl, Nat.le_of_ble_eq_true rfl⟩, Nat.le_of_ble_eq_true rfl, Nat.le_of_ble_eq_true rfl⟩ hlocks ⟨Nat.le_of_ble_eq_true rfl, Nat.le_of_ble_eq_true rfl⟩ h
def DX8_digestTasks_K49 (R5 : Int → Int64 → Option (Int64)) (x5_5 : Int) (x3_49 : Int64) : Option (Int64) :=
  (R5 (x5_5 + (1 : Int)) x3_49)
def DX8_digestTasks_L20 (K49 : Int64 → Option (Int64)) (σ : gSt) (x5_5 : Int) : Nat → Int → Int64 → Option (Int64)
  | 0, _, _ => none
  | f20 + 1, x6_20, x3_20 => gIf (x6_20 < (7 : Int)) x6_20 (7 : Int) ((DX8_numberOfTask σ x5_5 x6_20).bind fun q37 => ((DX8_digestTasks_L20 K49 σ x5_5 f20) (x6_20 + (1 : Int)) (((31 : Int64) * x3_20) + ((gI q37).toInt64)))) ((K49 x3_20))
def DX8_digestTasks_L5 (σ : gSt) : Nat → Int → Int64 → Option (Int64)
  | 0, _, _ => none
  | f5 + 1, x5_5, x3_5 => (DX5_taskCount 1 σ).bind fun q11 => gIf (x5_5 < q11) x5_5 q11 ((DX8_digestTasks_L20 (DX8_digestTasks_K49 (DX8_digestTasks_L5 σ f5) x5_5) σ x5_5 gFuel (0 : Int) x3_5)) (some x3_5)
def DX8_digestTasks (σ : gSt) (a1 : Int64) : Option (Int64) :=
  (DX8_digestTasks_L5 σ gFuel (0 : Int) a1)
set_option maxHeartbeats 4000000 in
set_option maxRecDepth 100000 in
theorem metX8_digestTasks (l : Launch) (D : va_G) (G : gAd) (σ : gSt) (μ : gLg) (a1 : Int64) (r : Int64) (h : DX8_digestTasks σ a1 = some r) : Met l yX8_digestTasks (gWs yX8_digestTasks cX8_digestTasks 7 (some (Jvm.ClassFile.FieldType.long))) ({ frames := 4, cells := 0, slots := 0, locals := 86 } : Room) (gPc D G [.ref (G.1 0), .long a1] σ μ) (gQl D G r σ μ) 0 0 (gA G) := by
  refine Met.ofW (cc := cX8_digestTasks) (maxL := 7) (ret := (some (Jvm.ClassFile.FieldType.long))) (by decide) rfl ?_
  intro p e s m args below meth c s₁ B hml hv
  obtain ⟨rfl, hP, hX⟩ := hv
  have hx := B.exec
  have hb0 := B.bytes
  have hr := B.returns
  have hts0 := atoms_spec (ws := (gWs yX8_digestTasks cX8_digestTasks 7 (some (Jvm.ClassFile.FieldType.long)))) B.pre
  have hts : ∀ w ∈ gLW, w.before _ s = true := fun w hw => hts0 w (List.mem_cons_of_mem _ hw)
  have hown : s.vm.findClass RX8 = some m.cls := findClass_of_methodNamed B.named
  have hlocks := B.notSynchronized
  have hH : gH D G s s.heap [] σ μ := ⟨hP, va_S.rf⟩
  have hl := lv_entry ([.ref (G.1 0), .long a1]) (n := 7) (Nat.le_of_ble_eq_true rfl)
  rw [lg_entry_eq]
  generalize (lg_sl ([.ref (G.1 0), .long a1]) ++ List.replicate (7 - (lg_sl ([.ref (G.1 0), .long a1])).length) Slot.unset).toArray = ls at hl ⊢
  have hl : lv_has ls 7 [(0, .ref (G.1 0)), (1, .long a1)] := hl
  unfold DX8_digestTasks at h
  refine lv_lload_n hx hb0 dX8_digestTasks_0 rfl (lv_at hl 1 rfl) ?_
  refine lv_lstore_n (lv' := [(3, .long a1), (0, .ref (G.1 0)), (1, .long a1)]) hx hb0 dX8_digestTasks_1 rfl hl (by decide) rfl (fun ls hl => ?_)
  refine lv_iconst (v := gI (0 : Int)) hx hb0 dX8_digestTasks_2 (by decide) ?_
  refine lv_istore (lv' := [(5, .int (gI (0 : Int))), (3, .long a1), (0, .ref (G.1 0)), (1, .long a1)]) hx hb0 dX8_digestTasks_3 hl (by decide) rfl (fun ls hl => ?_)
  have hL5 : ∀ (f5 : Nat) (x5_5 : Int) (x3_5 : Int64) (H : Heap) (locs : List Loc) (ls : Array Slot), gH D G s H locs σ μ → lv_has ls 7 [(5, .int (gI x5_5)), (3, .long x3_5), (0, .ref (G.1 0))] → (DX8_digestTasks_L5 σ f5 x5_5 x3_5) = some r → W p l e (headSpec (gWs yX8_digestTasks cX8_digestTasks 7 (some (Jvm.ClassFile.FieldType.long))) ({ frames := 4, cells := 0, slots := 0, locals := 86 } : Room)).room s m ([.ref (G.1 0), .long a1] : List Value).toArray below meth c H locs 0 0 (MQ below (gQl D G r σ μ) ([.ref (G.1 0), .long a1] : List Value).toArray s 0 0 (gA G)) (F0 m 5 ls []) := by
    intro f5
    induction f5 with
    | zero => intro x5_5 x3_5 H locs ls hH hl h; cases h
    | succ f5 ih5 =>
      intro x5_5 x3_5 H locs ls hH hl h
      unfold DX8_digestTasks_L5 at h
      refine lv_iload hx hb0 dX8_digestTasks_5 (lv_at hl 0 rfl) ?_
      refine lv_aload_n hx hb0 dX8_digestTasks_7 rfl (lv_at hl 2 rfl) ?_
      refine g_getR hx hb0 hts q_ws_X8 hown hX hH (C := RX8) (T := TX8) (N := 10) (k := 0) (i := 0) (j := 1) (rfl : gKinds[0]? = _) rfl (by decide) (hts _ q_fl_X8_12) rfl rfl dX8_digestTasks_8 ?_
      obtain ⟨q11, e11, h⟩ := gBind_some h
      refine g_callVi (k := 1) (T := TX5) (N := 8) (As := []) (rest := [.int (gI x5_5)]) ⟨hx, hb0, hml, hown, hts⟩ (metX5_taskCount l D G 1 gPlan_1 σ μ q11 e11) (g_cwV (C := RX5) 0 hts q_ml_X8_103 q_im_X5_taskCount q_se_X5_taskCount q_in_X5 q_co_X5_taskCount ⟨rfl, rfl⟩ (by decide +kernel) ⟨Nat.le_of_ble_eq_true rfl, Nat.le_of_ble_eq_true rfl⟩) hX hH gPlan_1.k rfl rfl hl.1 rfl (Nat.le_of_ble_eq_true rfl) dX8_digestTasks_11 ⟨Nat.zero_le _, Nat.zero_le _⟩ (fun H locs hH => ?_)
      refine g_icmp_ge (tgt := 55) hx hb0 dX8_digestTasks_14 (by decide) h (fun h => ?_) (fun h => ?_)
      · refine lv_lload_n hx hb0 dX8_digestTasks_55 rfl (lv_at hl 1 rfl) ?_
        exact g_lretP hx hb0 hr hH hlocks dX8_digestTasks_56 h
      · refine lv_iconst (v := gI (0 : Int)) hx hb0 dX8_digestTasks_17 (by decide) ?_
        refine lv_istore (lv' := [(6, .int (gI (0 : Int))), (5, .int (gI x5_5)), (3, .long x3_5), (0, .ref (G.1 0))]) hx hb0 dX8_digestTasks_18 hl (by decide) rfl (fun ls hl => ?_)
        have hK49 : ∀ (x3_49 : Int64) (H : Heap) (locs : List Loc) (ls : Array Slot), gH D G s H locs σ μ → lv_has ls 7 [(5, .int (gI x5_5)), (3, .long x3_49), (0, .ref (G.1 0))] → (DX8_digestTasks_K49 (DX8_digestTasks_L5 σ f5) x5_5 x3_49) = some r → W p l e (headSpec (gWs yX8_digestTasks cX8_digestTasks 7 (some (Jvm.ClassFile.FieldType.long))) ({ frames := 4, cells := 0, slots := 0, locals := 86 } : Room)).room s m ([.ref (G.1 0), .long a1] : List Value).toArray below meth c H locs 0 0 (MQ below (gQl D G r σ μ) ([.ref (G.1 0), .long a1] : List Value).toArray s 0 0 (gA G)) (F0 m 49 ls []) := by
          intro x3_49 H locs ls hH hl h
          unfold DX8_digestTasks_K49 at h
          refine g_iinc (k := 0) (n := (1 : Int)) (lv' := [(5, .int (gI (x5_5 + (1 : Int)))), (3, .long x3_49), (0, .ref (G.1 0))]) hx hb0 dX8_digestTasks_49 hl rfl (by decide) rfl (fun ls hl => ?_)
          refine lv_goto (tgt := 5) hx hb0 dX8_digestTasks_52 (by decide) ?_
          exact ih5 _ _ _ _ _ hH (lv_sub hl [0, 1, 2] rfl) h
        have hL20 : ∀ (f20 : Nat) (x6_20 : Int) (x3_20 : Int64) (H : Heap) (locs : List Loc) (ls : Array Slot), gH D G s H locs σ μ → lv_has ls 7 [(6, .int (gI x6_20)), (5, .int (gI x5_5)), (3, .long x3_20), (0, .ref (G.1 0))] → (DX8_digestTasks_L20 (DX8_digestTasks_K49 (DX8_digestTasks_L5 σ f5) x5_5) σ x5_5 f20 x6_20 x3_20) = some r → W p l e (headSpec (gWs yX8_digestTasks cX8_digestTasks 7 (some (Jvm.ClassFile.FieldType.long))) ({ frames := 4, cells := 0, slots := 0, locals := 86 } : Room)).room s m ([.ref (G.1 0), .long a1] : List Value).toArray below meth c H locs 0 0 (MQ below (gQl D G r σ μ) ([.ref (G.1 0), .long a1] : List Value).toArray s 0 0 (gA G)) (F0 m 20 ls []) := by
          intro f20
          induction f20 with
          | zero => intro x6_20 x3_20 H locs ls hH hl h; cases h
          | succ f20 ih20 =>
            intro x6_20 x3_20 H locs ls hH hl h
            unfold DX8_digestTasks_L20 at h
            refine lv_iload hx hb0 dX8_digestTasks_20 (lv_at hl 0 rfl) ?_
            refine lv_bipush (v := gI (7 : Int)) hx hb0 dX8_digestTasks_22 (by decide) ?_
            refine g_icmp_ge (tgt := 49) hx hb0 dX8_digestTasks_24 (by decide) h (fun h => ?_) (fun h => ?_)
            · exact hK49 _ _ _ _ hH (lv_sub hl [1, 2, 3] rfl) h
            · refine lv_ldc2 (v := (31 : Int64)) hx hb0 hown (hts _ q_kl_X8_279) dX8_digestTasks_27 ?_
              refine lv_lload_n hx hb0 dX8_digestTasks_30 rfl (lv_at hl 2 rfl) ?_
              refine lv_lmul hx hb0 dX8_digestTasks_31 ?_
              refine lv_aload_n hx hb0 dX8_digestTasks_32 rfl (lv_at hl 3 rfl) ?_
              refine lv_iload hx hb0 dX8_digestTasks_33 (lv_at hl 1 rfl) ?_
              refine lv_iload hx hb0 dX8_digestTasks_35 (lv_at hl 0 rfl) ?_
              obtain ⟨q37, e37, h⟩ := gBind_some h
              refine g_callVi (k := 0) (T := TX8) (N := 10) (As := [.int (gI x5_5), .int (gI x6_20)]) (rest := [.long ((31 : Int64) * x3_20)]) ⟨hx, hb0, hml, hown, hts⟩ (metX8_numberOfTask l D G σ μ x5_5 x6_20 q37 e37) (g_cwV (C := RX8) 2 hts q_ml_X8_154 q_im_X8_numberOfTask q_se_X8_numberOfTask q_in_X8 q_co_X8_numberOfTask ⟨rfl, rfl⟩ (by decide +kernel) ⟨Nat.le_of_ble_eq_true rfl, Nat.le_of_ble_eq_true rfl⟩) hX hH (rfl : gKinds[0]? = _) rfl rfl hl.1 rfl (Nat.le_of_ble_eq_true rfl) dX8_digestTasks_37 ⟨Nat.zero_le _, Nat.zero_le _⟩ (fun H locs hH => ?_)
              refine lv_i2l (v := (gI q37).toInt64) hx hb0 dX8_digestTasks_40 rfl ?_
              refine lv_ladd hx hb0 dX8_digestTasks_41 ?_
              refine lv_lstore_n (lv' := [(3, .long (((31 : Int64) * x3_20) + ((gI q37).toInt64))), (6, .int (gI x6_20)), (5, .int (gI x5_5)), (0, .ref (G.1 0))]) hx hb0 dX8_digestTasks_42 rfl hl (by decide) rfl (fun ls hl => ?_)
              refine g_iinc (k := 1) (n := (1 : Int)) (lv' := [(6, .int (gI (x6_20 + (1 : Int)))), (3, .long (((31 : Int64) * x3_20) + ((gI q37).toInt64))), (5, .int (gI x5_5)), (0, .ref (G.1 0))]) hx hb0 dX8_digestTasks_43 hl rfl (by decide) rfl (fun ls hl => ?_)
              refine lv_goto (tgt := 20) hx hb0 dX8_digestTasks_46 (by decide) ?_
              exact ih20 _ _ _ _ _ hH (lv_sub hl [0, 2, 1, 3] rfl) h
        exact hL20 gFuel _ _ _ _ _ hH (lv_sub hl [0, 1, 2, 3] rfl) h
  exact hL5 gFuel _ _ _ _ _ hH (lv_sub hl [0, 1, 2] rfl) h
def DX8_digestBands_K71 (R18 : Int → Int64 → Option (Int64)) (x5_18 : Int) (x3_71 : Int64) : Option (Int64) :=
  (R18 (x5_18 + (1 : Int)) x3_71)
def DX8_digestBands_L33 (K71 : Int64 → Option (Int64)) (σ : gSt) (x5_18 : Int) : Nat → Int → Int64 → Option (Int64)
  | 0, _, _ => none
  | f33 + 1, x6_33, x3_33 => (DX5_setting 1 σ (0 : Int)).bind fun q40 => gIf (x6_33 < q40) x6_33 q40 ((DX0_content 87 σ x5_18 x6_33).bind fun q59 => ((DX8_digestBands_L33 K71 σ x5_18 f33) (x6_33 + (1 : Int)) (((31 : Int64) * x3_33) + ((gI q59).toInt64)))) ((K71 x3_33))
def DX8_digestBands_L18 (σ : gSt) : Nat → Int → Int64 → Option (Int64)
  | 0, _, _ => none
  | f18 + 1, x5_18, x3_18 => (DX0_count 87 σ).bind fun q24 => gIf (x5_18 < q24) x5_18 q24 ((DX8_digestBands_L33 (DX8_digestBands_K71 (DX8_digestBands_L18 σ f18) x5_18) σ x5_18 gFuel (0 : Int) x3_18)) (some x3_18)
def DX8_digestBands (σ : gSt) (a1 : Int64) : Option (Int64) :=
  (DX0_count 87 σ).bind fun q9 => (DX8_digestBands_L18 σ gFuel (0 : Int) (((31 : Int64) * a1) + ((gI q9).toInt64)))
set_option maxHeartbeats 4000000 in
set_option maxRecDepth 100000 in
theorem metX8_digestBands (l : Launch) (D : va_G) (G : gAd) (σ : gSt) (μ : gLg) (a1 : Int64) (r : Int64) (h : DX8_digestBands σ a1 = some r) : Met l yX8_digestBands (gWs yX8_digestBands cX8_digestBands 7 (some (Jvm.ClassFile.FieldType.long))) ({ frames := 2, cells := 0, slots := 0, locals := 43 } : Room) (gPc D G [.ref (G.1 0), .long a1] σ μ) (gQl D G r σ μ) 0 0 (gA G) := by
  refine Met.ofW (cc := cX8_digestBands) (maxL := 7) (ret := (some (Jvm.ClassFile.FieldType.long))) (by decide) rfl ?_
  intro p e s m args below meth c s₁ B hml hv
  obtain ⟨rfl, hP, hX⟩ := hv
  have hx := B.exec
  have hb0 := B.bytes
  have hr := B.returns
  have hts0 := atoms_spec (ws := (gWs yX8_digestBands cX8_digestBands 7 (some (Jvm.ClassFile.FieldType.long)))) B.pre
  have hts : ∀ w ∈ gLW, w.before _ s = true := fun w hw => hts0 w (List.mem_cons_of_mem _ hw)
  have hown : s.vm.findClass RX8 = some m.cls := findClass_of_methodNamed B.named
  have hlocks := B.notSynchronized
  have hH : gH D G s s.heap [] σ μ := ⟨hP, va_S.rf⟩
  have hl := lv_entry ([.ref (G.1 0), .long a1]) (n := 7) (Nat.le_of_ble_eq_true rfl)
  rw [lg_entry_eq]
  generalize (lg_sl ([.ref (G.1 0), .long a1]) ++ List.replicate (7 - (lg_sl ([.ref (G.1 0), .long a1])).length) Slot.unset).toArray = ls at hl ⊢
  have hl : lv_has ls 7 [(0, .ref (G.1 0)), (1, .long a1)] := hl
  unfold DX8_digestBands at h
  refine lv_ldc2 (v := (31 : Int64)) hx hb0 hown (hts _ q_kl_X8_279) dX8_digestBands_0 ?_
  refine lv_lload_n hx hb0 dX8_digestBands_3 rfl (lv_at hl 1 rfl) ?_
  refine lv_lmul hx hb0 dX8_digestBands_4 ?_
  refine lv_aload_n hx hb0 dX8_digestBands_5 rfl (lv_at hl 0 rfl) ?_
  refine g_getR hx hb0 hts q_ws_X8 hown hX hH (C := RX8) (T := TX8) (N := 10) (k := 0) (i := 5) (j := 87) (rfl : gKinds[0]? = _) rfl (by decide) (hts _ q_fl_X8_43) rfl rfl dX8_digestBands_6 ?_
  obtain ⟨q9, e9, h⟩ := gBind_some h
  refine g_callVi (k := 87) (T := TX0) (N := 8) (As := []) (rest := [.long ((31 : Int64) * a1)]) ⟨hx, hb0, hml, hown, hts⟩ (metX0_count l D G 87 gBands_87 σ μ q9 e9) (g_cwV (C := RX0) 0 hts q_ml_X8_157 q_im_X0_count q_se_X0_count q_in_X0 q_co_X0_count ⟨rfl, rfl⟩ (by decide +kernel) ⟨Nat.le_of_ble_eq_true rfl, Nat.le_of_ble_eq_true rfl⟩) hX hH gBands_87.k rfl rfl hl.1 rfl (Nat.le_of_ble_eq_true rfl) dX8_digestBands_9 ⟨Nat.zero_le _, Nat.zero_le _⟩ (fun H locs hH => ?_)
  refine lv_i2l (v := (gI q9).toInt64) hx hb0 dX8_digestBands_12 rfl ?_
  refine lv_ladd hx hb0 dX8_digestBands_13 ?_
  refine lv_lstore_n (lv' := [(3, .long (((31 : Int64) * a1) + ((gI q9).toInt64))), (0, .ref (G.1 0)), (1, .long a1)]) hx hb0 dX8_digestBands_14 rfl hl (by decide) rfl (fun ls hl => ?_)
  refine lv_iconst (v := gI (0 : Int)) hx hb0 dX8_digestBands_15 (by decide) ?_
  refine lv_istore (lv' := [(5, .int (gI (0 : Int))), (3, .long (((31 : Int64) * a1) + ((gI q9).toInt64))), (0, .ref (G.1 0)), (1, .long a1)]) hx hb0 dX8_digestBands_16 hl (by decide) rfl (fun ls hl => ?_)
  have hL18 : ∀ (f18 : Nat) (x5_18 : Int) (x3_18 : Int64) (H : Heap) (locs : List Loc) (ls : Array Slot), gH D G s H locs σ μ → lv_has ls 7 [(5, .int (gI x5_18)), (3, .long x3_18), (0, .ref (G.1 0))] → (DX8_digestBands_L18 σ f18 x5_18 x3_18) = some r → W p l e (headSpec (gWs yX8_digestBands cX8_digestBands 7 (some (Jvm.ClassFile.FieldType.long))) ({ frames := 2, cells := 0, slots := 0, locals := 43 } : Room)).room s m ([.ref (G.1 0), .long a1] : List Value).toArray below meth c H locs 0 0 (MQ below (gQl D G r σ μ) ([.ref (G.1 0), .long a1] : List Value).toArray s 0 0 (gA G)) (F0 m 18 ls []) := by
    intro f18
    induction f18 with
    | zero => intro x5_18 x3_18 H locs ls hH hl h; cases h
    | succ f18 ih18 =>
      intro x5_18 x3_18 H locs ls hH hl h
      unfold DX8_digestBands_L18 at h
      refine lv_iload hx hb0 dX8_digestBands_18 (lv_at hl 0 rfl) ?_
      refine lv_aload_n hx hb0 dX8_digestBands_20 rfl (lv_at hl 2 rfl) ?_
      refine g_getR hx hb0 hts q_ws_X8 hown hX hH (C := RX8) (T := TX8) (N := 10) (k := 0) (i := 5) (j := 87) (rfl : gKinds[0]? = _) rfl (by decide) (hts _ q_fl_X8_43) rfl rfl dX8_digestBands_21 ?_
      obtain ⟨q24, e24, h⟩ := gBind_some h
      refine g_callVi (k := 87) (T := TX0) (N := 8) (As := []) (rest := [.int (gI x5_18)]) ⟨hx, hb0, hml, hown, hts⟩ (metX0_count l D G 87 gBands_87 σ μ q24 e24) (g_cwV (C := RX0) 0 hts q_ml_X8_157 q_im_X0_count q_se_X0_count q_in_X0 q_co_X0_count ⟨rfl, rfl⟩ (by decide +kernel) ⟨Nat.le_of_ble_eq_true rfl, Nat.le_of_ble_eq_true rfl⟩) hX hH gBands_87.k rfl rfl hl.1 rfl (Nat.le_of_ble_eq_true rfl) dX8_digestBands_24 ⟨Nat.zero_le _, Nat.zero_le _⟩ (fun H locs hH => ?_)
      refine g_icmp_ge (tgt := 77) hx hb0 dX8_digestBands_27 (by decide) h (fun h => ?_) (fun h => ?_)
      · refine lv_lload_n hx hb0 dX8_digestBands_77 rfl (lv_at hl 1 rfl) ?_
        exact g_lretP hx hb0 hr hH hlocks dX8_digestBands_78 h
      · refine lv_iconst (v := gI (0 : Int)) hx hb0 dX8_digestBands_30 (by decide) ?_
        refine lv_istore (lv' := [(6, .int (gI (0 : Int))), (5, .int (gI x5_18)), (3, .long x3_18), (0, .ref (G.1 0))]) hx hb0 dX8_digestBands_31 hl (by decide) rfl (fun ls hl => ?_)
        have hK71 : ∀ (x3_71 : Int64) (H : Heap) (locs : List Loc) (ls : Array Slot), gH D G s H locs σ μ → lv_has ls 7 [(5, .int (gI x5_18)), (3, .long x3_71), (0, .ref (G.1 0))] → (DX8_digestBands_K71 (DX8_digestBands_L18 σ f18) x5_18 x3_71) = some r → W p l e (headSpec (gWs yX8_digestBands cX8_digestBands 7 (some (Jvm.ClassFile.FieldType.long))) ({ frames := 2, cells := 0, slots := 0, locals := 43 } : Room)).room s m ([.ref (G.1 0), .long a1] : List Value).toArray below meth c H locs 0 0 (MQ below (gQl D G r σ μ) ([.ref (G.1 0), .long a1] : List Value).toArray s 0 0 (gA G)) (F0 m 71 ls []) := by
          intro x3_71 H locs ls hH hl h
          unfold DX8_digestBands_K71 at h
          refine g_iinc (k := 0) (n := (1 : Int)) (lv' := [(5, .int (gI (x5_18 + (1 : Int)))), (3, .long x3_71), (0, .ref (G.1 0))]) hx hb0 dX8_digestBands_71 hl rfl (by decide) rfl (fun ls hl => ?_)
          refine lv_goto (tgt := 18) hx hb0 dX8_digestBands_74 (by decide) ?_
          exact ih18 _ _ _ _ _ hH (lv_sub hl [0, 1, 2] rfl) h
        have hL33 : ∀ (f33 : Nat) (x6_33 : Int) (x3_33 : Int64) (H : Heap) (locs : List Loc) (ls : Array Slot), gH D G s H locs σ μ → lv_has ls 7 [(6, .int (gI x6_33)), (5, .int (gI x5_18)), (3, .long x3_33), (0, .ref (G.1 0))] → (DX8_digestBands_L33 (DX8_digestBands_K71 (DX8_digestBands_L18 σ f18) x5_18) σ x5_18 f33 x6_33 x3_33) = some r → W p l e (headSpec (gWs yX8_digestBands cX8_digestBands 7 (some (Jvm.ClassFile.FieldType.long))) ({ frames := 2, cells := 0, slots := 0, locals := 43 } : Room)).room s m ([.ref (G.1 0), .long a1] : List Value).toArray below meth c H locs 0 0 (MQ below (gQl D G r σ μ) ([.ref (G.1 0), .long a1] : List Value).toArray s 0 0 (gA G)) (F0 m 33 ls []) := by
          intro f33
          induction f33 with
          | zero => intro x6_33 x3_33 H locs ls hH hl h; cases h
          | succ f33 ih33 =>
            intro x6_33 x3_33 H locs ls hH hl h
            unfold DX8_digestBands_L33 at h
            refine lv_iload hx hb0 dX8_digestBands_33 (lv_at hl 0 rfl) ?_
            refine lv_aload_n hx hb0 dX8_digestBands_35 rfl (lv_at hl 3 rfl) ?_
            refine g_getR hx hb0 hts q_ws_X8 hown hX hH (C := RX8) (T := TX8) (N := 10) (k := 0) (i := 0) (j := 1) (rfl : gKinds[0]? = _) rfl (by decide) (hts _ q_fl_X8_12) rfl rfl dX8_digestBands_36 ?_
            refine lv_iconst (v := gI (0 : Int)) hx hb0 dX8_digestBands_39 (by decide) ?_
            obtain ⟨q40, e40, h⟩ := gBind_some h
            refine g_callVi (k := 1) (T := TX5) (N := 8) (As := [.int (gI (0 : Int))]) (rest := [.int (gI x6_33)]) ⟨hx, hb0, hml, hown, hts⟩ (metX5_setting l D G 1 gPlan_1 σ μ (0 : Int) q40 e40) (g_cwV (C := RX5) 1 hts q_ml_X8_82 q_im_X5_setting q_se_X5_setting q_in_X5 q_co_X5_setting ⟨rfl, rfl⟩ (by decide +kernel) ⟨Nat.le_of_ble_eq_true rfl, Nat.le_of_ble_eq_true rfl⟩) hX hH gPlan_1.k rfl rfl hl.1 rfl (Nat.le_of_ble_eq_true rfl) dX8_digestBands_40 ⟨Nat.zero_le _, Nat.zero_le _⟩ (fun H locs hH => ?_)
            refine g_icmp_ge (tgt := 71) hx hb0 dX8_digestBands_43 (by decide) h (fun h => ?_) (fun h => ?_)
            · exact hK71 _ _ _ _ hH (lv_sub hl [1, 2, 3] rfl) h
            · refine lv_ldc2 (v := (31 : Int64)) hx hb0 hown (hts _ q_kl_X8_279) dX8_digestBands_46 ?_
              refine lv_lload_n hx hb0 dX8_digestBands_49 rfl (lv_at hl 2 rfl) ?_
              refine lv_lmul hx hb0 dX8_digestBands_50 ?_
              refine lv_aload_n hx hb0 dX8_digestBands_51 rfl (lv_at hl 3 rfl) ?_
              refine g_getR hx hb0 hts q_ws_X8 hown hX hH (C := RX8) (T := TX8) (N := 10) (k := 0) (i := 5) (j := 87) (rfl : gKinds[0]? = _) rfl (by decide) (hts _ q_fl_X8_43) rfl rfl dX8_digestBands_52 ?_
              refine lv_iload hx hb0 dX8_digestBands_55 (lv_at hl 1 rfl) ?_
              refine lv_iload hx hb0 dX8_digestBands_57 (lv_at hl 0 rfl) ?_
              obtain ⟨q59, e59, h⟩ := gBind_some h
              refine g_callVi (k := 87) (T := TX0) (N := 8) (As := [.int (gI x5_18), .int (gI x6_33)]) (rest := [.long ((31 : Int64) * x3_33)]) ⟨hx, hb0, hml, hown, hts⟩ (metX0_content l D G 87 gBands_87 σ μ x5_18 x6_33 q59 e59) (g_cwV (C := RX0) 2 hts q_ml_X8_166 q_im_X0_content q_se_X0_content q_in_X0 q_co_X0_content ⟨rfl, rfl⟩ (by decide +kernel) ⟨Nat.le_of_ble_eq_true rfl, Nat.le_of_ble_eq_true rfl⟩) hX hH gBands_87.k rfl rfl hl.1 rfl (Nat.le_of_ble_eq_true rfl) dX8_digestBands_59 ⟨Nat.zero_le _, Nat.zero_le _⟩ (fun H locs hH => ?_)
              refine lv_i2l (v := (gI q59).toInt64) hx hb0 dX8_digestBands_62 rfl ?_
              refine lv_ladd hx hb0 dX8_digestBands_63 ?_
              refine lv_lstore_n (lv' := [(3, .long (((31 : Int64) * x3_33) + ((gI q59).toInt64))), (6, .int (gI x6_33)), (5, .int (gI x5_18)), (0, .ref (G.1 0))]) hx hb0 dX8_digestBands_64 rfl hl (by decide) rfl (fun ls hl => ?_)
              refine g_iinc (k := 1) (n := (1 : Int)) (lv' := [(6, .int (gI (x6_33 + (1 : Int)))), (3, .long (((31 : Int64) * x3_33) + ((gI q59).toInt64))), (5, .int (gI x5_18)), (0, .ref (G.1 0))]) hx hb0 dX8_digestBands_65 hl rfl (by decide) rfl (fun ls hl => ?_)
              refine lv_goto (tgt := 33) hx hb0 dX8_digestBands_68 (by decide) ?_
              exact ih33 _ _ _ _ _ hH (lv_sub hl [0, 2, 1, 3] rfl) h
        exact hL33 gFuel _ _ _ _ _ hH (lv_sub hl [0, 1, 2, 3] rfl) h
  exact hL18 gFuel _ _ _ _ _ hH (lv_sub hl [0, 1, 2] rfl) h
def DX8_digestSheets_K61 (R18 : Int → Int64 → Option (Int64)) (x5_18 : Int) (x3_61 : Int64) : Option (Int64) :=
  (R18 (x5_18 + (1 : Int)) x3_61)
def DX8_digestSheets_L33 (K61 : Int64 → Option (Int64)) (σ : gSt) (x5_18 : Int) : Nat → Int → Int64 → Option (Int64)
  | 0, _, _ => none
  | f33 + 1, x6_33, x3_33 => gIf (x6_33 < (5 : Int)) x6_33 (5 : Int) ((DX8_numberOfSheet σ x5_18 x6_33).bind fun q49 => ((DX8_digestSheets_L33 K61 σ x5_18 f33) (x6_33 + (1 : Int)) (((31 : Int64) * x3_33) + ((gI q49).toInt64)))) ((K61 x3_33))
def DX8_digestSheets_L18 (σ : gSt) : Nat → Int → Int64 → Option (Int64)
  | 0, _, _ => none
  | f18 + 1, x5_18, x3_18 => (DX6_count 96 σ).bind fun q24 => gIf (x5_18 < q24) x5_18 q24 ((DX8_digestSheets_L33 (DX8_digestSheets_K61 (DX8_digestSheets_L18 σ f18) x5_18) σ x5_18 gFuel (0 : Int) x3_18)) (some x3_18)
def DX8_digestSheets (σ : gSt) (a1 : Int64) : Option (Int64) :=
  (DX6_count 96 σ).bind fun q9 => (DX8_digestSheets_L18 σ gFuel (0 : Int) (((31 : Int64) * a1) + ((gI q9).toInt64)))
set_option maxHeartbeats 4000000 in
set_option maxRecDepth 100000 in
theorem metX8_digestSheets (l : Launch) (D : va_G) (G : gAd) (σ : gSt) (μ : gLg) (a1 : Int64) (r : Int64) (h : DX8_digestSheets σ a1 = some r) : Met l yX8_digestSheets (gWs yX8_digestSheets cX8_digestSheets 7 (some (Jvm.ClassFile.FieldType.long))) ({ frames := 4, cells := 0, slots := 0, locals := 85 } : Room) (gPc D G [.ref (G.1 0), .long a1] σ μ) (gQl D G r σ μ) 0 0 (gA G) := by
  refine Met.ofW (cc := cX8_digestSheets) (maxL := 7) (ret := (some (Jvm.ClassFile.FieldType.long))) (by decide) rfl ?_
  intro p e s m args below meth c s₁ B hml hv
  obtain ⟨rfl, hP, hX⟩ := hv
  have hx := B.exec
  have hb0 := B.bytes
  have hr := B.returns
  have hts0 := atoms_spec (ws := (gWs yX8_digestSheets cX8_digestSheets 7 (some (Jvm.ClassFile.FieldType.long)))) B.pre
  have hts : ∀ w ∈ gLW, w.before _ s = true := fun w hw => hts0 w (List.mem_cons_of_mem _ hw)
  have hown : s.vm.findClass RX8 = some m.cls := findClass_of_methodNamed B.named
  have hlocks := B.notSynchronized
  have hH : gH D G s s.heap [] σ μ := ⟨hP, va_S.rf⟩
  have hl := lv_entry ([.ref (G.1 0), .long a1]) (n := 7) (Nat.le_of_ble_eq_true rfl)
  rw [lg_entry_eq]
  generalize (lg_sl ([.ref (G.1 0), .long a1]) ++ List.replicate (7 - (lg_sl ([.ref (G.1 0), .long a1])).length) Slot.unset).toArray = ls at hl ⊢
  have hl : lv_has ls 7 [(0, .ref (G.1 0)), (1, .long a1)] := hl
  unfold DX8_digestSheets at h
  refine lv_ldc2 (v := (31 : Int64)) hx hb0 hown (hts _ q_kl_X8_279) dX8_digestSheets_0 ?_
  refine lv_lload_n hx hb0 dX8_digestSheets_3 rfl (lv_at hl 1 rfl) ?_
  refine lv_lmul hx hb0 dX8_digestSheets_4 ?_
  refine lv_aload_n hx hb0 dX8_digestSheets_5 rfl (lv_at hl 0 rfl) ?_
  refine g_getR hx hb0 hts q_ws_X8 hown hX hH (C := RX8) (T := TX8) (N := 10) (k := 0) (i := 6) (j := 96) (rfl : gKinds[0]? = _) rfl (by decide) (hts _ q_fl_X8_50) rfl rfl dX8_digestSheets_6 ?_
  obtain ⟨q9, e9, h⟩ := gBind_some h
  refine g_callVi (k := 96) (T := TX6) (N := 5) (As := []) (rest := [.long ((31 : Int64) * a1)]) ⟨hx, hb0, hml, hown, hts⟩ (metX6_count l D G 96 gSheets_96 σ μ q9 e9) (g_cwV (C := RX6) 0 hts q_ml_X8_169 q_im_X6_count q_se_X6_count q_in_X6 q_co_X6_count ⟨rfl, rfl⟩ (by decide +kernel) ⟨Nat.le_of_ble_eq_true rfl, Nat.le_of_ble_eq_true rfl⟩) hX hH gSheets_96.k rfl rfl hl.1 rfl (Nat.le_of_ble_eq_true rfl) dX8_digestSheets_9 ⟨Nat.zero_le _, Nat.zero_le _⟩ (fun H locs hH => ?_)
  refine lv_i2l (v := (gI q9).toInt64) hx hb0 dX8_digestSheets_12 rfl ?_
  refine lv_ladd hx hb0 dX8_digestSheets_13 ?_
  refine lv_lstore_n (lv' := [(3, .long (((31 : Int64) * a1) + ((gI q9).toInt64))), (0, .ref (G.1 0)), (1, .long a1)]) hx hb0 dX8_digestSheets_14 rfl hl (by decide) rfl (fun ls hl => ?_)
  refine lv_iconst (v := gI (0 : Int)) hx hb0 dX8_digestSheets_15 (by decide) ?_
  refine lv_istore (lv' := [(5, .int (gI (0 : Int))), (3, .long (((31 : Int64) * a1) + ((gI q9).toInt64))), (0, .ref (G.1 0)), (1, .long a1)]) hx hb0 dX8_digestSheets_16 hl (by decide) rfl (fun ls hl => ?_)
  have hL18 : ∀ (f18 : Nat) (x5_18 : Int) (x3_18 : Int64) (H : Heap) (locs : List Loc) (ls : Array Slot), gH D G s H locs σ μ → lv_has ls 7 [(5, .int (gI x5_18)), (3, .long x3_18), (0, .ref (G.1 0))] → (DX8_digestSheets_L18 σ f18 x5_18 x3_18) = some r → W p l e (headSpec (gWs yX8_digestSheets cX8_digestSheets 7 (some (Jvm.ClassFile.FieldType.long))) ({ frames := 4, cells := 0, slots := 0, locals := 85 } : Room)).room s m ([.ref (G.1 0), .long a1] : List Value).toArray below meth c H locs 0 0 (MQ below (gQl D G r σ μ) ([.ref (G.1 0), .long a1] : List Value).toArray s 0 0 (gA G)) (F0 m 18 ls []) := by
    intro f18
    induction f18 with
    | zero => intro x5_18 x3_18 H locs ls hH hl h; cases h
    | succ f18 ih18 =>
      intro x5_18 x3_18 H locs ls hH hl h
      unfold DX8_digestSheets_L18 at h
      refine lv_iload hx hb0 dX8_digestSheets_18 (lv_at hl 0 rfl) ?_
      refine lv_aload_n hx hb0 dX8_digestSheets_20 rfl (lv_at hl 2 rfl) ?_
      refine g_getR hx hb0 hts q_ws_X8 hown hX hH (C := RX8) (T := TX8) (N := 10) (k := 0) (i := 6) (j := 96) (rfl : gKinds[0]? = _) rfl (by decide) (hts _ q_fl_X8_50) rfl rfl dX8_digestSheets_21 ?_
      obtain ⟨q24, e24, h⟩ := gBind_some h
      refine g_callVi (k := 96) (T := TX6) (N := 5) (As := []) (rest := [.int (gI x5_18)]) ⟨hx, hb0, hml, hown, hts⟩ (metX6_count l D G 96 gSheets_96 σ μ q24 e24) (g_cwV (C := RX6) 0 hts q_ml_X8_169 q_im_X6_count q_se_X6_count q_in_X6 q_co_X6_count ⟨rfl, rfl⟩ (by decide +kernel) ⟨Nat.le_of_ble_eq_true rfl, Nat.le_of_ble_eq_true rfl⟩) hX hH gSheets_96.k rfl rfl hl.1 rfl (Nat.le_of_ble_eq_true rfl) dX8_digestSheets_24 ⟨Nat.zero_le _, Nat.zero_le _⟩ (fun H locs hH => ?_)
      refine g_icmp_ge (tgt := 67) hx hb0 dX8_digestSheets_27 (by decide) h (fun h => ?_) (fun h => ?_)
      · refine lv_lload_n hx hb0 dX8_digestSheets_67 rfl (lv_at hl 1 rfl) ?_
        exact g_lretP hx hb0 hr hH hlocks dX8_digestSheets_68 h
      · refine lv_iconst (v := gI (0 : Int)) hx hb0 dX8_digestSheets_30 (by decide) ?_
        refine lv_istore (lv' := [(6, .int (gI (0 : Int))), (5, .int (gI x5_18)), (3, .long x3_18), (0, .ref (G.1 0))]) hx hb0 dX8_digestSheets_31 hl (by decide) rfl (fun ls hl => ?_)
        have hK61 : ∀ (x3_61 : Int64) (H : Heap) (locs : List Loc) (ls : Array Slot), gH D G s H locs σ μ → lv_has ls 7 [(5, .int (gI x5_18)), (3, .long x3_61), (0, .ref (G.1 0))] → (DX8_digestSheets_K61 (DX8_digestSheets_L18 σ f18) x5_18 x3_61) = some r → W p l e (headSpec (gWs yX8_digestSheets cX8_digestSheets 7 (some (Jvm.ClassFile.FieldType.long))) ({ frames := 4, cells := 0, slots := 0, locals := 85 } : Room)).room s m ([.ref (G.1 0), .long a1] : List Value).toArray below meth c H locs 0 0 (MQ below (gQl D G r σ μ) ([.ref (G.1 0), .long a1] : List Value).toArray s 0 0 (gA G)) (F0 m 61 ls []) := by
          intro x3_61 H locs ls hH hl h
          unfold DX8_digestSheets_K61 at h
          refine g_iinc (k := 0) (n := (1 : Int)) (lv' := [(5, .int (gI (x5_18 + (1 : Int)))), (3, .long x3_61), (0, .ref (G.1 0))]) hx hb0 dX8_digestSheets_61 hl rfl (by decide) rfl (fun ls hl => ?_)
          refine lv_goto (tgt := 18) hx hb0 dX8_digestSheets_64 (by decide) ?_
          exact ih18 _ _ _ _ _ hH (lv_sub hl [0, 1, 2] rfl) h
        have hL33 : ∀ (f33 : Nat) (x6_33 : Int) (x3_33 : Int64) (H : Heap) (locs : List Loc) (ls : Array Slot), gH D G s H locs σ μ → lv_has ls 7 [(6, .int (gI x6_33)), (5, .int (gI x5_18)), (3, .long x3_33), (0, .ref (G.1 0))] → (DX8_digestSheets_L33 (DX8_digestSheets_K61 (DX8_digestSheets_L18 σ f18) x5_18) σ x5_18 f33 x6_33 x3_33) = some r → W p l e (headSpec (gWs yX8_digestSheets cX8_digestSheets 7 (some (Jvm.ClassFile.FieldType.long))) ({ frames := 4, cells := 0, slots := 0, locals := 85 } : Room)).room s m ([.ref (G.1 0), .long a1] : List Value).toArray below meth c H locs 0 0 (MQ below (gQl D G r σ μ) ([.ref (G.1 0), .long a1] : List Value).toArray s 0 0 (gA G)) (F0 m 33 ls []) := by
          intro f33
          induction f33 with
          | zero => intro x6_33 x3_33 H locs ls hH hl h; cases h
          | succ f33 ih33 =>
            intro x6_33 x3_33 H locs ls hH hl h
            unfold DX8_digestSheets_L33 at h
            refine lv_iload hx hb0 dX8_digestSheets_33 (lv_at hl 0 rfl) ?_
            refine lv_iconst (v := gI (5 : Int)) hx hb0 dX8_digestSheets_35 (by decide) ?_
            refine g_icmp_ge (tgt := 61) hx hb0 dX8_digestSheets_36 (by decide) h (fun h => ?_) (fun h => ?_)
            · exact hK61 _ _ _ _ hH (lv_sub hl [1, 2, 3] rfl) h
            · refine lv_ldc2 (v := (31 : Int64)) hx hb0 hown (hts _ q_kl_X8_279) dX8_digestSheets_39 ?_
              refine lv_lload_n hx hb0 dX8_digestSheets_42 rfl (lv_at hl 2 rfl) ?_
              refine lv_lmul hx hb0 dX8_digestSheets_43 ?_
              refine lv_aload_n hx hb0 dX8_digestSheets_44 rfl (lv_at hl 3 rfl) ?_
              refine lv_iload hx hb0 dX8_digestSheets_45 (lv_at hl 1 rfl) ?_
              refine lv_iload hx hb0 dX8_digestSheets_47 (lv_at hl 0 rfl) ?_
              obtain ⟨q49, e49, h⟩ := gBind_some h
              refine g_callVi (k := 0) (T := TX8) (N := 10) (As := [.int (gI x5_18), .int (gI x6_33)]) (rest := [.long ((31 : Int64) * x3_33)]) ⟨hx, hb0, hml, hown, hts⟩ (metX8_numberOfSheet l D G σ μ x5_18 x6_33 q49 e49) (g_cwV (C := RX8) 2 hts q_ml_X8_175 q_im_X8_numberOfSheet q_se_X8_numberOfSheet q_in_X8 q_co_X8_numberOfSheet ⟨rfl, rfl⟩ (by decide +kernel) ⟨Nat.le_of_ble_eq_true rfl, Nat.le_of_ble_eq_true rfl⟩) hX hH (rfl : gKinds[0]? = _) rfl rfl hl.1 rfl (Nat.le_of_ble_eq_true rfl) dX8_digestSheets_49 ⟨Nat.zero_le _, Nat.zero_le _⟩ (fun H locs hH => ?_)
              refine lv_i2l (v := (gI q49).toInt64) hx hb0 dX8_digestSheets_52 rfl ?_
              refine lv_ladd hx hb0 dX8_digestSheets_53 ?_
              refine lv_lstore_n (lv' := [(3, .long (((31 : Int64) * x3_33) + ((gI q49).toInt64))), (6, .int (gI x6_33)), (5, .int (gI x5_18)), (0, .ref (G.1 0))]) hx hb0 dX8_digestSheets_54 rfl hl (by decide) rfl (fun ls hl => ?_)
              refine g_iinc (k := 1) (n := (1 : Int)) (lv' := [(6, .int (gI (x6_33 + (1 : Int)))), (3, .long (((31 : Int64) * x3_33) + ((gI q49).toInt64))), (5, .int (gI x5_18)), (0, .ref (G.1 0))]) hx hb0 dX8_digestSheets_55 hl rfl (by decide) rfl (fun ls hl => ?_)
              refine lv_goto (tgt := 33) hx hb0 dX8_digestSheets_58 (by decide) ?_
              exact ih33 _ _ _ _ _ hH (lv_sub hl [0, 2, 1, 3] rfl) h
        exact hL33 gFuel _ _ _ _ _ hH (lv_sub hl [0, 1, 2, 3] rfl) h
  exact hL18 gFuel _ _ _ _ _ hH (lv_sub hl [0, 1, 2] rfl) h
def DX8_digestArrows_K49 (R5 : Int → Int64 → Option (Int64)) (x5_5 : Int) (x3_49 : Int64) : Option (Int64) :=
  (R5 (x5_5 + (1 : Int)) x3_49)
def DX8_digestArrows_L20 (K49 : Int64 → Option (Int64)) (σ : gSt) (x5_5 : Int) : Nat → Int → Int64 → Option (Int64)
  | 0, _, _ => none
  | f20 + 1, x6_20, x3_20 => gIf (x6_20 < (6 : Int)) x6_20 (6 : Int) ((DX8_numberOfArrow σ x5_5 x6_20).bind fun q37 => ((DX8_digestArrows_L20 K49 σ x5_5 f20) (x6_20 + (1 : Int)) (((31 : Int64) * x3_20) + ((gI q37).toInt64)))) ((K49 x3_20))
def DX8_digestArrows_L5 (σ : gSt) : Nat → Int → Int64 → Option (Int64)
  | 0, _, _ => none
  | f5 + 1, x5_5, x3_5 => (DX5_arrowCount 1 σ).bind fun q11 => gIf (x5_5 < q11) x5_5 q11 ((DX8_digestArrows_L20 (DX8_digestArrows_K49 (DX8_digestArrows_L5 σ f5) x5_5) σ x5_5 gFuel (0 : Int) x3_5)) (some x3_5)
def DX8_digestArrows (σ : gSt) (a1 : Int64) : Option (Int64) :=
  (DX8_digestArrows_L5 σ gFuel (0 : Int) a1)
set_option maxHeartbeats 4000000 in
set_option maxRecDepth 100000 in
theorem metX8_digestArrows (l : Launch) (D : va_G) (G : gAd) (σ : gSt) (μ : gLg) (a1 : Int64) (r : Int64) (h : DX8_digestArrows σ a1 = some r) : Met l yX8_digestArrows (gWs yX8_digestArrows cX8_digestArrows 7 (some (Jvm.ClassFile.FieldType.long))) ({ frames := 4, cells := 0, slots := 0, locals := 85 } : Room) (gPc D G [.ref (G.1 0), .long a1] σ μ) (gQl D G r σ μ) 0 0 (gA G) := by
  refine Met.ofW (cc := cX8_digestArrows) (maxL := 7) (ret := (some (Jvm.ClassFile.FieldType.long))) (by decide) rfl ?_
  intro p e s m args below meth c s₁ B hml hv
  obtain ⟨rfl, hP, hX⟩ := hv
  have hx := B.exec
  have hb0 := B.bytes
  have hr := B.returns
  have hts0 := atoms_spec (ws := (gWs yX8_digestArrows cX8_digestArrows 7 (some (Jvm.ClassFile.FieldType.long)))) B.pre
  have hts : ∀ w ∈ gLW, w.before _ s = true := fun w hw => hts0 w (List.mem_cons_of_mem _ hw)
  have hown : s.vm.findClass RX8 = some m.cls := findClass_of_methodNamed B.named
  have hlocks := B.notSynchronized
  have hH : gH D G s s.heap [] σ μ := ⟨hP, va_S.rf⟩
  have hl := lv_entry ([.ref (G.1 0), .long a1]) (n := 7) (Nat.le_of_ble_eq_true rfl)
  rw [lg_entry_eq]
  generalize (lg_sl ([.ref (G.1 0), .long a1]) ++ List.replicate (7 - (lg_sl ([.ref (G.1 0), .long a1])).length) Slot.unset).toArray = ls at hl ⊢
  have hl : lv_has ls 7 [(0, .ref (G.1 0)), (1, .long a1)] := hl
  unfold DX8_digestArrows at h
  refine lv_lload_n hx hb0 dX8_digestArrows_0 rfl (lv_at hl 1 rfl) ?_
  refine lv_lstore_n (lv' := [(3, .long a1), (0, .ref (G.1 0)), (1, .long a1)]) hx hb0 dX8_digestArrows_1 rfl hl (by decide) rfl (fun ls hl => ?_)
  refine lv_iconst (v := gI (0 : Int)) hx hb0 dX8_digestArrows_2 (by decide) ?_
  refine lv_istore (lv' := [(5, .int (gI (0 : Int))), (3, .long a1), (0, .ref (G.1 0)), (1, .long a1)]) hx hb0 dX8_digestArrows_3 hl (by decide) rfl (fun ls hl => ?_)
  have hL5 : ∀ (f5 : Nat) (x5_5 : Int) (x3_5 : Int64) (H : Heap) (locs : List Loc) (ls : Array Slot), gH D G s H locs σ μ → lv_has ls 7 [(5, .int (gI x5_5)), (3, .long x3_5), (0, .ref (G.1 0))] → (DX8_digestArrows_L5 σ f5 x5_5 x3_5) = some r → W p l e (headSpec (gWs yX8_digestArrows cX8_digestArrows 7 (some (Jvm.ClassFile.FieldType.long))) ({ frames := 4, cells := 0, slots := 0, locals := 85 } : Room)).room s m ([.ref (G.1 0), .long a1] : List Value).toArray below meth c H locs 0 0 (MQ below (gQl D G r σ μ) ([.ref (G.1 0), .long a1] : List Value).toArray s 0 0 (gA G)) (F0 m 5 ls []) := by
    intro f5
    induction f5 with
    | zero => intro x5_5 x3_5 H locs ls hH hl h; cases h
    | succ f5 ih5 =>
      intro x5_5 x3_5 H locs ls hH hl h
      unfold DX8_digestArrows_L5 at h
      refine lv_iload hx hb0 dX8_digestArrows_5 (lv_at hl 0 rfl) ?_
      refine lv_aload_n hx hb0 dX8_digestArrows_7 rfl (lv_at hl 2 rfl) ?_
      refine g_getR hx hb0 hts q_ws_X8 hown hX hH (C := RX8) (T := TX8) (N := 10) (k := 0) (i := 0) (j := 1) (rfl : gKinds[0]? = _) rfl (by decide) (hts _ q_fl_X8_12) rfl rfl dX8_digestArrows_8 ?_
      obtain ⟨q11, e11, h⟩ := gBind_some h
      refine g_callVi (k := 1) (T := TX5) (N := 8) (As := []) (rest := [.int (gI x5_5)]) ⟨hx, hb0, hml, hown, hts⟩ (metX5_arrowCount l D G 1 gPlan_1 σ μ q11 e11) (g_cwV (C := RX5) 0 hts q_ml_X8_137 q_im_X5_arrowCount q_se_X5_arrowCount q_in_X5 q_co_X5_arrowCount ⟨rfl, rfl⟩ (by decide +kernel) ⟨Nat.le_of_ble_eq_true rfl, Nat.le_of_ble_eq_true rfl⟩) hX hH gPlan_1.k rfl rfl hl.1 rfl (Nat.le_of_ble_eq_true rfl) dX8_digestArrows_11 ⟨Nat.zero_le _, Nat.zero_le _⟩ (fun H locs hH => ?_)
      refine g_icmp_ge (tgt := 55) hx hb0 dX8_digestArrows_14 (by decide) h (fun h => ?_) (fun h => ?_)
      · refine lv_lload_n hx hb0 dX8_digestArrows_55 rfl (lv_at hl 1 rfl) ?_
        exact g_lretP hx hb0 hr hH hlocks dX8_digestArrows_56 h
      · refine lv_iconst (v := gI (0 : Int)) hx hb0 dX8_digestArrows_17 (by decide) ?_
        refine lv_istore (lv' := [(6, .int (gI (0 : Int))), (5, .int (gI x5_5)), (3, .long x3_5), (0, .ref (G.1 0))]) hx hb0 dX8_digestArrows_18 hl (by decide) rfl (fun ls hl => ?_)
        have hK49 : ∀ (x3_49 : Int64) (H : Heap) (locs : List Loc) (ls : Array Slot), gH D G s H locs σ μ → lv_has ls 7 [(5, .int (gI x5_5)), (3, .long x3_49), (0, .ref (G.1 0))] → (DX8_digestArrows_K49 (DX8_digestArrows_L5 σ f5) x5_5 x3_49) = some r → W p l e (headSpec (gWs yX8_digestArrows cX8_digestArrows 7 (some (Jvm.ClassFile.FieldType.long))) ({ frames := 4, cells := 0, slots := 0, locals := 85 } : Room)).room s m ([.ref (G.1 0), .long a1] : List Value).toArray below meth c H locs 0 0 (MQ below (gQl D G r σ μ) ([.ref (G.1 0), .long a1] : List Value).toArray s 0 0 (gA G)) (F0 m 49 ls []) := by
          intro x3_49 H locs ls hH hl h
          unfold DX8_digestArrows_K49 at h
          refine g_iinc (k := 0) (n := (1 : Int)) (lv' := [(5, .int (gI (x5_5 + (1 : Int)))), (3, .long x3_49), (0, .ref (G.1 0))]) hx hb0 dX8_digestArrows_49 hl rfl (by decide) rfl (fun ls hl => ?_)
          refine lv_goto (tgt := 5) hx hb0 dX8_digestArrows_52 (by decide) ?_
          exact ih5 _ _ _ _ _ hH (lv_sub hl [0, 1, 2] rfl) h
        have hL20 : ∀ (f20 : Nat) (x6_20 : Int) (x3_20 : Int64) (H : Heap) (locs : List Loc) (ls : Array Slot), gH D G s H locs σ μ → lv_has ls 7 [(6, .int (gI x6_20)), (5, .int (gI x5_5)), (3, .long x3_20), (0, .ref (G.1 0))] → (DX8_digestArrows_L20 (DX8_digestArrows_K49 (DX8_digestArrows_L5 σ f5) x5_5) σ x5_5 f20 x6_20 x3_20) = some r → W p l e (headSpec (gWs yX8_digestArrows cX8_digestArrows 7 (some (Jvm.ClassFile.FieldType.long))) ({ frames := 4, cells := 0, slots := 0, locals := 85 } : Room)).room s m ([.ref (G.1 0), .long a1] : List Value).toArray below meth c H locs 0 0 (MQ below (gQl D G r σ μ) ([.ref (G.1 0), .long a1] : List Value).toArray s 0 0 (gA G)) (F0 m 20 ls []) := by
          intro f20
          induction f20 with
          | zero => intro x6_20 x3_20 H locs ls hH hl h; cases h
          | succ f20 ih20 =>
            intro x6_20 x3_20 H locs ls hH hl h
            unfold DX8_digestArrows_L20 at h
            refine lv_iload hx hb0 dX8_digestArrows_20 (lv_at hl 0 rfl) ?_
            refine lv_bipush (v := gI (6 : Int)) hx hb0 dX8_digestArrows_22 (by decide) ?_
            refine g_icmp_ge (tgt := 49) hx hb0 dX8_digestArrows_24 (by decide) h (fun h => ?_) (fun h => ?_)
            · exact hK49 _ _ _ _ hH (lv_sub hl [1, 2, 3] rfl) h
            · refine lv_ldc2 (v := (31 : Int64)) hx hb0 hown (hts _ q_kl_X8_279) dX8_digestArrows_27 ?_
              refine lv_lload_n hx hb0 dX8_digestArrows_30 rfl (lv_at hl 2 rfl) ?_
              refine lv_lmul hx hb0 dX8_digestArrows_31 ?_
              refine lv_aload_n hx hb0 dX8_digestArrows_32 rfl (lv_at hl 3 rfl) ?_
              refine lv_iload hx hb0 dX8_digestArrows_33 (lv_at hl 1 rfl) ?_
              refine lv_iload hx hb0 dX8_digestArrows_35 (lv_at hl 0 rfl) ?_
              obtain ⟨q37, e37, h⟩ := gBind_some h
              refine g_callVi (k := 0) (T := TX8) (N := 10) (As := [.int (gI x5_5), .int (gI x6_20)]) (rest := [.long ((31 : Int64) * x3_20)]) ⟨hx, hb0, hml, hown, hts⟩ (metX8_numberOfArrow l D G σ μ x5_5 x6_20 q37 e37) (g_cwV (C := RX8) 2 hts q_ml_X8_198 q_im_X8_numberOfArrow q_se_X8_numberOfArrow q_in_X8 q_co_X8_numberOfArrow ⟨rfl, rfl⟩ (by decide +kernel) ⟨Nat.le_of_ble_eq_true rfl, Nat.le_of_ble_eq_true rfl⟩) hX hH (rfl : gKinds[0]? = _) rfl rfl hl.1 rfl (Nat.le_of_ble_eq_true rfl) dX8_digestArrows_37 ⟨Nat.zero_le _, Nat.zero_le _⟩ (fun H locs hH => ?_)
              refine lv_i2l (v := (gI q37).toInt64) hx hb0 dX8_digestArrows_40 rfl ?_
              refine lv_ladd hx hb0 dX8_digestArrows_41 ?_
              refine lv_lstore_n (lv' := [(3, .long (((31 : Int64) * x3_20) + ((gI q37).toInt64))), (6, .int (gI x6_20)), (5, .int (gI x5_5)), (0, .ref (G.1 0))]) hx hb0 dX8_digestArrows_42 rfl hl (by decide) rfl (fun ls hl => ?_)
              refine g_iinc (k := 1) (n := (1 : Int)) (lv' := [(6, .int (gI (x6_20 + (1 : Int)))), (3, .long (((31 : Int64) * x3_20) + ((gI q37).toInt64))), (5, .int (gI x5_5)), (0, .ref (G.1 0))]) hx hb0 dX8_digestArrows_43 hl rfl (by decide) rfl (fun ls hl => ?_)
              refine lv_goto (tgt := 20) hx hb0 dX8_digestArrows_46 (by decide) ?_
              exact ih20 _ _ _ _ _ hH (lv_sub hl [0, 2, 1, 3] rfl) h
        exact hL20 gFuel _ _ _ _ _ hH (lv_sub hl [0, 1, 2, 3] rfl) h
  exact hL5 gFuel _ _ _ _ _ hH (lv_sub hl [0, 1, 2] rfl) h
def DX8_digest_K40 (σ : gSt) (x1_40 : Int64) : Option (Int64 × gSt) :=
  (DX8_digestTasks σ x1_40).bind fun q42 => (DX8_digestBands σ q42).bind fun q48 => (DX8_digestSheets σ q48).bind fun q54 => (DX8_digestArrows σ q54).bind fun q60 => (DX1_longest 84 1 σ).bind fun q77 => (DX3_count q77.2).bind fun q92 => some ((((31 : Int64) * (((31 : Int64) * q60) + ((gI q77.1).toInt64))) + ((gI q92).toInt64)), q77.2)
def DX8_digest_L15 (K40 : Int64 → Option (Int64 × gSt)) (σ : gSt) : Nat → Int → Int64 → Option (Int64 × gSt)
  | 0, _, _ => none
  | f15 + 1, x3_15, x1_15 => gIf (x3_15 < (6 : Int)) x3_15 (6 : Int) ((DX8_numberOfPlan σ x3_15).bind fun q28 => ((DX8_digest_L15 K40 σ f15) (x3_15 + (1 : Int)) (((31 : Int64) * x1_15) + ((gI q28).toInt64)))) ((K40 x1_15))
def DX8_digest (σ : gSt) : Option (Int64 × gSt) :=
  (DX7_length 81 σ).bind fun q7 => (DX8_digest_L15 (DX8_digest_K40 σ) σ gFuel (0 : Int) ((101029 : Int64) + ((gI q7).toInt64)))
set_option maxHeartbeats 4000000 in
set_option maxRecDepth 100000 in
theorem metX8_digest (l : Launch) (D : va_G) (G : gAd) (σ : gSt) (μ : gLg) (r : Int64) (σ' : gSt) (h : DX8_digest σ = some (r, σ')) : Met l yX8_digest (gWs yX8_digest cX8_digest 4 (some (Jvm.ClassFile.FieldType.long))) ({ frames := 5, cells := 0, slots := 0, locals := 112 } : Room) (gPc D G [.ref (G.1 0)] σ μ) (gQl D G r σ' μ) 0 0 (gA G) := by
  refine Met.ofW (cc := cX8_digest) (maxL := 4) (ret := (some (Jvm.ClassFile.FieldType.long))) (by decide) rfl ?_
  intro p e s m args below meth c s₁ B hml hv
  obtain ⟨rfl, hP, hX⟩ := hv
  have hx := B.exec
  have hb0 := B.bytes
  have hr := B.returns
  have hts0 := atoms_spec (ws := (gWs yX8_digest cX8_digest 4 (some (Jvm.ClassFile.FieldType.long)))) B.pre
  have hts : ∀ w ∈ gLW, w.before _ s = true := fun w hw => hts0 w (List.mem_cons_of_mem _ hw)
  have hown : s.vm.findClass RX8 = some m.cls := findClass_of_methodNamed B.named
  have hlocks := B.notSynchronized
  have hH : gH D G s s.heap [] σ μ := ⟨hP, va_S.rf⟩
  have hl := lv_entry ([.ref (G.1 0)]) (n := 4) (Nat.le_of_ble_eq_true rfl)
  rw [lg_entry_eq]
  generalize (lg_sl ([.ref (G.1 0)]) ++ List.replicate (4 - (lg_sl ([.ref (G.1 0)])).length) Slot.unset).toArray = ls at hl ⊢
  have hl : lv_has ls 4 [(0, .ref (G.1 0))] := hl
  unfold DX8_digest at h
  refine lv_ldc2 (v := (101029 : Int64)) hx hb0 hown (hts _ q_kl_X8_277) dX8_digest_0 ?_
  refine lv_aload_n hx hb0 dX8_digest_3 rfl (lv_at hl 0 rfl) ?_
  refine g_getR hx hb0 hts q_ws_X8 hown hX hH (C := RX8) (T := TX8) (N := 10) (k := 0) (i := 3) (j := 81) (rfl : gKinds[0]? = _) rfl (by decide) (hts _ q_fl_X8_29) rfl rfl dX8_digest_4 ?_
  obtain ⟨q7, e7, h⟩ := gBind_some h
  refine g_callVi (k := 81) (T := TX7) (N := 5) (As := []) (rest := [.long (101029 : Int64)]) ⟨hx, hb0, hml, hown, hts⟩ (metX7_length l D G 81 gText_81 σ μ q7 e7) (g_cwV (C := RX7) 0 hts q_ml_X8_254 q_im_X7_length q_se_X7_length q_in_X7 q_co_X7_length ⟨rfl, rfl⟩ (by decide +kernel) ⟨Nat.le_of_ble_eq_true rfl, Nat.le_of_ble_eq_true rfl⟩) hX hH gText_81.k rfl rfl hl.1 rfl (Nat.le_of_ble_eq_true rfl) dX8_digest_7 ⟨Nat.zero_le _, Nat.zero_le _⟩ (fun H locs hH => ?_)
  refine lv_i2l (v := (gI q7).toInt64) hx hb0 dX8_digest_10 rfl ?_
  refine lv_ladd hx hb0 dX8_digest_11 ?_
  refine lv_lstore_n (lv' := [(1, .long ((101029 : Int64) + ((gI q7).toInt64))), (0, .ref (G.1 0))]) hx hb0 dX8_digest_12 rfl hl (by decide) rfl (fun ls hl => ?_)
  refine lv_iconst (v := gI (0 : Int)) hx hb0 dX8_digest_13 (by decide) ?_
  refine lv_istore_n (lv' := [(3, .int (gI (0 : Int))), (1, .long ((101029 : Int64) + ((gI q7).toInt64))), (0, .ref (G.1 0))]) hx hb0 dX8_digest_14 rfl hl (by decide) rfl (fun ls hl => ?_)
  have hK40 : ∀ (x1_40 : Int64) (H : Heap) (locs : List Loc) (ls : Array Slot), gH D G s H locs σ μ → lv_has ls 4 [(1, .long x1_40), (0, .ref (G.1 0))] → (DX8_digest_K40 σ x1_40) = some (r, σ') → W p l e (headSpec (gWs yX8_digest cX8_digest 4 (some (Jvm.ClassFile.FieldType.long))) ({ frames := 5, cells := 0, slots := 0, locals := 112 } : Room)).room s m ([.ref (G.1 0)] : List Value).toArray below meth c H locs 0 0 (MQ below (gQl D G r σ' μ) ([.ref (G.1 0)] : List Value).toArray s 0 0 (gA G)) (F0 m 40 ls []) := by
    intro x1_40 H locs ls hH hl h
    unfold DX8_digest_K40 at h
    refine lv_aload_n hx hb0 dX8_digest_40 rfl (lv_at hl 1 rfl) ?_
    refine lv_lload_n hx hb0 dX8_digest_41 rfl (lv_at hl 0 rfl) ?_
    obtain ⟨q42, e42, h⟩ := gBind_some h
    refine g_callVl (k := 0) (T := TX8) (N := 10) (As := [.long x1_40]) (rest := []) ⟨hx, hb0, hml, hown, hts⟩ (metX8_digestTasks l D G σ μ x1_40 q42 e42) (g_cwV (C := RX8) 1 hts q_ml_X8_281 q_im_X8_digestTasks q_se_X8_digestTasks q_in_X8 q_co_X8_digestTasks ⟨rfl, rfl⟩ (by decide +kernel) ⟨Nat.le_of_ble_eq_true rfl, Nat.le_of_ble_eq_true rfl⟩) hX hH (rfl : gKinds[0]? = _) rfl rfl hl.1 rfl (Nat.le_of_ble_eq_true rfl) dX8_digest_42 ⟨Nat.zero_le _, Nat.zero_le _⟩ (fun H locs hH => ?_)
    refine lv_lstore_n (lv' := [(1, .long q42), (0, .ref (G.1 0))]) hx hb0 dX8_digest_45 rfl hl (by decide) rfl (fun ls hl => ?_)
    refine lv_aload_n hx hb0 dX8_digest_46 rfl (lv_at hl 1 rfl) ?_
    refine lv_lload_n hx hb0 dX8_digest_47 rfl (lv_at hl 0 rfl) ?_
    obtain ⟨q48, e48, h⟩ := gBind_some h
    refine g_callVl (k := 0) (T := TX8) (N := 10) (As := [.long q42]) (rest := []) ⟨hx, hb0, hml, hown, hts⟩ (metX8_digestBands l D G σ μ q42 q48 e48) (g_cwV (C := RX8) 1 hts q_ml_X8_285 q_im_X8_digestBands q_se_X8_digestBands q_in_X8 q_co_X8_digestBands ⟨rfl, rfl⟩ (by decide +kernel) ⟨Nat.le_of_ble_eq_true rfl, Nat.le_of_ble_eq_true rfl⟩) hX hH (rfl : gKinds[0]? = _) rfl rfl hl.1 rfl (Nat.le_of_ble_eq_true rfl) dX8_digest_48 ⟨Nat.zero_le _, Nat.zero_le _⟩ (fun H locs hH => ?_)
    refine lv_lstore_n (lv' := [(1, .long q48), (0, .ref (G.1 0))]) hx hb0 dX8_digest_51 rfl hl (by decide) rfl (fun ls hl => ?_)
    refine lv_aload_n hx hb0 dX8_digest_52 rfl (lv_at hl 1 rfl) ?_
    refine lv_lload_n hx hb0 dX8_digest_53 rfl (lv_at hl 0 rfl) ?_
    obtain ⟨q54, e54, h⟩ := gBind_some h
    refine g_callVl (k := 0) (T := TX8) (N := 10) (As := [.long q48]) (rest := []) ⟨hx, hb0, hml, hown, hts⟩ (metX8_digestSheets l D G σ μ q48 q54 e54) (g_cwV (C := RX8) 1 hts q_ml_X8_288 q_im_X8_digestSheets q_se_X8_digestSheets q_in_X8 q_co_X8_digestSheets ⟨rfl, rfl⟩ (by decide +kernel) ⟨Nat.le_of_ble_eq_true rfl, Nat.le_of_ble_eq_true rfl⟩) hX hH (rfl : gKinds[0]? = _) rfl rfl hl.1 rfl (Nat.le_of_ble_eq_true rfl) dX8_digest_54 ⟨Nat.zero_le _, Nat.zero_le _⟩ (fun H locs hH => ?_)
    refine lv_lstore_n (lv' := [(1, .long q54), (0, .ref (G.1 0))]) hx hb0 dX8_digest_57 rfl hl (by decide) rfl (fun ls hl => ?_)
    refine lv_aload_n hx hb0 dX8_digest_58 rfl (lv_at hl 1 rfl) ?_
    refine lv_lload_n hx hb0 dX8_digest_59 rfl (lv_at hl 0 rfl) ?_
    obtain ⟨q60, e60, h⟩ := gBind_some h
    refine g_callVl (k := 0) (T := TX8) (N := 10) (As := [.long q54]) (rest := []) ⟨hx, hb0, hml, hown, hts⟩ (metX8_digestArrows l D G σ μ q54 q60 e60) (g_cwV (C := RX8) 1 hts q_ml_X8_291 q_im_X8_digestArrows q_se_X8_digestArrows q_in_X8 q_co_X8_digestArrows ⟨rfl, rfl⟩ (by decide +kernel) ⟨Nat.le_of_ble_eq_true rfl, Nat.le_of_ble_eq_true rfl⟩) hX hH (rfl : gKinds[0]? = _) rfl rfl hl.1 rfl (Nat.le_of_ble_eq_true rfl) dX8_digest_60 ⟨Nat.zero_le _, Nat.zero_le _⟩ (fun H locs hH => ?_)
    refine lv_lstore_n (lv' := [(1, .long q60), (0, .ref (G.1 0))]) hx hb0 dX8_digest_63 rfl hl (by decide) rfl (fun ls hl => ?_)
    refine lv_ldc2 (v := (31 : Int64)) hx hb0 hown (hts _ q_kl_X8_279) dX8_digest_64 ?_
    refine lv_lload_n hx hb0 dX8_digest_67 rfl (lv_at hl 0 rfl) ?_
    refine lv_lmul hx hb0 dX8_digest_68 ?_
    refine lv_aload_n hx hb0 dX8_digest_69 rfl (lv_at hl 1 rfl) ?_
    refine g_getR hx hb0 hts q_ws_X8 hown hX hH (C := RX8) (T := TX8) (N := 10) (k := 0) (i := 4) (j := 84) (rfl : gKinds[0]? = _) rfl (by decide) (hts _ q_fl_X8_36) rfl rfl dX8_digest_70 ?_
    refine lv_aload_n hx hb0 dX8_digest_73 rfl (lv_at hl 1 rfl) ?_
    refine g_getR hx hb0 hts q_ws_X8 hown hX hH (C := RX8) (T := TX8) (N := 10) (k := 0) (i := 0) (j := 1) (rfl : gKinds[0]? = _) rfl (by decide) (hts _ q_fl_X8_12) rfl rfl dX8_digest_74 ?_
    obtain ⟨q77, e77, h⟩ := gBind_some h
    refine g_callVi (k := 84) (T := TX1) (N := 1) (As := [.ref (G.1 1)]) (rest := [.long ((31 : Int64) * q60)]) ⟨hx, hb0, hml, hown, hts⟩ (metX1_longest l D G 84 1 gChains_84 gPlan_1 σ μ q77.1 q77.2 e77) (g_cwV (C := RX1) 1 hts q_ml_X8_248 q_im_X1_longest q_se_X1_longest q_in_X1 q_co_X1_longest ⟨rfl, rfl⟩ (by decide +kernel) ⟨Nat.le_of_ble_eq_true rfl, Nat.le_of_ble_eq_true rfl⟩) hX hH gChains_84.k rfl rfl hl.1 rfl (Nat.le_of_ble_eq_true rfl) dX8_digest_77 ⟨Nat.zero_le _, Nat.zero_le _⟩ (fun H locs hH => ?_)
    refine lv_i2l (v := (gI q77.1).toInt64) hx hb0 dX8_digest_80 rfl ?_
    refine lv_ladd hx hb0 dX8_digest_81 ?_
    refine lv_lstore_n (lv' := [(1, .long (((31 : Int64) * q60) + ((gI q77.1).toInt64))), (0, .ref (G.1 0))]) hx hb0 dX8_digest_82 rfl hl (by decide) rfl (fun ls hl => ?_)
    refine lv_ldc2 (v := (31 : Int64)) hx hb0 hown (hts _ q_kl_X8_279) dX8_digest_83 ?_
    refine lv_lload_n hx hb0 dX8_digest_86 rfl (lv_at hl 0 rfl) ?_
    refine lv_lmul hx hb0 dX8_digest_87 ?_
    refine lv_aload_n hx hb0 dX8_digest_88 rfl (lv_at hl 1 rfl) ?_
    refine g_getR hx hb0 hts q_ws_X8 hown hX hH (C := RX8) (T := TX8) (N := 10) (k := 0) (i := 2) (j := 27) (rfl : gKinds[0]? = _) rfl (by decide) (hts _ q_fl_X8_22) rfl rfl dX8_digest_89 ?_
    obtain ⟨q92, e92, h⟩ := gBind_some h
    refine g_callVi (k := 27) (T := TX3) (N := 3) (As := []) (rest := [.long ((31 : Int64) * (((31 : Int64) * q60) + ((gI q77.1).toInt64)))]) ⟨hx, hb0, hml, hown, hts⟩ (metX3_count l D G q77.2 μ q92 e92) (g_cwV (C := RX3) 0 hts q_ml_X8_271 q_im_X3_count q_se_X3_count q_in_X3 q_co_X3_count ⟨rfl, rfl⟩ (by decide +kernel) ⟨Nat.le_of_ble_eq_true rfl, Nat.le_of_ble_eq_true rfl⟩) hX hH (rfl : gKinds[27]? = _) rfl rfl hl.1 rfl (Nat.le_of_ble_eq_true rfl) dX8_digest_92 ⟨Nat.zero_le _, Nat.zero_le _⟩ (fun H locs hH => ?_)
    refine lv_i2l (v := (gI q92).toInt64) hx hb0 dX8_digest_95 rfl ?_
    refine lv_ladd hx hb0 dX8_digest_96 ?_
    exact g_lretS hx hb0 hr hH hlocks dX8_digest_97 h
  have hL15 : ∀ (f15 : Nat) (x3_15 : Int) (x1_15 : Int64) (H : Heap) (locs : List Loc) (ls : Array Slot), gH D G s H locs σ μ → lv_has ls 4 [(3, .int (gI x3_15)), (1, .long x1_15), (0, .ref (G.1 0))] → (DX8_digest_L15 (DX8_digest_K40 σ) σ f15 x3_15 x1_15) = some (r, σ') → W p l e (headSpec (gWs yX8_digest cX8_digest 4 (some (Jvm.ClassFile.FieldType.long))) ({ frames := 5, cells := 0, slots := 0, locals := 112 } : Room)).room s m ([.ref (G.1 0)] : List Value).toArray below meth c H locs 0 0 (MQ below (gQl D G r σ' μ) ([.ref (G.1 0)] : List Value).toArray s 0 0 (gA G)) (F0 m 15 ls []) := by
    intro f15
    induction f15 with
    | zero => intro x3_15 x1_15 H locs ls hH hl h; cases h
    | succ f15 ih15 =>
      intro x3_15 x1_15 H locs ls hH hl h
      unfold DX8_digest_L15 at h
      refine lv_iload_n hx hb0 dX8_digest_15 rfl (lv_at hl 0 rfl) ?_
      refine lv_bipush (v := gI (6 : Int)) hx hb0 dX8_digest_16 (by decide) ?_
      refine g_icmp_ge (tgt := 40) hx hb0 dX8_digest_18 (by decide) h (fun h => ?_) (fun h => ?_)
      · exact hK40 _ _ _ _ hH (lv_sub hl [1, 2] rfl) h
      · refine lv_ldc2 (v := (31 : Int64)) hx hb0 hown (hts _ q_kl_X8_279) dX8_digest_21 ?_
        refine lv_lload_n hx hb0 dX8_digest_24 rfl (lv_at hl 1 rfl) ?_
        refine lv_lmul hx hb0 dX8_digest_25 ?_
        refine lv_aload_n hx hb0 dX8_digest_26 rfl (lv_at hl 2 rfl) ?_
        refine lv_iload_n hx hb0 dX8_digest_27 rfl (lv_at hl 0 rfl) ?_
        obtain ⟨q28, e28, h⟩ := gBind_some h
        refine g_callVi (k := 0) (T := TX8) (N := 10) (As := [.int (gI x3_15)]) (rest := [.long ((31 : Int64) * x1_15)]) ⟨hx, hb0, hml, hown, hts⟩ (metX8_numberOfPlan l D G σ μ x3_15 q28 e28) (g_cwV (C := RX8) 1 hts q_ml_X8_95 q_im_X8_numberOfPlan q_se_X8_numberOfPlan q_in_X8 q_co_X8_numberOfPlan ⟨rfl, rfl⟩ (by decide +kernel) ⟨Nat.le_of_ble_eq_true rfl, Nat.le_of_ble_eq_true rfl⟩) hX hH (rfl : gKinds[0]? = _) rfl rfl hl.1 rfl (Nat.le_of_ble_eq_true rfl) dX8_digest_28 ⟨Nat.zero_le _, Nat.zero_le _⟩ (fun H locs hH => ?_)
        refine lv_i2l (v := (gI q28).toInt64) hx hb0 dX8_digest_31 rfl ?_
        refine lv_ladd hx hb0 dX8_digest_32 ?_
        refine lv_lstore_n (lv' := [(1, .long (((31 : Int64) * x1_15) + ((gI q28).toInt64))), (3, .int (gI x3_15)), (0, .ref (G.1 0))]) hx hb0 dX8_digest_33 rfl hl (by decide) rfl (fun ls hl => ?_)
        refine g_iinc (k := 1) (n := (1 : Int)) (lv' := [(3, .int (gI (x3_15 + (1 : Int)))), (1, .long (((31 : Int64) * x1_15) + ((gI q28).toInt64))), (0, .ref (G.1 0))]) hx hb0 dX8_digest_34 hl rfl (by decide) rfl (fun ls hl => ?_)
        refine lv_goto (tgt := 15) hx hb0 dX8_digest_37 (by decide) ?_
        exact ih15 _ _ _ _ _ hH (lv_sub hl [0, 1, 2] rfl) h
  exact hL15 gFuel _ _ _ _ _ hH (lv_sub hl [0, 1, 2] rfl) h
def DX9_thrown (σ : gSt) : Option (Int) :=
  some (σ 136 6)
set_option maxHeartbeats 4000000 in
set_option maxRecDepth 100000 in
theorem metX9_thrown (l : Launch) (D : va_G) (G : gAd) (σ : gSt) (μ : gLg) (r : Int) (h : DX9_thrown σ = some r) : Met l yX9_thrown (gWs yX9_thrown cX9_thrown 1 (some (Jvm.ClassFile.FieldType.int))) ({ frames := 0, cells := 0, slots := 0, locals := 0 } : Room) (gPc D G [.ref (G.1 136)] σ μ) (gQi D G r σ μ) 0 0 (gA G) := by
  refine Met.ofW (cc := cX9_thrown) (maxL := 1) (ret := (some (Jvm.ClassFile.FieldType.int))) (by decide) rfl ?_
  intro p e s m args below meth c s₁ B hml hv
  obtain ⟨rfl, hP, hX⟩ := hv
  have hx := B.exec
  have hb0 := B.bytes
  have hr := B.returns
  have hts0 := atoms_spec (ws := (gWs yX9_thrown cX9_thrown 1 (some (Jvm.ClassFile.FieldType.int)))) B.pre
  have hts : ∀ w ∈ gLW, w.before _ s = true := fun w hw => hts0 w (List.mem_cons_of_mem _ hw)
  have hown : s.vm.findClass RX9 = some m.cls := findClass_of_methodNamed B.named
  have hlocks := B.notSynchronized
  have hH : gH D G s s.heap [] σ μ := ⟨hP, va_S.rf⟩
  have hl := lv_entry ([.ref (G.1 136)]) (n := 1) (Nat.le_of_ble_eq_true rfl)
  rw [lg_entry_eq]
  generalize (lg_sl ([.ref (G.1 136)]) ++ List.replicate (1 - (lg_sl ([.ref (G.1 136)])).length) Slot.unset).toArray = ls at hl ⊢
  have hl : lv_has ls 1 [(0, .ref (G.1 136))] := hl
  unfold DX9_thrown at h
  refine lv_aload_n hx hb0 dX9_thrown_0 rfl (lv_at hl 0 rfl) ?_
  refine g_getI hx hb0 hts q_ws_X9 hown hX hH (C := RX9) (T := TX9) (N := 19) (k := 136) (i := 6) (rfl : gKinds[136]? = _) rfl (by decide) (hts _ q_fl_X9_40) rfl rfl dX9_thrown_1 ?_
  exact g_iretP hx hb0 hr hH hlocks dX9_thrown_4 h
def DX9_in (σ : gSt) (a0 : Int) (a1 : Int) (a2 : Int) : Option (Int) :=
  gIf (a0 < a1) a0 a1 (gBo (0 : Int) (some (0 : Int))) (gIf (a2 < a0) a0 a2 (gBo (0 : Int) (some (0 : Int))) (gBo (1 : Int) (some (1 : Int))))
set_option maxHeartbeats 4000000 in
set_option maxRecDepth 100000 in
theorem metX9_in (l : Launch) (D : va_G) (G : gAd) (σ : gSt) (μ : gLg) (a0 : Int) (a1 : Int) (a2 : Int) (r : Int) (h : DX9_in σ a0 a1 a2 = some r) : Met l yX9_in (gWs yX9_in cX9_in 3 (some (Jvm.ClassFile.FieldType.boolean))) ({ frames := 0, cells := 0, slots := 0, locals := 0 } : Room) (gPc D G [.int (gI a0), .int (gI a1), .int (gI a2)] σ μ) (gQi D G r σ μ) 0 0 (gA G) := by
  refine Met.ofW (cc := cX9_in) (maxL := 3) (ret := (some (Jvm.ClassFile.FieldType.boolean))) (by decide) rfl ?_
  intro p e s m args below meth c s₁ B hml hv
  obtain ⟨rfl, hP, hX⟩ := hv
  have hx := B.exec
  have hb0 := B.bytes
  have hr := B.returns
  have hts0 := atoms_spec (ws := (gWs yX9_in cX9_in 3 (some (Jvm.ClassFile.FieldType.boolean)))) B.pre
  have hts : ∀ w ∈ gLW, w.before _ s = true := fun w hw => hts0 w (List.mem_cons_of_mem _ hw)
  have hown : s.vm.findClass RX9 = some m.cls := findClass_of_methodNamed B.named
  have hlocks := B.notSynchronized
  have hH : gH D G s s.heap [] σ μ := ⟨hP, va_S.rf⟩
  have hl := lv_entry ([.int (gI a0), .int (gI a1), .int (gI a2)]) (n := 3) (Nat.le_of_ble_eq_true rfl)
  rw [lg_entry_eq]
  generalize (lg_sl ([.int (gI a0), .int (gI a1), .int (gI a2)]) ++ List.replicate (3 - (lg_sl ([.int (gI a0), .int (gI a1), .int (gI a2)])).length) Slot.unset).toArray = ls at hl ⊢
  have hl : lv_has ls 3 [(0, .int (gI a0)), (1, .int (gI a1)), (2, .int (gI a2))] := hl
  unfold DX9_in at h
  refine lv_iload_n hx hb0 dX9_in_0 rfl (lv_at hl 0 rfl) ?_
  refine lv_iload_n hx hb0 dX9_in_1 rfl (lv_at hl 1 rfl) ?_
  refine g_icmp_lt (tgt := 14) hx hb0 dX9_in_2 (by decide) h (fun h => ?_) (fun h => ?_)
  · refine lv_iconst (v := gI (0 : Int)) hx hb0 dX9_in_14 (by decide) ?_
    exact g_zretP hx hb0 hr hH hlocks dX9_in_15 h
  · refine lv_iload_n hx hb0 dX9_in_5 rfl (lv_at hl 0 rfl) ?_
    refine lv_iload_n hx hb0 dX9_in_6 rfl (lv_at hl 2 rfl) ?_
    refine g_icmp_gt (tgt := 14) hx hb0 dX9_in_7 (by decide) h (fun h => ?_) (fun h => ?_)
    · refine lv_iconst (v := gI (0 : Int)) hx hb0 dX9_in_14 (by decide) ?_
      exact g_zretP hx hb0 hr hH hlocks dX9_in_15 h
    · refine lv_iconst (v := gI (1 : Int)) hx hb0 dX9_in_10 (by decide) ?_
      refine lv_goto (tgt := 15) hx hb0 dX9_in_11 (by decide) ?_
      exact g_zretP hx hb0 hr hH hlocks dX9_in_15 h
def DX9_fails (σ : gSt) (a1 : Int) : Option (Int × gSt) :=
  some ((0 : Int), (gUp σ 136 6 a1))
set_option maxHeartbeats 4000000 in
set_option maxRecDepth 100000 in
theorem metX9_fails (l : Launch) (D : va_G) (G : gAd) (σ : gSt) (μ : gLg) (a1 : Int) (r : Int) (σ' : gSt) (h : DX9_fails σ a1 = some (r, σ')) : Met l yX9_fails (gWs yX9_fails cX9_fails 2 (some (Jvm.ClassFile.FieldType.int))) ({ frames := 0, cells := 0, slots := 0, locals := 0 } : Room) (gPc D G [.ref (G.1 136), .int (gI a1)] σ μ) (gQi D G r σ' μ) 0 0 (gA G) := by
  refine Met.ofW (cc := cX9_fails) (maxL := 2) (ret := (some (Jvm.ClassFile.FieldType.int))) (by decide) rfl ?_
  intro p e s m args below meth c s₁ B hml hv
  obtain ⟨rfl, hP, hX⟩ := hv
  have hx := B.exec
  have hb0 := B.bytes
  have hr := B.returns
  have hts0 := atoms_spec (ws := (gWs yX9_fails cX9_fails 2 (some (Jvm.ClassFile.FieldType.int)))) B.pre
  have hts : ∀ w ∈ gLW, w.before _ s = true := fun w hw => hts0 w (List.mem_cons_of_mem _ hw)
  have hown : s.vm.findClass RX9 = some m.cls := findClass_of_methodNamed B.named
  have hlocks := B.notSynchronized
  have hH : gH D G s s.heap [] σ μ := ⟨hP, va_S.rf⟩
  have hl := lv_entry ([.ref (G.1 136), .int (gI a1)]) (n := 2) (Nat.le_of_ble_eq_true rfl)
  rw [lg_entry_eq]
  generalize (lg_sl ([.ref (G.1 136), .int (gI a1)]) ++ List.replicate (2 - (lg_sl ([.ref (G.1 136), .int (gI a1)])).length) Slot.unset).toArray = ls at hl ⊢
  have hl : lv_has ls 2 [(0, .ref (G.1 136)), (1, .int (gI a1))] := hl
  unfold DX9_fails at h
  refine lv_aload_n hx hb0 dX9_fails_0 rfl (lv_at hl 0 rfl) ?_
  refine lv_iload_n hx hb0 dX9_fails_1 rfl (lv_at hl 1 rfl) ?_
  refine g_putI hx hb0 hts q_ws_X9 tyX9 tyX9_ok nmX9 hown hX hH (C := RX9) (T := TX9) (N := 19) (k := 136) (i := 6) (rfl : gKinds[136]? = _) rfl (by decide) (hts _ q_fl_X9_40) rfl rfl rfl rfl dX9_fails_2 (fun H locs hH => ?_)
  refine lv_iconst (v := gI (0 : Int)) hx hb0 dX9_fails_5 (by decide) ?_
  exact g_iretS hx hb0 hr hH hlocks dX9_fails_6 h
def DX9_tells (σ : gSt) (a1 : Int) : Option (Int × gSt) :=
  some (a1, (gUp σ 136 6 (0 : Int)))
set_option maxHeartbeats 4000000 in
set_option maxRecDepth 100000 in
theorem metX9_tells (l : Launch) (D : va_G) (G : gAd) (σ : gSt) (μ : gLg) (a1 : Int) (r : Int) (σ' : gSt) (h : DX9_tells σ a1 = some (r, σ')) : Met l yX9_tells (gWs yX9_tells cX9_tells 2 (some (Jvm.ClassFile.FieldType.int))) ({ frames := 0, cells := 0, slots := 0, locals := 0 } : Room) (gPc D G [.ref (G.1 136), .int (gI a1)] σ μ) (gQi D G r σ' μ) 0 0 (gA G) := by
  refine Met.ofW (cc := cX9_tells) (maxL := 2) (ret := (some (Jvm.ClassFile.FieldType.int))) (by decide) rfl ?_
  intro p e s m args below meth c s₁ B hml hv
  obtain ⟨rfl, hP, hX⟩ := hv
  have hx := B.exec
  have hb0 := B.bytes
  have hr := B.returns
  have hts0 := atoms_spec (ws := (gWs yX9_tells cX9_tells 2 (some (Jvm.ClassFile.FieldType.int)))) B.pre
  have hts : ∀ w ∈ gLW, w.before _ s = true := fun w hw => hts0 w (List.mem_cons_of_mem _ hw)
  have hown : s.vm.findClass RX9 = some m.cls := findClass_of_methodNamed B.named
  have hlocks := B.notSynchronized
  have hH : gH D G s s.heap [] σ μ := ⟨hP, va_S.rf⟩
  have hl := lv_entry ([.ref (G.1 136), .int (gI a1)]) (n := 2) (Nat.le_of_ble_eq_true rfl)
  rw [lg_entry_eq]
  generalize (lg_sl ([.ref (G.1 136), .int (gI a1)]) ++ List.replicate (2 - (lg_sl ([.ref (G.1 136), .int (gI a1)])).length) Slot.unset).toArray = ls at hl ⊢
  have hl : lv_has ls 2 [(0, .ref (G.1 136)), (1, .int (gI a1))] := hl
  unfold DX9_tells at h
  refine lv_aload_n hx hb0 dX9_tells_0 rfl (lv_at hl 0 rfl) ?_
  refine lv_iconst (v := gI (0 : Int)) hx hb0 dX9_tells_1 (by decide) ?_
  refine g_putI hx hb0 hts q_ws_X9 tyX9 tyX9_ok nmX9 hown hX hH (C := RX9) (T := TX9) (N := 19) (k := 136) (i := 6) (rfl : gKinds[136]? = _) rfl (by decide) (hts _ q_fl_X9_40) rfl rfl rfl rfl dX9_tells_2 (fun H locs hH => ?_)
  refine lv_iload_n hx hb0 dX9_tells_5 rfl (lv_at hl 1 rfl) ?_
  exact g_iretS hx hb0 hr hH hlocks dX9_tells_6 h
def DX9_hold_L2 : Nat → Int → gSt → Option (gSt)
  | 0, _, _ => none
  | f2 + 1, x1_2, σ2 => gIf (x1_2 < (138 : Int)) x1_2 (138 : Int) (gAt x1_2 138 (gAt x1_2 138 (((DX9_hold_L2 f2) (x1_2 + (1 : Int)) (gUp σ2 139 (Int.toNat x1_2) (σ2 137 (Int.toNat x1_2))))))) (some σ2)
def DX9_hold (σ : gSt) : Option (gSt) :=
  (DX9_hold_L2 gFuel (0 : Int) σ)
set_option maxHeartbeats 4000000 in
set_option maxRecDepth 100000 in
theorem metX9_hold (l : Launch) (D : va_G) (G : gAd) (σ : gSt) (μ : gLg) (σ' : gSt) (h : DX9_hold σ = some σ') : Met l yX9_hold (gWs yX9_hold cX9_hold 2 none) ({ frames := 0, cells := 0, slots := 0, locals := 0 } : Room) (gPc D G [.ref (G.1 136)] σ μ) (gQv D G σ' μ) 0 0 (gA G) := by
  refine Met.ofW (cc := cX9_hold) (maxL := 2) (ret := none) (by decide) rfl ?_
  intro p e s m args below meth c s₁ B hml hv
  obtain ⟨rfl, hP, hX⟩ := hv
  have hx := B.exec
  have hb0 := B.bytes
  have hr := B.returns
  have hts0 := atoms_spec (ws := (gWs yX9_hold cX9_hold 2 none)) B.pre
  have hts : ∀ w ∈ gLW, w.before _ s = true := fun w hw => hts0 w (List.mem_cons_of_mem _ hw)
  have hown : s.vm.findClass RX9 = some m.cls := findClass_of_methodNamed B.named
  have hlocks := B.notSynchronized
  have hH : gH D G s s.heap [] σ μ := ⟨hP, va_S.rf⟩
  have hl := lv_entry ([.ref (G.1 136)]) (n := 2) (Nat.le_of_ble_eq_true rfl)
  rw [lg_entry_eq]
  generalize (lg_sl ([.ref (G.1 136)]) ++ List.replicate (2 - (lg_sl ([.ref (G.1 136)])).length) Slot.unset).toArray = ls at hl ⊢
  have hl : lv_has ls 2 [(0, .ref (G.1 136))] := hl
  unfold DX9_hold at h
  refine lv_iconst (v := gI (0 : Int)) hx hb0 dX9_hold_0 (by decide) ?_
  refine lv_istore_n (lv' := [(1, .int (gI (0 : Int))), (0, .ref (G.1 136))]) hx hb0 dX9_hold_1 rfl hl (by decide) rfl (fun ls hl => ?_)
  have hL2 : ∀ (f2 : Nat) (x1_2 : Int) (σ2 : gSt) (H : Heap) (locs : List Loc) (ls : Array Slot), gH D G s H locs σ2 μ → lv_has ls 2 [(1, .int (gI x1_2)), (0, .ref (G.1 136))] → (DX9_hold_L2 f2 x1_2 σ2) = some σ' → W p l e (headSpec (gWs yX9_hold cX9_hold 2 none) ({ frames := 0, cells := 0, slots := 0, locals := 0 } : Room)).room s m ([.ref (G.1 136)] : List Value).toArray below meth c H locs 0 0 (MQ below (gQv D G σ' μ) ([.ref (G.1 136)] : List Value).toArray s 0 0 (gA G)) (F0 m 2 ls []) := by
    intro f2
    induction f2 with
    | zero => intro x1_2 σ2 H locs ls hH hl h; cases h
    | succ f2 ih2 =>
      intro x1_2 σ2 H locs ls hH hl h
      unfold DX9_hold_L2 at h
      refine lv_iload_n hx hb0 dX9_hold_2 rfl (lv_at hl 0 rfl) ?_
      refine lv_sipush (v := gI (138 : Int)) hx hb0 dX9_hold_3 (by decide) ?_
      refine g_icmp_ge (tgt := 27) hx hb0 dX9_hold_6 (by decide) h (fun h => ?_) (fun h => ?_)
      · exact g_vretS hx hb0 hr hH hlocks dX9_hold_27 h
      · refine lv_aload_n hx hb0 dX9_hold_9 rfl (lv_at hl 1 rfl) ?_
        refine g_getR hx hb0 hts q_ws_X9 hown hX hH (C := RX9) (T := TX9) (N := 19) (k := 136) (i := 2) (j := 139) (rfl : gKinds[136]? = _) rfl (by decide) (hts _ q_fl_X9_16) rfl rfl dX9_hold_10 ?_
        refine lv_iload_n hx hb0 dX9_hold_13 rfl (lv_at hl 0 rfl) ?_
        refine lv_aload_n hx hb0 dX9_hold_14 rfl (lv_at hl 1 rfl) ?_
        refine g_getR hx hb0 hts q_ws_X9 hown hX hH (C := RX9) (T := TX9) (N := 19) (k := 136) (i := 0) (j := 137) (rfl : gKinds[136]? = _) rfl (by decide) (hts _ q_fl_X9_7) rfl rfl dX9_hold_15 ?_
        refine lv_iload_n hx hb0 dX9_hold_18 rfl (lv_at hl 0 rfl) ?_
        refine g_iald hx hb0 hX hH (k := 137) (rfl : gKinds[137]? = _) (by decide) dX9_hold_19 h (fun h => ?_)
        refine g_iast hx hb0 hX hH (k := 139) (rfl : gKinds[139]? = _) (by decide) dX9_hold_20 h (fun h H locs hH => ?_)
        refine g_iinc (k := 0) (n := (1 : Int)) (lv' := [(1, .int (gI (x1_2 + (1 : Int)))), (0, .ref (G.1 136))]) hx hb0 dX9_hold_21 hl rfl (by decide) rfl (fun ls hl => ?_)
        refine lv_goto (tgt := 2) hx hb0 dX9_hold_24 (by decide) ?_
        exact ih2 _ _ _ _ _ hH (lv_sub hl [0, 1] rfl) h
  exact hL2 gFuel _ _ _ _ _ hH (lv_sub hl [0, 1] rfl) h
def DX9_ends_K85 (a1 : Int) (σ85 : gSt) : Option (Int × gSt) :=
  (DX9_tells (gUp σ85 136 3 ((σ85 136 3) + (1 : Int))) a1).bind fun q97 => some (q97.1, q97.2)
def DX9_ends_L51 (K85 : gSt → Option (Int × gSt)) : Nat → Int → gSt → Option (Int × gSt)
  | 0, _, _ => none
  | f51 + 1, x2_51, σ51 => gIf (x2_51 < (138 : Int)) x2_51 (138 : Int) (gAt x2_51 138 (gAt (((138 : Int) * (σ51 136 3)) + x2_51) 552 (((DX9_ends_L51 K85 f51) (x2_51 + (1 : Int)) (gUp σ51 138 (Int.toNat (((138 : Int) * (σ51 136 3)) + x2_51)) (σ51 139 (Int.toNat x2_51))))))) ((K85 σ51))
def DX9_ends_J49 (a1 : Int) (σ49 : gSt) : Option (Int × gSt) :=
  (DX9_ends_L51 (DX9_ends_K85 a1) gFuel (0 : Int) σ49)
def DX9_ends_K39 (a1 : Int) (σ39 : gSt) : Option (Int × gSt) :=
  (DX9_ends_J49 a1 (gUp σ39 136 3 ((σ39 136 3) - (1 : Int))))
def DX9_ends_L10 (K39 : gSt → Option (Int × gSt)) : Nat → Int → gSt → Option (Int × gSt)
  | 0, _, _ => none
  | f10 + 1, x2_10, σ10 => gIf (x2_10 < (414 : Int)) x2_10 (414 : Int) (gAt (x2_10 + (138 : Int)) 552 (gAt x2_10 552 (((DX9_ends_L10 K39 f10) (x2_10 + (1 : Int)) (gUp σ10 138 (Int.toNat x2_10) (σ10 138 (Int.toNat (x2_10 + (138 : Int))))))))) ((K39 σ10))
def DX9_ends (σ : gSt) (a1 : Int) : Option (Int × gSt) :=
  gIf ((σ 136 3) = (4 : Int)) (σ 136 3) (4 : Int) ((DX9_ends_L10 (DX9_ends_K39 a1) gFuel (0 : Int) σ)) ((DX9_ends_J49 a1 σ))
set_option maxHeartbeats 4000000 in
set_option maxRecDepth 100000 in
theorem metX9_ends (l : Launch) (D : va_G) (G : gAd) (σ : gSt) (μ : gLg) (a1 : Int) (r : Int) (σ' : gSt) (h : DX9_ends σ a1 = some (r, σ')) : Met l yX9_ends (gWs yX9_ends cX9_ends 3 (some (Jvm.ClassFile.FieldType.int))) ({ frames := 1, cells := 0, slots := 0, locals := 21 } : Room) (gPc D G [.ref (G.1 136), .int (gI a1)] σ μ) (gQi D G r σ' μ) 0 0 (gA G) := by
  refine Met.ofW (cc := cX9_ends) (maxL := 3) (ret := (some (Jvm.ClassFile.FieldType.int))) (by decide) rfl ?_
  intro p e s m args below meth c s₁ B hml hv
  obtain ⟨rfl, hP, hX⟩ := hv
  have hx := B.exec
  have hb0 := B.bytes
  have hr := B.returns
  have hts0 := atoms_spec (ws := (gWs yX9_ends cX9_ends 3 (some (Jvm.ClassFile.FieldType.int)))) B.pre
  have hts : ∀ w ∈ gLW, w.before _ s = true := fun w hw => hts0 w (List.mem_cons_of_mem _ hw)
  have hown : s.vm.findClass RX9 = some m.cls := findClass_of_methodNamed B.named
  have hlocks := B.notSynchronized
  have hH : gH D G s s.heap [] σ μ := ⟨hP, va_S.rf⟩
  have hl := lv_entry ([.ref (G.1 136), .int (gI a1)]) (n := 3) (Nat.le_of_ble_eq_true rfl)
  rw [lg_entry_eq]
  generalize (lg_sl ([.ref (G.1 136), .int (gI a1)]) ++ List.replicate (3 - (lg_sl ([.ref (G.1 136), .int (gI a1)])).length) Slot.unset).toArray = ls at hl ⊢
  have hl : lv_has ls 3 [(0, .ref (G.1 136)), (1, .int (gI a1))] := hl
  unfold DX9_ends at h
  refine lv_aload_n hx hb0 dX9_ends_0 rfl (lv_at hl 0 rfl) ?_
  refine g_getI hx hb0 hts q_ws_X9 hown hX hH (C := RX9) (T := TX9) (N := 19) (k := 136) (i := 3) (rfl : gKinds[136]? = _) rfl (by decide) (hts _ q_fl_X9_44) rfl rfl dX9_ends_1 ?_
  refine lv_iconst (v := gI (4 : Int)) hx hb0 dX9_ends_4 (by decide) ?_
  have hJ49 : ∀ (σ49 : gSt) (H : Heap) (locs : List Loc) (ls : Array Slot), gH D G s H locs σ49 μ → lv_has ls 3 [(0, .ref (G.1 136)), (1, .int (gI a1))] → (DX9_ends_J49 a1 σ49) = some (r, σ') → W p l e (headSpec (gWs yX9_ends cX9_ends 3 (some (Jvm.ClassFile.FieldType.int))) ({ frames := 1, cells := 0, slots := 0, locals := 21 } : Room)).room s m ([.ref (G.1 136), .int (gI a1)] : List Value).toArray below meth c H locs 0 0 (MQ below (gQi D G r σ' μ) ([.ref (G.1 136), .int (gI a1)] : List Value).toArray s 0 0 (gA G)) (F0 m 49 ls []) := by
    intro σ49 H locs ls hH hl h
    unfold DX9_ends_J49 at h
    refine lv_iconst (v := gI (0 : Int)) hx hb0 dX9_ends_49 (by decide) ?_
    refine lv_istore_n (lv' := [(2, .int (gI (0 : Int))), (0, .ref (G.1 136)), (1, .int (gI a1))]) hx hb0 dX9_ends_50 rfl hl (by decide) rfl (fun ls hl => ?_)
    have hK85 : ∀ (σ85 : gSt) (H : Heap) (locs : List Loc) (ls : Array Slot), gH D G s H locs σ85 μ → lv_has ls 3 [(0, .ref (G.1 136)), (1, .int (gI a1))] → (DX9_ends_K85 a1 σ85) = some (r, σ') → W p l e (headSpec (gWs yX9_ends cX9_ends 3 (some (Jvm.ClassFile.FieldType.int))) ({ frames := 1, cells := 0, slots := 0, locals := 21 } : Room)).room s m ([.ref (G.1 136), .int (gI a1)] : List Value).toArray below meth c H locs 0 0 (MQ below (gQi D G r σ' μ) ([.ref (G.1 136), .int (gI a1)] : List Value).toArray s 0 0 (gA G)) (F0 m 85 ls []) := by
      intro σ85 H locs ls hH hl h
      unfold DX9_ends_K85 at h
      refine lv_aload_n hx hb0 dX9_ends_85 rfl (lv_at hl 0 rfl) ?_
      refine lv_dup hx hb0 dX9_ends_86 rfl ?_
      refine g_getI hx hb0 hts q_ws_X9 hown hX hH (C := RX9) (T := TX9) (N := 19) (k := 136) (i := 3) (rfl : gKinds[136]? = _) rfl (by decide) (hts _ q_fl_X9_44) rfl rfl dX9_ends_87 ?_
      refine lv_iconst (v := gI (1 : Int)) hx hb0 dX9_ends_90 (by decide) ?_
      refine g_iadd hx hb0 dX9_ends_91 ?_
      refine g_putI hx hb0 hts q_ws_X9 tyX9 tyX9_ok nmX9 hown hX hH (C := RX9) (T := TX9) (N := 19) (k := 136) (i := 3) (rfl : gKinds[136]? = _) rfl (by decide) (hts _ q_fl_X9_44) rfl rfl rfl rfl dX9_ends_92 (fun H locs hH => ?_)
      refine lv_aload_n hx hb0 dX9_ends_95 rfl (lv_at hl 0 rfl) ?_
      refine lv_iload_n hx hb0 dX9_ends_96 rfl (lv_at hl 1 rfl) ?_
      obtain ⟨q97, e97, h⟩ := gBind_some h
      refine g_callVi (k := 136) (T := TX9) (N := 19) (As := [.int (gI a1)]) (rest := []) ⟨hx, hb0, hml, hown, hts⟩ (metX9_tells l D G (gUp σ85 136 3 ((σ85 136 3) + (1 : Int))) μ a1 q97.1 q97.2 e97) (g_cwV (C := RX9) 1 hts q_ml_X9_47 q_im_X9_tells q_se_X9_tells q_in_X9 q_co_X9_tells ⟨rfl, rfl⟩ (by decide +kernel) ⟨Nat.le_of_ble_eq_true rfl, Nat.le_of_ble_eq_true rfl⟩) hX hH (rfl : gKinds[136]? = _) rfl rfl hl.1 rfl (Nat.le_of_ble_eq_true rfl) dX9_ends_97 ⟨Nat.zero_le _, Nat.zero_le _⟩ (fun H locs hH => ?_)
      exact g_iretS hx hb0 hr hH hlocks dX9_ends_100 h
    have hL51 : ∀ (f51 : Nat) (x2_51 : Int) (σ51 : gSt) (H : Heap) (locs : List Loc) (ls : Array Slot), gH D G s H locs σ51 μ → lv_has ls 3 [(2, .int (gI x2_51)), (0, .ref (G.1 136)), (1, .int (gI a1))] → (DX9_ends_L51 (DX9_ends_K85 a1) f51 x2_51 σ51) = some (r, σ') → W p l e (headSpec (gWs yX9_ends cX9_ends 3 (some (Jvm.ClassFile.FieldType.int))) ({ frames := 1, cells := 0, slots := 0, locals := 21 } : Room)).room s m ([.ref (G.1 136), .int (gI a1)] : List Value).toArray below meth c H locs 0 0 (MQ below (gQi D G r σ' μ) ([.ref (G.1 136), .int (gI a1)] : List Value).toArray s 0 0 (gA G)) (F0 m 51 ls []) := by
      intro f51
      induction f51 with
      | zero => intro x2_51 σ51 H locs ls hH hl h; cases h
      | succ f51 ih51 =>
        intro x2_51 σ51 H locs ls hH hl h
        unfold DX9_ends_L51 at h
        refine lv_iload_n hx hb0 dX9_ends_51 rfl (lv_at hl 0 rfl) ?_
        refine lv_sipush (v := gI (138 : Int)) hx hb0 dX9_ends_52 (by decide) ?_
        refine g_icmp_ge (tgt := 85) hx hb0 dX9_ends_55 (by decide) h (fun h => ?_) (fun h => ?_)
        · exact hK85 _ _ _ _ hH (lv_sub hl [1, 2] rfl) h
        · refine lv_aload_n hx hb0 dX9_ends_58 rfl (lv_at hl 1 rfl) ?_
          refine g_getR hx hb0 hts q_ws_X9 hown hX hH (C := RX9) (T := TX9) (N := 19) (k := 136) (i := 1) (j := 138) (rfl : gKinds[136]? = _) rfl (by decide) (hts _ q_fl_X9_13) rfl rfl dX9_ends_59 ?_
          refine lv_sipush (v := gI (138 : Int)) hx hb0 dX9_ends_62 (by decide) ?_
          refine lv_aload_n hx hb0 dX9_ends_65 rfl (lv_at hl 1 rfl) ?_
          refine g_getI hx hb0 hts q_ws_X9 hown hX hH (C := RX9) (T := TX9) (N := 19) (k := 136) (i := 3) (rfl : gKinds[136]? = _) rfl (by decide) (hts _ q_fl_X9_44) rfl rfl dX9_ends_66 ?_
          refine g_imul hx hb0 dX9_ends_69 ?_
          refine lv_iload_n hx hb0 dX9_ends_70 rfl (lv_at hl 0 rfl) ?_
          refine g_iadd hx hb0 dX9_ends_71 ?_
          refine lv_aload_n hx hb0 dX9_ends_72 rfl (lv_at hl 1 rfl) ?_
          refine g_getR hx hb0 hts q_ws_X9 hown hX hH (C := RX9) (T := TX9) (N := 19) (k := 136) (i := 2) (j := 139) (rfl : gKinds[136]? = _) rfl (by decide) (hts _ q_fl_X9_16) rfl rfl dX9_ends_73 ?_
          refine lv_iload_n hx hb0 dX9_ends_76 rfl (lv_at hl 0 rfl) ?_
          refine g_iald hx hb0 hX hH (k := 139) (rfl : gKinds[139]? = _) (by decide) dX9_ends_77 h (fun h => ?_)
          refine g_iast hx hb0 hX hH (k := 138) (rfl : gKinds[138]? = _) (by decide) dX9_ends_78 h (fun h H locs hH => ?_)
          refine g_iinc (k := 0) (n := (1 : Int)) (lv' := [(2, .int (gI (x2_51 + (1 : Int)))), (0, .ref (G.1 136)), (1, .int (gI a1))]) hx hb0 dX9_ends_79 hl rfl (by decide) rfl (fun ls hl => ?_)
          refine lv_goto (tgt := 51) hx hb0 dX9_ends_82 (by decide) ?_
          exact ih51 _ _ _ _ _ hH (lv_sub hl [0, 1, 2] rfl) h
    exact hL51 gFuel _ _ _ _ _ hH (lv_sub hl [0, 1, 2] rfl) h
  refine g_icmp_ne (tgt := 49) hx hb0 dX9_ends_5 (by decide) h (fun h => ?_) (fun h => ?_)
  · exact hJ49 _ _ _ _ hH (lv_sub hl [0, 1] rfl) h
  · refine lv_iconst (v := gI (0 : Int)) hx hb0 dX9_ends_8 (by decide) ?_
    refine lv_istore_n (lv' := [(2, .int (gI (0 : Int))), (0, .ref (G.1 136)), (1, .int (gI a1))]) hx hb0 dX9_ends_9 rfl hl (by decide) rfl (fun ls hl => ?_)
    have hK39 : ∀ (σ39 : gSt) (H : Heap) (locs : List Loc) (ls : Array Slot), gH D G s H locs σ39 μ → lv_has ls 3 [(0, .ref (G.1 136)), (1, .int (gI a1))] → (DX9_ends_K39 a1 σ39) = some (r, σ') → W p l e (headSpec (gWs yX9_ends cX9_ends 3 (some (Jvm.ClassFile.FieldType.int))) ({ frames := 1, cells := 0, slots := 0, locals := 21 } : Room)).room s m ([.ref (G.1 136), .int (gI a1)] : List Value).toArray below meth c H locs 0 0 (MQ below (gQi D G r σ' μ) ([.ref (G.1 136), .int (gI a1)] : List Value).toArray s 0 0 (gA G)) (F0 m 39 ls []) := by
      intro σ39 H locs ls hH hl h
      unfold DX9_ends_K39 at h
      refine lv_aload_n hx hb0 dX9_ends_39 rfl (lv_at hl 0 rfl) ?_
      refine lv_dup hx hb0 dX9_ends_40 rfl ?_
      refine g_getI hx hb0 hts q_ws_X9 hown hX hH (C := RX9) (T := TX9) (N := 19) (k := 136) (i := 3) (rfl : gKinds[136]? = _) rfl (by decide) (hts _ q_fl_X9_44) rfl rfl dX9_ends_41 ?_
      refine lv_iconst (v := gI (1 : Int)) hx hb0 dX9_ends_44 (by decide) ?_
      refine g_isub hx hb0 dX9_ends_45 ?_
      refine g_putI hx hb0 hts q_ws_X9 tyX9 tyX9_ok nmX9 hown hX hH (C := RX9) (T := TX9) (N := 19) (k := 136) (i := 3) (rfl : gKinds[136]? = _) rfl (by decide) (hts _ q_fl_X9_44) rfl rfl rfl rfl dX9_ends_46 (fun H locs hH => ?_)
      exact hJ49 _ _ _ _ hH (lv_sub hl [0, 1] rfl) h
    have hL10 : ∀ (f10 : Nat) (x2_10 : Int) (σ10 : gSt) (H : Heap) (locs : List Loc) (ls : Array Slot), gH D G s H locs σ10 μ → lv_has ls 3 [(2, .int (gI x2_10)), (0, .ref (G.1 136)), (1, .int (gI a1))] → (DX9_ends_L10 (DX9_ends_K39 a1) f10 x2_10 σ10) = some (r, σ') → W p l e (headSpec (gWs yX9_ends cX9_ends 3 (some (Jvm.ClassFile.FieldType.int))) ({ frames := 1, cells := 0, slots := 0, locals := 21 } : Room)).room s m ([.ref (G.1 136), .int (gI a1)] : List Value).toArray below meth c H locs 0 0 (MQ below (gQi D G r σ' μ) ([.ref (G.1 136), .int (gI a1)] : List Value).toArray s 0 0 (gA G)) (F0 m 10 ls []) := by
      intro f10
      induction f10 with
      | zero => intro x2_10 σ10 H locs ls hH hl h; cases h
      | succ f10 ih10 =>
        intro x2_10 σ10 H locs ls hH hl h
        unfold DX9_ends_L10 at h
        refine lv_iload_n hx hb0 dX9_ends_10 rfl (lv_at hl 0 rfl) ?_
        refine lv_sipush (v := gI (414 : Int)) hx hb0 dX9_ends_11 (by decide) ?_
        refine g_icmp_ge (tgt := 39) hx hb0 dX9_ends_14 (by decide) h (fun h => ?_) (fun h => ?_)
        · exact hK39 _ _ _ _ hH (lv_sub hl [1, 2] rfl) h
        · refine lv_aload_n hx hb0 dX9_ends_17 rfl (lv_at hl 1 rfl) ?_
          refine g_getR hx hb0 hts q_ws_X9 hown hX hH (C := RX9) (T := TX9) (N := 19) (k := 136) (i := 1) (j := 138) (rfl : gKinds[136]? = _) rfl (by decide) (hts _ q_fl_X9_13) rfl rfl dX9_ends_18 ?_
          refine lv_iload_n hx hb0 dX9_ends_21 rfl (lv_at hl 0 rfl) ?_
          refine lv_aload_n hx hb0 dX9_ends_22 rfl (lv_at hl 1 rfl) ?_
          refine g_getR hx hb0 hts q_ws_X9 hown hX hH (C := RX9) (T := TX9) (N := 19) (k := 136) (i := 1) (j := 138) (rfl : gKinds[136]? = _) rfl (by decide) (hts _ q_fl_X9_13) rfl rfl dX9_ends_23 ?_
          refine lv_iload_n hx hb0 dX9_ends_26 rfl (lv_at hl 0 rfl) ?_
          refine lv_sipush (v := gI (138 : Int)) hx hb0 dX9_ends_27 (by decide) ?_
          refine g_iadd hx hb0 dX9_ends_30 ?_
          refine g_iald hx hb0 hX hH (k := 138) (rfl : gKinds[138]? = _) (by decide) dX9_ends_31 h (fun h => ?_)
          refine g_iast hx hb0 hX hH (k := 138) (rfl : gKinds[138]? = _) (by decide) dX9_ends_32 h (fun h H locs hH => ?_)
          refine g_iinc (k := 0) (n := (1 : Int)) (lv' := [(2, .int (gI (x2_10 + (1 : Int)))), (0, .ref (G.1 136)), (1, .int (gI a1))]) hx hb0 dX9_ends_33 hl rfl (by decide) rfl (fun ls hl => ?_)
          refine lv_goto (tgt := 10) hx hb0 dX9_ends_36 (by decide) ?_
          exact ih10 _ _ _ _ _ hH (lv_sub hl [0, 1, 2] rfl) h
    exact hL10 gFuel _ _ _ _ _ hH (lv_sub hl [0, 1, 2] rfl) h
def DX9_isTask (σ : gSt) (a1 : Int) : Option (Int) :=
  gAt (4 : Int) 138 ((DX9_in σ a1 (0 : Int) ((σ 137 (Int.toNat (4 : Int))) - (1 : Int))).bind fun q10 => gBo q10 (some q10))
set_option maxHeartbeats 4000000 in
set_option maxRecDepth 100000 in
theorem metX9_isTask (l : Launch) (D : va_G) (G : gAd) (σ : gSt) (μ : gLg) (a1 : Int) (r : Int) (h : DX9_isTask σ a1 = some r) : Met l yX9_isTask (gWs yX9_isTask cX9_isTask 2 (some (Jvm.ClassFile.FieldType.boolean))) ({ frames := 1, cells := 0, slots := 0, locals := 22 } : Room) (gPc D G [.ref (G.1 136), .int (gI a1)] σ μ) (gQi D G r σ μ) 0 0 (gA G) := by
  refine Met.ofW (cc := cX9_isTask) (maxL := 2) (ret := (some (Jvm.ClassFile.FieldType.boolean))) (by decide) rfl ?_
  intro p e s m args below meth c s₁ B hml hv
  obtain ⟨rfl, hP, hX⟩ := hv
  have hx := B.exec
  have hb0 := B.bytes
  have hr := B.returns
  have hts0 := atoms_spec (ws := (gWs yX9_isTask cX9_isTask 2 (some (Jvm.ClassFile.FieldType.boolean)))) B.pre
  have hts : ∀ w ∈ gLW, w.before _ s = true := fun w hw => hts0 w (List.mem_cons_of_mem _ hw)
  have hown : s.vm.findClass RX9 = some m.cls := findClass_of_methodNamed B.named
  have hlocks := B.notSynchronized
  have hH : gH D G s s.heap [] σ μ := ⟨hP, va_S.rf⟩
  have hl := lv_entry ([.ref (G.1 136), .int (gI a1)]) (n := 2) (Nat.le_of_ble_eq_true rfl)
  rw [lg_entry_eq]
  generalize (lg_sl ([.ref (G.1 136), .int (gI a1)]) ++ List.replicate (2 - (lg_sl ([.ref (G.1 136), .int (gI a1)])).length) Slot.unset).toArray = ls at hl ⊢
  have hl : lv_has ls 2 [(0, .ref (G.1 136)), (1, .int (gI a1))] := hl
  unfold DX9_isTask at h
  refine lv_iload_n hx hb0 dX9_isTask_0 rfl (lv_at hl 1 rfl) ?_
  refine lv_iconst (v := gI (0 : Int)) hx hb0 dX9_isTask_1 (by decide) ?_
  refine lv_aload_n hx hb0 dX9_isTask_2 rfl (lv_at hl 0 rfl) ?_
  refine g_getR hx hb0 hts q_ws_X9 hown hX hH (C := RX9) (T := TX9) (N := 19) (k := 136) (i := 0) (j := 137) (rfl : gKinds[136]? = _) rfl (by decide) (hts _ q_fl_X9_7) rfl rfl dX9_isTask_3 ?_
  refine lv_iconst (v := gI (4 : Int)) hx hb0 dX9_isTask_6 (by decide) ?_
  refine g_iald hx hb0 hX hH (k := 137) (rfl : gKinds[137]? = _) (by decide) dX9_isTask_7 h (fun h => ?_)
  refine lv_iconst (v := gI (1 : Int)) hx hb0 dX9_isTask_8 (by decide) ?_
  refine g_isub hx hb0 dX9_isTask_9 ?_
  obtain ⟨q10, e10, h⟩ := gBind_some h
  refine g_callSi (As := [.int (gI a1), .int (gI (0 : Int)), .int (gI ((σ 137 (Int.toNat (4 : Int))) - (1 : Int)))]) (rest := []) ⟨hx, hb0, hml, hown, hts⟩ (metX9_in l D G σ μ a1 (0 : Int) ((σ 137 (Int.toNat (4 : Int))) - (1 : Int)) q10 e10) (g_cwS 3 hts q_ml_X9_51 q_st_X9_in q_in_X9 q_co_X9_in ⟨rfl, rfl⟩ (by decide +kernel) ⟨Nat.le_of_ble_eq_true rfl, Nat.le_of_ble_eq_true rfl⟩) hX hH rfl hl.1 rfl (Nat.le_of_ble_eq_true rfl) dX9_isTask_10 ⟨Nat.zero_le _, Nat.zero_le _⟩ (fun H locs hH => ?_)
  exact g_zretP hx hb0 hr hH hlocks dX9_isTask_13 h
def DX9_isArrow (σ : gSt) (a1 : Int) : Option (Int) :=
  gAt (77 : Int) 138 ((DX9_in σ a1 (0 : Int) ((σ 137 (Int.toNat (77 : Int))) - (1 : Int))).bind fun q11 => gBo q11 (some q11))
set_option maxHeartbeats 4000000 in
set_option maxRecDepth 100000 in
theorem metX9_isArrow (l : Launch) (D : va_G) (G : gAd) (σ : gSt) (μ : gLg) (a1 : Int) (r : Int) (h : DX9_isArrow σ a1 = some r) : Met l yX9_isArrow (gWs yX9_isArrow cX9_isArrow 2 (some (Jvm.ClassFile.FieldType.boolean))) ({ frames := 1, cells := 0, slots := 0, locals := 22 } : Room) (gPc D G [.ref (G.1 136), .int (gI a1)] σ μ) (gQi D G r σ μ) 0 0 (gA G) := by
  refine Met.ofW (cc := cX9_isArrow) (maxL := 2) (ret := (some (Jvm.ClassFile.FieldType.boolean))) (by decide) rfl ?_
  intro p e s m args below meth c s₁ B hml hv
  obtain ⟨rfl, hP, hX⟩ := hv
  have hx := B.exec
  have hb0 := B.bytes
  have hr := B.returns
  have hts0 := atoms_spec (ws := (gWs yX9_isArrow cX9_isArrow 2 (some (Jvm.ClassFile.FieldType.boolean)))) B.pre
  have hts : ∀ w ∈ gLW, w.before _ s = true := fun w hw => hts0 w (List.mem_cons_of_mem _ hw)
  have hown : s.vm.findClass RX9 = some m.cls := findClass_of_methodNamed B.named
  have hlocks := B.notSynchronized
  have hH : gH D G s s.heap [] σ μ := ⟨hP, va_S.rf⟩
  have hl := lv_entry ([.ref (G.1 136), .int (gI a1)]) (n := 2) (Nat.le_of_ble_eq_true rfl)
  rw [lg_entry_eq]
  generalize (lg_sl ([.ref (G.1 136), .int (gI a1)]) ++ List.replicate (2 - (lg_sl ([.ref (G.1 136), .int (gI a1)])).length) Slot.unset).toArray = ls at hl ⊢
  have hl : lv_has ls 2 [(0, .ref (G.1 136)), (1, .int (gI a1))] := hl
  unfold DX9_isArrow at h
  refine lv_iload_n hx hb0 dX9_isArrow_0 rfl (lv_at hl 1 rfl) ?_
  refine lv_iconst (v := gI (0 : Int)) hx hb0 dX9_isArrow_1 (by decide) ?_
  refine lv_aload_n hx hb0 dX9_isArrow_2 rfl (lv_at hl 0 rfl) ?_
  refine g_getR hx hb0 hts q_ws_X9 hown hX hH (C := RX9) (T := TX9) (N := 19) (k := 136) (i := 0) (j := 137) (rfl : gKinds[136]? = _) rfl (by decide) (hts _ q_fl_X9_7) rfl rfl dX9_isArrow_3 ?_
  refine lv_bipush (v := gI (77 : Int)) hx hb0 dX9_isArrow_6 (by decide) ?_
  refine g_iald hx hb0 hX hH (k := 137) (rfl : gKinds[137]? = _) (by decide) dX9_isArrow_8 h (fun h => ?_)
  refine lv_iconst (v := gI (1 : Int)) hx hb0 dX9_isArrow_9 (by decide) ?_
  refine g_isub hx hb0 dX9_isArrow_10 ?_
  obtain ⟨q11, e11, h⟩ := gBind_some h
  refine g_callSi (As := [.int (gI a1), .int (gI (0 : Int)), .int (gI ((σ 137 (Int.toNat (77 : Int))) - (1 : Int)))]) (rest := []) ⟨hx, hb0, hml, hown, hts⟩ (metX9_in l D G σ μ a1 (0 : Int) ((σ 137 (Int.toNat (77 : Int))) - (1 : Int)) q11 e11) (g_cwS 3 hts q_ml_X9_51 q_st_X9_in q_in_X9 q_co_X9_in ⟨rfl, rfl⟩ (by decide +kernel) ⟨Nat.le_of_ble_eq_true rfl, Nat.le_of_ble_eq_true rfl⟩) hX hH rfl hl.1 rfl (Nat.le_of_ble_eq_true rfl) dX9_isArrow_11 ⟨Nat.zero_le _, Nat.zero_le _⟩ (fun H locs hH => ?_)
  exact g_zretP hx hb0 hr hH hlocks dX9_isArrow_14 h
