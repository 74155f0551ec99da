/-! the law's own methods -/
def DL_low (σ : gSt) (a0 : Int) (a1 : Int) : Option (Int) :=
  gDv (gAnd a0 (2147483647 : Int)) a1 (some ((gAnd a0 (2147483647 : Int)) % a1))
set_option maxHeartbeats 4000000 in
set_option maxRecDepth 100000 in
theorem metL_low (l : Launch) (D : va_G) (G : gAd) (σ : gSt) (μ : gLg) (a0 : Int) (a1 : Int) (r : Int) (h : DL_low σ a0 a1 = some r) : Met l yL_low (gWs yL_low cL_low 2 (some (Jvm.ClassFile.FieldType.int))) ({ frames := 0, cells := 0, slots := 0, locals := 0 } : Room) (gPc D G [.int (gI a0), .int (gI a1)] σ μ) (gQi D G r σ μ) 0 0 (gA G) := by
  refine Met.ofW (cc := cL_low) (maxL := 2) (ret := (some (Jvm.ClassFile.FieldType.int))) (by decide) rfl ?_
  intro p e s m args below meth c s₁ B hml hv
  obtain ⟨rfl, hP, hX⟩ := hv
  have hx := B.exec
  have hb0 := B.bytes
  have hr := B.returns
  have hts0 := atoms_spec (ws := (gWs yL_low cL_low 2 (some (Jvm.ClassFile.FieldType.int)))) B.pre
  have hts : ∀ w ∈ gLW, w.before _ s = true := fun w hw => hts0 w (List.mem_cons_of_mem _ hw)
  have hown : s.vm.findClass RL = some m.cls := findClass_of_methodNamed B.named
  have hlocks := B.notSynchronized
  have hH : gH D G s s.heap [] σ μ := ⟨hP, va_S.rf⟩
  have hl := lv_entry ([.int (gI a0), .int (gI a1)]) (n := 2) (Nat.le_of_ble_eq_true rfl)
  rw [lg_entry_eq]
  generalize (lg_sl ([.int (gI a0), .int (gI a1)]) ++ List.replicate (2 - (lg_sl ([.int (gI a0), .int (gI a1)])).length) Slot.unset).toArray = ls at hl ⊢
  have hl : lv_has ls 2 [(0, .int (gI a0)), (1, .int (gI a1))] := hl
  unfold DL_low at h
  refine lv_iload_n hx hb0 dL_low_0 rfl (lv_at hl 0 rfl) ?_
  refine lv_ldc (v := gI (2147483647 : Int)) hx hb0 hown (hts _ q_ki_L_8) dL_low_1 ?_
  refine g_iand hx hb0 dL_low_3 ?_
  refine lv_iload_n hx hb0 dL_low_4 rfl (lv_at hl 1 rfl) ?_
  refine g_irem hx hb0 dL_low_5 h (fun h => ?_)
  exact g_iretP hx hb0 hr hH hlocks dL_low_6 h
def DL_last (σ : gSt) (a2 : Int) : Option (Int) :=
  gAt a2 24 (gAt a2 24 (some (((σ 138 (Int.toNat a2)) + (σ 139 (Int.toNat a2))) - (1 : Int))))
set_option maxHeartbeats 4000000 in
set_option maxRecDepth 100000 in
theorem metL_last (l : Launch) (D : va_G) (G : gAd) (σ : gSt) (μ : gLg) (a2 : Int) (r : Int) (h : DL_last σ a2 = some r) : Met l yL_last (gWs yL_last cL_last 3 (some (Jvm.ClassFile.FieldType.int))) ({ frames := 0, cells := 0, slots := 0, locals := 0 } : Room) (gPc D G [.ref (G.1 138), .ref (G.1 139), .int (gI a2)] σ μ) (gQi D G r σ μ) 0 0 (gA G) := by
  refine Met.ofW (cc := cL_last) (maxL := 3) (ret := (some (Jvm.ClassFile.FieldType.int))) (by decide) rfl ?_
  intro p e s m args below meth c s₁ B hml hv
  obtain ⟨rfl, hP, hX⟩ := hv
  have hx := B.exec
  have hb0 := B.bytes
  have hr := B.returns
  have hts0 := atoms_spec (ws := (gWs yL_last cL_last 3 (some (Jvm.ClassFile.FieldType.int)))) B.pre
  have hts : ∀ w ∈ gLW, w.before _ s = true := fun w hw => hts0 w (List.mem_cons_of_mem _ hw)
  have hown : s.vm.findClass RL = some m.cls := findClass_of_methodNamed B.named
  have hlocks := B.notSynchronized
  have hH : gH D G s s.heap [] σ μ := ⟨hP, va_S.rf⟩
  have hl := lv_entry ([.ref (G.1 138), .ref (G.1 139), .int (gI a2)]) (n := 3) (Nat.le_of_ble_eq_true rfl)
  rw [lg_entry_eq]
  generalize (lg_sl ([.ref (G.1 138), .ref (G.1 139), .int (gI a2)]) ++ List.replicate (3 - (lg_sl ([.ref (G.1 138), .ref (G.1 139), .int (gI a2)])).length) Slot.unset).toArray = ls at hl ⊢
  have hl : lv_has ls 3 [(0, .ref (G.1 138)), (1, .ref (G.1 139)), (2, .int (gI a2))] := hl
  unfold DL_last at h
  refine lv_aload_n hx hb0 dL_last_0 rfl (lv_at hl 0 rfl) ?_
  refine lv_iload_n hx hb0 dL_last_1 rfl (lv_at hl 2 rfl) ?_
  refine g_iald hx hb0 hX hH (k := 138) (rfl : gKinds[138]? = _) (by decide) dL_last_2 h (fun h => ?_)
  refine lv_aload_n hx hb0 dL_last_3 rfl (lv_at hl 1 rfl) ?_
  refine lv_iload_n hx hb0 dL_last_4 rfl (lv_at hl 2 rfl) ?_
  refine g_iald hx hb0 hX hH (k := 139) (rfl : gKinds[139]? = _) (by decide) dL_last_5 h (fun h => ?_)
  refine g_iadd hx hb0 dL_last_6 ?_
  refine lv_iconst (v := gI (1 : Int)) hx hb0 dL_last_7 (by decide) ?_
  refine g_isub hx hb0 dL_last_8 ?_
  exact g_iretP hx hb0 hr hH hlocks dL_last_9 h
def DL_key (σ : gSt) (a2 : Int) : Option (Int) :=
  gAt a2 24 (gAt a2 24 (some (((((σ 137 (Int.toNat a2)) * (200 : Int)) + (σ 138 (Int.toNat a2))) * (32 : Int)) + a2)))
set_option maxHeartbeats 4000000 in
set_option maxRecDepth 100000 in
theorem metL_key (l : Launch) (D : va_G) (G : gAd) (σ : gSt) (μ : gLg) (a2 : Int) (r : Int) (h : DL_key σ a2 = some r) : Met l yL_key (gWs yL_key cL_key 3 (some (Jvm.ClassFile.FieldType.int))) ({ frames := 0, cells := 0, slots := 0, locals := 0 } : Room) (gPc D G [.ref (G.1 137), .ref (G.1 138), .int (gI a2)] σ μ) (gQi D G r σ μ) 0 0 (gA G) := by
  refine Met.ofW (cc := cL_key) (maxL := 3) (ret := (some (Jvm.ClassFile.FieldType.int))) (by decide) rfl ?_
  intro p e s m args below meth c s₁ B hml hv
  obtain ⟨rfl, hP, hX⟩ := hv
  have hx := B.exec
  have hb0 := B.bytes
  have hr := B.returns
  have hts0 := atoms_spec (ws := (gWs yL_key cL_key 3 (some (Jvm.ClassFile.FieldType.int)))) B.pre
  have hts : ∀ w ∈ gLW, w.before _ s = true := fun w hw => hts0 w (List.mem_cons_of_mem _ hw)
  have hown : s.vm.findClass RL = some m.cls := findClass_of_methodNamed B.named
  have hlocks := B.notSynchronized
  have hH : gH D G s s.heap [] σ μ := ⟨hP, va_S.rf⟩
  have hl := lv_entry ([.ref (G.1 137), .ref (G.1 138), .int (gI a2)]) (n := 3) (Nat.le_of_ble_eq_true rfl)
  rw [lg_entry_eq]
  generalize (lg_sl ([.ref (G.1 137), .ref (G.1 138), .int (gI a2)]) ++ List.replicate (3 - (lg_sl ([.ref (G.1 137), .ref (G.1 138), .int (gI a2)])).length) Slot.unset).toArray = ls at hl ⊢
  have hl : lv_has ls 3 [(0, .ref (G.1 137)), (1, .ref (G.1 138)), (2, .int (gI a2))] := hl
  unfold DL_key at h
  refine lv_aload_n hx hb0 dL_key_0 rfl (lv_at hl 0 rfl) ?_
  refine lv_iload_n hx hb0 dL_key_1 rfl (lv_at hl 2 rfl) ?_
  refine g_iald hx hb0 hX hH (k := 137) (rfl : gKinds[137]? = _) (by decide) dL_key_2 h (fun h => ?_)
  refine lv_sipush (v := gI (200 : Int)) hx hb0 dL_key_3 (by decide) ?_
  refine g_imul hx hb0 dL_key_6 ?_
  refine lv_aload_n hx hb0 dL_key_7 rfl (lv_at hl 1 rfl) ?_
  refine lv_iload_n hx hb0 dL_key_8 rfl (lv_at hl 2 rfl) ?_
  refine g_iald hx hb0 hX hH (k := 138) (rfl : gKinds[138]? = _) (by decide) dL_key_9 h (fun h => ?_)
  refine g_iadd hx hb0 dL_key_10 ?_
  refine lv_bipush (v := gI (32 : Int)) hx hb0 dL_key_11 (by decide) ?_
  refine g_imul hx hb0 dL_key_13 ?_
  refine lv_iload_n hx hb0 dL_key_14 rfl (lv_at hl 2 rfl) ?_
  refine g_iadd hx hb0 dL_key_15 ?_
  exact g_iretP hx hb0 hr hH hlocks dL_key_16 h
def DL_next_J54 (R6 : Int → Int → Option (Int)) (x5_6 : Int) (t0_54 : Int) : Option (Int) :=
  (R6 (x5_6 + (1 : Int)) t0_54)
def DL_next_J52 (R6 : Int → Int → Option (Int)) (x5_6 : Int) (x4_6 : Int) : Option (Int) :=
  (DL_next_J54 R6 x5_6 x4_6)
def DL_next_J47 (R6 : Int → Int → Option (Int)) (x5_6 : Int) : Option (Int) :=
  (DL_next_J54 R6 x5_6 x5_6)
def DL_next_L6 (σ : gSt) (a3 : Int) : Nat → Int → Int → Option (Int)
  | 0, _, _ => none
  | f6 + 1, x5_6, x4_6 => gAt (4 : Int) 6 (gIf (x5_6 < (σ 136 (Int.toNat (4 : Int)))) x5_6 (σ 136 (Int.toNat (4 : Int))) ((DL_key σ x5_6).bind fun q18 => gIf (a3 < q18) q18 a3 (gIf (x4_6 < (0 : Int)) x4_6 (0 : Int) ((DL_next_J47 (DL_next_L6 σ a3 f6) x5_6)) ((DL_key σ x5_6).bind fun q34 => (DL_key σ x4_6).bind fun q41 => gIf (q34 < q41) q34 q41 ((DL_next_J47 (DL_next_L6 σ a3 f6) x5_6)) ((DL_next_J52 (DL_next_L6 σ a3 f6) x5_6 x4_6)))) ((DL_next_J52 (DL_next_L6 σ a3 f6) x5_6 x4_6))) (some x4_6))
def DL_next (σ : gSt) (a3 : Int) : Option (Int) :=
  (DL_next_L6 σ a3 gFuel (0 : Int) (-1 : Int))
set_option maxHeartbeats 4000000 in
set_option maxRecDepth 100000 in
theorem metL_next (l : Launch) (D : va_G) (G : gAd) (σ : gSt) (μ : gLg) (a3 : Int) (r : Int) (h : DL_next σ a3 = some r) : Met l yL_next (gWs yL_next cL_next 6 (some (Jvm.ClassFile.FieldType.int))) ({ frames := 1, cells := 0, slots := 0, locals := 22 } : Room) (gPc D G [.ref (G.1 136), .ref (G.1 137), .ref (G.1 138), .int (gI a3)] σ μ) (gQi D G r σ μ) 0 0 (gA G) := by
  refine Met.ofW (cc := cL_next) (maxL := 6) (ret := (some (Jvm.ClassFile.FieldType.int))) (by decide) rfl ?_
  intro p e s m args below meth c s₁ B hml hv
  obtain ⟨rfl, hP, hX⟩ := hv
  have hx := B.exec
  have hb0 := B.bytes
  have hr := B.returns
  have hts0 := atoms_spec (ws := (gWs yL_next cL_next 6 (some (Jvm.ClassFile.FieldType.int)))) B.pre
  have hts : ∀ w ∈ gLW, w.before _ s = true := fun w hw => hts0 w (List.mem_cons_of_mem _ hw)
  have hown : s.vm.findClass RL = some m.cls := findClass_of_methodNamed B.named
  have hlocks := B.notSynchronized
  have hH : gH D G s s.heap [] σ μ := ⟨hP, va_S.rf⟩
  have hl := lv_entry ([.ref (G.1 136), .ref (G.1 137), .ref (G.1 138), .int (gI a3)]) (n := 6) (Nat.le_of_ble_eq_true rfl)
  rw [lg_entry_eq]
  generalize (lg_sl ([.ref (G.1 136), .ref (G.1 137), .ref (G.1 138), .int (gI a3)]) ++ List.replicate (6 - (lg_sl ([.ref (G.1 136), .ref (G.1 137), .ref (G.1 138), .int (gI a3)])).length) Slot.unset).toArray = ls at hl ⊢
  have hl : lv_has ls 6 [(0, .ref (G.1 136)), (1, .ref (G.1 137)), (2, .ref (G.1 138)), (3, .int (gI a3))] := hl
  unfold DL_next at h
  refine lv_iconst (v := gI (-1 : Int)) hx hb0 dL_next_0 (by decide) ?_
  refine lv_istore (lv' := [(4, .int (gI (-1 : Int))), (0, .ref (G.1 136)), (1, .ref (G.1 137)), (2, .ref (G.1 138)), (3, .int (gI a3))]) hx hb0 dL_next_1 hl (by decide) rfl (fun ls hl => ?_)
  refine lv_iconst (v := gI (0 : Int)) hx hb0 dL_next_3 (by decide) ?_
  refine lv_istore (lv' := [(5, .int (gI (0 : Int))), (4, .int (gI (-1 : Int))), (0, .ref (G.1 136)), (1, .ref (G.1 137)), (2, .ref (G.1 138)), (3, .int (gI a3))]) hx hb0 dL_next_4 hl (by decide) rfl (fun ls hl => ?_)
  have hL6 : ∀ (f6 : Nat) (x5_6 : Int) (x4_6 : Int) (H : Heap) (locs : List Loc) (ls : Array Slot), gH D G s H locs σ μ → lv_has ls 6 [(5, .int (gI x5_6)), (4, .int (gI x4_6)), (0, .ref (G.1 136)), (1, .ref (G.1 137)), (2, .ref (G.1 138)), (3, .int (gI a3))] → (DL_next_L6 σ a3 f6 x5_6 x4_6) = some r → W p l e (headSpec (gWs yL_next cL_next 6 (some (Jvm.ClassFile.FieldType.int))) ({ frames := 1, cells := 0, slots := 0, locals := 22 } : Room)).room s m ([.ref (G.1 136), .ref (G.1 137), .ref (G.1 138), .int (gI a3)] : List Value).toArray below meth c H locs 0 0 (MQ below (gQi D G r σ μ) ([.ref (G.1 136), .ref (G.1 137), .ref (G.1 138), .int (gI a3)] : List Value).toArray s 0 0 (gA G)) (F0 m 6 ls []) := by
    intro f6
    induction f6 with
    | zero => intro x5_6 x4_6 H locs ls hH hl h; cases h
    | succ f6 ih6 =>
      intro x5_6 x4_6 H locs ls hH hl h
      unfold DL_next_L6 at h
      refine lv_iload hx hb0 dL_next_6 (lv_at hl 0 rfl) ?_
      refine lv_aload_n hx hb0 dL_next_8 rfl (lv_at hl 2 rfl) ?_
      refine lv_iconst (v := gI (4 : Int)) hx hb0 dL_next_9 (by decide) ?_
      refine g_iald hx hb0 hX hH (k := 136) (rfl : gKinds[136]? = _) (by decide) dL_next_10 h (fun h => ?_)
      refine g_icmp_ge (tgt := 62) hx hb0 dL_next_11 (by decide) h (fun h => ?_) (fun h => ?_)
      · refine lv_iload hx hb0 dL_next_62 (lv_at hl 1 rfl) ?_
        exact g_iretP hx hb0 hr hH hlocks dL_next_64 h
      · refine lv_aload_n hx hb0 dL_next_14 rfl (lv_at hl 3 rfl) ?_
        refine lv_aload_n hx hb0 dL_next_15 rfl (lv_at hl 4 rfl) ?_
        refine lv_iload hx hb0 dL_next_16 (lv_at hl 0 rfl) ?_
        obtain ⟨q18, e18, h⟩ := gBind_some h
        refine g_callSi (As := [.ref (G.1 137), .ref (G.1 138), .int (gI x5_6)]) (rest := []) ⟨hx, hb0, hml, hown, hts⟩ (metL_key l D G σ μ x5_6 q18 e18) (g_cwS 3 hts q_ml_L_9 q_st_L_key q_in_L q_co_L_key ⟨rfl, rfl⟩ (by decide +kernel) ⟨Nat.le_of_ble_eq_true rfl, Nat.le_of_ble_eq_true rfl⟩) hX hH rfl hl.1 rfl (Nat.le_of_ble_eq_true rfl) dL_next_18 ⟨Nat.zero_le _, Nat.zero_le _⟩ (fun H locs hH => ?_)
        refine lv_iload_n hx hb0 dL_next_21 rfl (lv_at hl 5 rfl) ?_
        have hJ54 : ∀ (t0_54 : Int) (H : Heap) (locs : List Loc) (ls : Array Slot), gH D G s H locs σ μ → lv_has ls 6 [(5, .int (gI x5_6)), (0, .ref (G.1 136)), (1, .ref (G.1 137)), (2, .ref (G.1 138)), (3, .int (gI a3))] → (DL_next_J54 (DL_next_L6 σ a3 f6) x5_6 t0_54) = some r → W p l e (headSpec (gWs yL_next cL_next 6 (some (Jvm.ClassFile.FieldType.int))) ({ frames := 1, cells := 0, slots := 0, locals := 22 } : Room)).room s m ([.ref (G.1 136), .ref (G.1 137), .ref (G.1 138), .int (gI a3)] : List Value).toArray below meth c H locs 0 0 (MQ below (gQi D G r σ μ) ([.ref (G.1 136), .ref (G.1 137), .ref (G.1 138), .int (gI a3)] : List Value).toArray s 0 0 (gA G)) (F0 m 54 ls [.int (gI t0_54)]) := by
          intro t0_54 H locs ls hH hl h
          unfold DL_next_J54 at h
          refine lv_istore (lv' := [(4, .int (gI t0_54)), (5, .int (gI x5_6)), (0, .ref (G.1 136)), (1, .ref (G.1 137)), (2, .ref (G.1 138)), (3, .int (gI a3))]) hx hb0 dL_next_54 hl (by decide) rfl (fun ls hl => ?_)
          refine g_iinc (k := 1) (n := (1 : Int)) (lv' := [(5, .int (gI (x5_6 + (1 : Int)))), (4, .int (gI t0_54)), (0, .ref (G.1 136)), (1, .ref (G.1 137)), (2, .ref (G.1 138)), (3, .int (gI a3))]) hx hb0 dL_next_56 hl rfl (by decide) rfl (fun ls hl => ?_)
          refine lv_goto (tgt := 6) hx hb0 dL_next_59 (by decide) ?_
          exact ih6 _ _ _ _ _ hH (lv_sub hl [0, 1, 2, 3, 4, 5] rfl) h
        have hJ52 : ∀  (H : Heap) (locs : List Loc) (ls : Array Slot), gH D G s H locs σ μ → lv_has ls 6 [(5, .int (gI x5_6)), (4, .int (gI x4_6)), (0, .ref (G.1 136)), (1, .ref (G.1 137)), (2, .ref (G.1 138)), (3, .int (gI a3))] → (DL_next_J52 (DL_next_L6 σ a3 f6) x5_6 x4_6) = some r → W p l e (headSpec (gWs yL_next cL_next 6 (some (Jvm.ClassFile.FieldType.int))) ({ frames := 1, cells := 0, slots := 0, locals := 22 } : Room)).room s m ([.ref (G.1 136), .ref (G.1 137), .ref (G.1 138), .int (gI a3)] : List Value).toArray below meth c H locs 0 0 (MQ below (gQi D G r σ μ) ([.ref (G.1 136), .ref (G.1 137), .ref (G.1 138), .int (gI a3)] : List Value).toArray s 0 0 (gA G)) (F0 m 52 ls []) := by
          intro H locs ls hH hl h
          unfold DL_next_J52 at h
          refine lv_iload hx hb0 dL_next_52 (lv_at hl 1 rfl) ?_
          exact hJ54 _ _ _ _ hH (lv_sub hl [0, 2, 3, 4, 5] rfl) h
        refine g_icmp_le (tgt := 52) hx hb0 dL_next_22 (by decide) h (fun h => ?_) (fun h => ?_)
        · exact hJ52  _ _ _ hH (lv_sub hl [0, 1, 2, 3, 4, 5] rfl) h
        · refine lv_iload hx hb0 dL_next_25 (lv_at hl 1 rfl) ?_
          have hJ47 : ∀  (H : Heap) (locs : List Loc) (ls : Array Slot), gH D G s H locs σ μ → lv_has ls 6 [(5, .int (gI x5_6)), (0, .ref (G.1 136)), (1, .ref (G.1 137)), (2, .ref (G.1 138)), (3, .int (gI a3))] → (DL_next_J47 (DL_next_L6 σ a3 f6) x5_6) = some r → W p l e (headSpec (gWs yL_next cL_next 6 (some (Jvm.ClassFile.FieldType.int))) ({ frames := 1, cells := 0, slots := 0, locals := 22 } : Room)).room s m ([.ref (G.1 136), .ref (G.1 137), .ref (G.1 138), .int (gI a3)] : List Value).toArray below meth c H locs 0 0 (MQ below (gQi D G r σ μ) ([.ref (G.1 136), .ref (G.1 137), .ref (G.1 138), .int (gI a3)] : List Value).toArray s 0 0 (gA G)) (F0 m 47 ls []) := by
            intro H locs ls hH hl h
            unfold DL_next_J47 at h
            refine lv_iload hx hb0 dL_next_47 (lv_at hl 0 rfl) ?_
            refine lv_goto (tgt := 54) hx hb0 dL_next_49 (by decide) ?_
            exact hJ54 _ _ _ _ hH (lv_sub hl [0, 1, 2, 3, 4] rfl) h
          refine g_if_lt (tgt := 47) hx hb0 dL_next_27 (by decide) h (fun h => ?_) (fun h => ?_)
          · exact hJ47  _ _ _ hH (lv_sub hl [0, 2, 3, 4, 5] rfl) h
          · refine lv_aload_n hx hb0 dL_next_30 rfl (lv_at hl 3 rfl) ?_
            refine lv_aload_n hx hb0 dL_next_31 rfl (lv_at hl 4 rfl) ?_
            refine lv_iload hx hb0 dL_next_32 (lv_at hl 0 rfl) ?_
            obtain ⟨q34, e34, h⟩ := gBind_some h
            refine g_callSi (As := [.ref (G.1 137), .ref (G.1 138), .int (gI x5_6)]) (rest := []) ⟨hx, hb0, hml, hown, hts⟩ (metL_key l D G σ μ x5_6 q34 e34) (g_cwS 3 hts q_ml_L_9 q_st_L_key q_in_L q_co_L_key ⟨rfl, rfl⟩ (by decide +kernel) ⟨Nat.le_of_ble_eq_true rfl, Nat.le_of_ble_eq_true rfl⟩) hX hH rfl hl.1 rfl (Nat.le_of_ble_eq_true rfl) dL_next_34 ⟨Nat.zero_le _, Nat.zero_le _⟩ (fun H locs hH => ?_)
            refine lv_aload_n hx hb0 dL_next_37 rfl (lv_at hl 3 rfl) ?_
            refine lv_aload_n hx hb0 dL_next_38 rfl (lv_at hl 4 rfl) ?_
            refine lv_iload hx hb0 dL_next_39 (lv_at hl 1 rfl) ?_
            obtain ⟨q41, e41, h⟩ := gBind_some h
            refine g_callSi (As := [.ref (G.1 137), .ref (G.1 138), .int (gI x4_6)]) (rest := [.int (gI q34)]) ⟨hx, hb0, hml, hown, hts⟩ (metL_key l D G σ μ x4_6 q41 e41) (g_cwS 3 hts q_ml_L_9 q_st_L_key q_in_L q_co_L_key ⟨rfl, rfl⟩ (by decide +kernel) ⟨Nat.le_of_ble_eq_true rfl, Nat.le_of_ble_eq_true rfl⟩) hX hH rfl hl.1 rfl (Nat.le_of_ble_eq_true rfl) dL_next_41 ⟨Nat.zero_le _, Nat.zero_le _⟩ (fun H locs hH => ?_)
            refine g_icmp_ge (tgt := 52) hx hb0 dL_next_44 (by decide) h (fun h => ?_) (fun h => ?_)
            · exact hJ52  _ _ _ hH (lv_sub hl [0, 1, 2, 3, 4, 5] rfl) h
            · exact hJ47  _ _ _ hH (lv_sub hl [0, 2, 3, 4, 5] rfl) h
  exact hL6 gFuel _ _ _ _ _ hH (lv_sub hl [0, 1, 2, 3, 4, 5] rfl) h
def DL_size_J27 (R5 : Int → Int → Option (Int)) (x4_5 : Int) (x3_5 : Int) (t0_27 : Int) : Option (Int) :=
  (R5 (x4_5 + (1 : Int)) (x3_5 + t0_27))
def DL_size_L5 (σ : gSt) (a2 : Int) : Nat → Int → Int → Option (Int)
  | 0, _, _ => none
  | f5 + 1, x4_5, x3_5 => gAt (4 : Int) 6 (gIf (x4_5 < (σ 136 (Int.toNat (4 : Int)))) x4_5 (σ 136 (Int.toNat (4 : Int))) (gAt x4_5 24 (gIf ((σ 137 (Int.toNat x4_5)) = a2) (σ 137 (Int.toNat x4_5)) a2 ((DL_size_J27 (DL_size_L5 σ a2 f5) x4_5 x3_5 (1 : Int))) ((DL_size_J27 (DL_size_L5 σ a2 f5) x4_5 x3_5 (0 : Int))))) (some x3_5))
def DL_size (σ : gSt) (a2 : Int) : Option (Int) :=
  (DL_size_L5 σ a2 gFuel (0 : Int) (0 : Int))
set_option maxHeartbeats 4000000 in
set_option maxRecDepth 100000 in
theorem metL_size (l : Launch) (D : va_G) (G : gAd) (σ : gSt) (μ : gLg) (a2 : Int) (r : Int) (h : DL_size σ a2 = some r) : Met l yL_size (gWs yL_size cL_size 5 (some (Jvm.ClassFile.FieldType.int))) ({ frames := 0, cells := 0, slots := 0, locals := 0 } : Room) (gPc D G [.ref (G.1 136), .ref (G.1 137), .int (gI a2)] σ μ) (gQi D G r σ μ) 0 0 (gA G) := by
  refine Met.ofW (cc := cL_size) (maxL := 5) (ret := (some (Jvm.ClassFile.FieldType.int))) (by decide) rfl ?_
  intro p e s m args below meth c s₁ B hml hv
  obtain ⟨rfl, hP, hX⟩ := hv
  have hx := B.exec
  have hb0 := B.bytes
  have hr := B.returns
  have hts0 := atoms_spec (ws := (gWs yL_size cL_size 5 (some (Jvm.ClassFile.FieldType.int)))) B.pre
  have hts : ∀ w ∈ gLW, w.before _ s = true := fun w hw => hts0 w (List.mem_cons_of_mem _ hw)
  have hown : s.vm.findClass RL = some m.cls := findClass_of_methodNamed B.named
  have hlocks := B.notSynchronized
  have hH : gH D G s s.heap [] σ μ := ⟨hP, va_S.rf⟩
  have hl := lv_entry ([.ref (G.1 136), .ref (G.1 137), .int (gI a2)]) (n := 5) (Nat.le_of_ble_eq_true rfl)
  rw [lg_entry_eq]
  generalize (lg_sl ([.ref (G.1 136), .ref (G.1 137), .int (gI a2)]) ++ List.replicate (5 - (lg_sl ([.ref (G.1 136), .ref (G.1 137), .int (gI a2)])).length) Slot.unset).toArray = ls at hl ⊢
  have hl : lv_has ls 5 [(0, .ref (G.1 136)), (1, .ref (G.1 137)), (2, .int (gI a2))] := hl
  unfold DL_size at h
  refine lv_iconst (v := gI (0 : Int)) hx hb0 dL_size_0 (by decide) ?_
  refine lv_istore_n (lv' := [(3, .int (gI (0 : Int))), (0, .ref (G.1 136)), (1, .ref (G.1 137)), (2, .int (gI a2))]) hx hb0 dL_size_1 rfl hl (by decide) rfl (fun ls hl => ?_)
  refine lv_iconst (v := gI (0 : Int)) hx hb0 dL_size_2 (by decide) ?_
  refine lv_istore (lv' := [(4, .int (gI (0 : Int))), (3, .int (gI (0 : Int))), (0, .ref (G.1 136)), (1, .ref (G.1 137)), (2, .int (gI a2))]) hx hb0 dL_size_3 hl (by decide) rfl (fun ls hl => ?_)
  have hL5 : ∀ (f5 : Nat) (x4_5 : Int) (x3_5 : Int) (H : Heap) (locs : List Loc) (ls : Array Slot), gH D G s H locs σ μ → lv_has ls 5 [(4, .int (gI x4_5)), (3, .int (gI x3_5)), (0, .ref (G.1 136)), (1, .ref (G.1 137)), (2, .int (gI a2))] → (DL_size_L5 σ a2 f5 x4_5 x3_5) = some r → W p l e (headSpec (gWs yL_size cL_size 5 (some (Jvm.ClassFile.FieldType.int))) ({ frames := 0, cells := 0, slots := 0, locals := 0 } : Room)).room s m ([.ref (G.1 136), .ref (G.1 137), .int (gI a2)] : List Value).toArray below meth c H locs 0 0 (MQ below (gQi D G r σ μ) ([.ref (G.1 136), .ref (G.1 137), .int (gI a2)] : List Value).toArray s 0 0 (gA G)) (F0 m 5 ls []) := by
    intro f5
    induction f5 with
    | zero => intro x4_5 x3_5 H locs ls hH hl h; cases h
    | succ f5 ih5 =>
      intro x4_5 x3_5 H locs ls hH hl h
      unfold DL_size_L5 at h
      refine lv_iload hx hb0 dL_size_5 (lv_at hl 0 rfl) ?_
      refine lv_aload_n hx hb0 dL_size_7 rfl (lv_at hl 2 rfl) ?_
      refine lv_iconst (v := gI (4 : Int)) hx hb0 dL_size_8 (by decide) ?_
      refine g_iald hx hb0 hX hH (k := 136) (rfl : gKinds[136]? = _) (by decide) dL_size_9 h (fun h => ?_)
      refine g_icmp_ge (tgt := 35) hx hb0 dL_size_10 (by decide) h (fun h => ?_) (fun h => ?_)
      · refine lv_iload_n hx hb0 dL_size_35 rfl (lv_at hl 1 rfl) ?_
        exact g_iretP hx hb0 hr hH hlocks dL_size_36 h
      · refine lv_iload_n hx hb0 dL_size_13 rfl (lv_at hl 1 rfl) ?_
        refine lv_aload_n hx hb0 dL_size_14 rfl (lv_at hl 3 rfl) ?_
        refine lv_iload hx hb0 dL_size_15 (lv_at hl 0 rfl) ?_
        refine g_iald hx hb0 hX hH (k := 137) (rfl : gKinds[137]? = _) (by decide) dL_size_17 h (fun h => ?_)
        refine lv_iload_n hx hb0 dL_size_18 rfl (lv_at hl 4 rfl) ?_
        have hJ27 : ∀ (t0_27 : Int) (H : Heap) (locs : List Loc) (ls : Array Slot), gH D G s H locs σ μ → lv_has ls 5 [(4, .int (gI x4_5)), (0, .ref (G.1 136)), (1, .ref (G.1 137)), (2, .int (gI a2))] → (DL_size_J27 (DL_size_L5 σ a2 f5) x4_5 x3_5 t0_27) = some r → W p l e (headSpec (gWs yL_size cL_size 5 (some (Jvm.ClassFile.FieldType.int))) ({ frames := 0, cells := 0, slots := 0, locals := 0 } : Room)).room s m ([.ref (G.1 136), .ref (G.1 137), .int (gI a2)] : List Value).toArray below meth c H locs 0 0 (MQ below (gQi D G r σ μ) ([.ref (G.1 136), .ref (G.1 137), .int (gI a2)] : List Value).toArray s 0 0 (gA G)) (F0 m 27 ls [.int (gI t0_27), .int (gI x3_5)]) := by
          intro t0_27 H locs ls hH hl h
          unfold DL_size_J27 at h
          refine g_iadd hx hb0 dL_size_27 ?_
          refine lv_istore_n (lv' := [(3, .int (gI (x3_5 + t0_27))), (4, .int (gI x4_5)), (0, .ref (G.1 136)), (1, .ref (G.1 137)), (2, .int (gI a2))]) hx hb0 dL_size_28 rfl hl (by decide) rfl (fun ls hl => ?_)
          refine g_iinc (k := 1) (n := (1 : Int)) (lv' := [(4, .int (gI (x4_5 + (1 : Int)))), (3, .int (gI (x3_5 + t0_27))), (0, .ref (G.1 136)), (1, .ref (G.1 137)), (2, .int (gI a2))]) hx hb0 dL_size_29 hl rfl (by decide) rfl (fun ls hl => ?_)
          refine lv_goto (tgt := 5) hx hb0 dL_size_32 (by decide) ?_
          exact ih5 _ _ _ _ _ hH (lv_sub hl [0, 1, 2, 3, 4] rfl) h
        refine g_icmp_ne (tgt := 26) hx hb0 dL_size_19 (by decide) h (fun h => ?_) (fun h => ?_)
        · refine lv_iconst (v := gI (0 : Int)) hx hb0 dL_size_26 (by decide) ?_
          exact hJ27 _ _ _ _ hH (lv_sub hl [0, 2, 3, 4] rfl) h
        · refine lv_iconst (v := gI (1 : Int)) hx hb0 dL_size_22 (by decide) ?_
          refine lv_goto (tgt := 27) hx hb0 dL_size_23 (by decide) ?_
          exact hJ27 _ _ _ _ hH (lv_sub hl [0, 2, 3, 4] rfl) h
  exact hL5 gFuel _ _ _ _ _ hH (lv_sub hl [0, 1, 2, 3, 4] rfl) h
def DL_bands_K173  (x5_173 : Int) (σ173 : gSt) : Option (Int × gSt) :=
  gAt (4 : Int) 6 (gIf ((σ173 136 (Int.toNat (4 : Int))) = (0 : Int)) (σ173 136 (Int.toNat (4 : Int))) (0 : Int) (some ((0 : Int), σ173)) (some ((x5_173 + (1 : Int)), σ173)))
def DL_bands_J140 (R18 : Int → Int → Int → Int → gSt → Option (Int × gSt)) (x8_18 : Int) (σ18 : gSt) (x7_140 : Int) (x6_140 : Int) (x5_140 : Int) : Option (Int × gSt) :=
  gAt x8_18 24 ((DL_key (gUp σ18 122 (Int.toNat x8_18) (((32 : Int) * x5_140) + x6_140)) x8_18).bind fun q162 => (DL_next (gUp σ18 122 (Int.toNat x8_18) (((32 : Int) * x5_140) + x6_140)) q162).bind fun q165 => (R18 q165 x7_140 (x6_140 + (1 : Int)) x5_140 (gUp σ18 122 (Int.toNat x8_18) (((32 : Int) * x5_140) + x6_140))))
def DL_bands_J122 (R18 : Int → Int → Int → Int → gSt → Option (Int × gSt)) (x8_18 : Int) (x5_18 : Int) (σ18 : gSt) (t0_106 : Int) (t0_122 : Int) : Option (Int × gSt) :=
  (DL_bands_J140 R18 x8_18 σ18 (σ18 137 (Int.toNat x8_18)) t0_122 (x5_18 + t0_106))
def DL_bands_J106 (R18 : Int → Int → Int → Int → gSt → Option (Int × gSt)) (x8_18 : Int) (x6_18 : Int) (x5_18 : Int) (σ18 : gSt) (t0_92 : Int) (t0_106 : Int) : Option (Int × gSt) :=
  gIf (t0_92 = (0 : Int)) t0_92 (0 : Int) ((DL_bands_J122 R18 x8_18 x5_18 σ18 t0_106 (x6_18 + (1 : Int)))) ((DL_bands_J122 R18 x8_18 x5_18 σ18 t0_106 (1 : Int)))
def DL_bands_J92 (R18 : Int → Int → Int → Int → gSt → Option (Int × gSt)) (x8_18 : Int) (x6_18 : Int) (x5_18 : Int) (σ18 : gSt) (t0_92 : Int) : Option (Int × gSt) :=
  gIf (t0_92 = (0 : Int)) t0_92 (0 : Int) ((DL_bands_J106 R18 x8_18 x6_18 x5_18 σ18 t0_92 (0 : Int))) ((DL_bands_J106 R18 x8_18 x6_18 x5_18 σ18 t0_92 (1 : Int)))
def DL_bands_J87 (R18 : Int → Int → Int → Int → gSt → Option (Int × gSt)) (x8_18 : Int) (x6_18 : Int) (x5_18 : Int) (σ18 : gSt) : Option (Int × gSt) :=
  (DL_bands_J92 R18 x8_18 x6_18 x5_18 σ18 (1 : Int))
def DL_bands_J78 (a4 : Int) (R18 : Int → Int → Int → Int → gSt → Option (Int × gSt)) (x8_18 : Int) (x6_18 : Int) (x5_18 : Int) (σ18 : gSt) : Option (Int × gSt) :=
  gIf ((a4 - x6_18) < (2 : Int)) (a4 - x6_18) (2 : Int) ((DL_bands_J87 R18 x8_18 x6_18 x5_18 σ18)) ((DL_bands_J92 R18 x8_18 x6_18 x5_18 σ18 (0 : Int)))
def DL_bands_L18 (K173 : Int → gSt → Option (Int × gSt)) (a4 : Int) : Nat → Int → Int → Int → Int → gSt → Option (Int × gSt)
  | 0, _, _, _, _, _ => none
  | f18 + 1, x8_18, x7_18, x6_18, x5_18, σ18 => gIf (x8_18 < (0 : Int)) x8_18 (0 : Int) ((K173 x5_18 σ18)) (gAt x8_18 24 (gIf ((σ18 137 (Int.toNat x8_18)) = x7_18) (σ18 137 (Int.toNat x8_18)) x7_18 (gIf (x6_18 = a4) x6_18 a4 ((DL_bands_J140 (DL_bands_L18 K173 a4 f18) x8_18 σ18 x7_18 (1 : Int) (x5_18 + (1 : Int)))) ((DL_bands_J140 (DL_bands_L18 K173 a4 f18) x8_18 σ18 x7_18 x6_18 x5_18))) (gAt x8_18 24 ((DL_size σ18 (σ18 137 (Int.toNat x8_18))).bind fun q43 => gAt (2 : Int) 6 (gIf ((σ18 136 (Int.toNat (2 : Int))) = (1 : Int)) (σ18 136 (Int.toNat (2 : Int))) (1 : Int) (gIf ((0 : Int) < x6_18) x6_18 (0 : Int) (gIf (a4 < (x6_18 + ((1 : Int) + q43))) (x6_18 + ((1 : Int) + q43)) a4 (gIf (a4 < ((1 : Int) + q43)) ((1 : Int) + q43) a4 ((DL_bands_J78 a4 (DL_bands_L18 K173 a4 f18) x8_18 x6_18 x5_18 σ18)) ((DL_bands_J87 (DL_bands_L18 K173 a4 f18) x8_18 x6_18 x5_18 σ18))) ((DL_bands_J78 a4 (DL_bands_L18 K173 a4 f18) x8_18 x6_18 x5_18 σ18))) ((DL_bands_J78 a4 (DL_bands_L18 K173 a4 f18) x8_18 x6_18 x5_18 σ18))) ((DL_bands_J78 a4 (DL_bands_L18 K173 a4 f18) x8_18 x6_18 x5_18 σ18)))))))
def DL_bands (σ : gSt) (a4 : Int) : Option (Int × gSt) :=
  (DL_next σ (-1 : Int)).bind fun q13 => (DL_bands_L18 (DL_bands_K173) a4 gFuel q13 (-1 : Int) (0 : Int) (0 : Int) σ)
set_option maxHeartbeats 4000000 in
set_option maxRecDepth 100000 in
theorem metL_bands (l : Launch) (D : va_G) (G : gAd) (σ : gSt) (μ : gLg) (a4 : Int) (r : Int) (σ' : gSt) (h : DL_bands σ a4 = some (r, σ')) : Met l yL_bands (gWs yL_bands cL_bands 11 (some (Jvm.ClassFile.FieldType.int))) ({ frames := 2, cells := 0, slots := 0, locals := 47 } : Room) (gPc D G [.ref (G.1 136), .ref (G.1 137), .ref (G.1 138), .ref (G.1 122), .int (gI a4)] σ μ) (gQi D G r σ' μ) 0 0 (gA G) := by
  refine Met.ofW (cc := cL_bands) (maxL := 11) (ret := (some (Jvm.ClassFile.FieldType.int))) (by decide) rfl ?_
  intro p e s m args below meth c s₁ B hml hv
  obtain ⟨rfl, hP, hX⟩ := hv
  have hx := B.exec
  have hb0 := B.bytes
  have hr := B.returns
  have hts0 := atoms_spec (ws := (gWs yL_bands cL_bands 11 (some (Jvm.ClassFile.FieldType.int)))) B.pre
  have hts : ∀ w ∈ gLW, w.before _ s = true := fun w hw => hts0 w (List.mem_cons_of_mem _ hw)
  have hown : s.vm.findClass RL = some m.cls := findClass_of_methodNamed B.named
  have hlocks := B.notSynchronized
  have hH : gH D G s s.heap [] σ μ := ⟨hP, va_S.rf⟩
  have hl := lv_entry ([.ref (G.1 136), .ref (G.1 137), .ref (G.1 138), .ref (G.1 122), .int (gI a4)]) (n := 11) (Nat.le_of_ble_eq_true rfl)
  rw [lg_entry_eq]
  generalize (lg_sl ([.ref (G.1 136), .ref (G.1 137), .ref (G.1 138), .ref (G.1 122), .int (gI a4)]) ++ List.replicate (11 - (lg_sl ([.ref (G.1 136), .ref (G.1 137), .ref (G.1 138), .ref (G.1 122), .int (gI a4)])).length) Slot.unset).toArray = ls at hl ⊢
  have hl : lv_has ls 11 [(0, .ref (G.1 136)), (1, .ref (G.1 137)), (2, .ref (G.1 138)), (3, .ref (G.1 122)), (4, .int (gI a4))] := hl
  unfold DL_bands at h
  refine lv_iconst (v := gI (0 : Int)) hx hb0 dL_bands_0 (by decide) ?_
  refine lv_istore (lv' := [(5, .int (gI (0 : Int))), (0, .ref (G.1 136)), (1, .ref (G.1 137)), (2, .ref (G.1 138)), (3, .ref (G.1 122)), (4, .int (gI a4))]) hx hb0 dL_bands_1 hl (by decide) rfl (fun ls hl => ?_)
  refine lv_iconst (v := gI (0 : Int)) hx hb0 dL_bands_3 (by decide) ?_
  refine lv_istore (lv' := [(6, .int (gI (0 : Int))), (5, .int (gI (0 : Int))), (0, .ref (G.1 136)), (1, .ref (G.1 137)), (2, .ref (G.1 138)), (3, .ref (G.1 122)), (4, .int (gI a4))]) hx hb0 dL_bands_4 hl (by decide) rfl (fun ls hl => ?_)
  refine lv_iconst (v := gI (-1 : Int)) hx hb0 dL_bands_6 (by decide) ?_
  refine lv_istore (lv' := [(7, .int (gI (-1 : Int))), (6, .int (gI (0 : Int))), (5, .int (gI (0 : Int))), (0, .ref (G.1 136)), (1, .ref (G.1 137)), (2, .ref (G.1 138)), (3, .ref (G.1 122)), (4, .int (gI a4))]) hx hb0 dL_bands_7 hl (by decide) rfl (fun ls hl => ?_)
  refine lv_aload_n hx hb0 dL_bands_9 rfl (lv_at hl 3 rfl) ?_
  refine lv_aload_n hx hb0 dL_bands_10 rfl (lv_at hl 4 rfl) ?_
  refine lv_aload_n hx hb0 dL_bands_11 rfl (lv_at hl 5 rfl) ?_
  refine lv_iconst (v := gI (-1 : Int)) hx hb0 dL_bands_12 (by decide) ?_
  obtain ⟨q13, e13, h⟩ := gBind_some h
  refine g_callSi (As := [.ref (G.1 136), .ref (G.1 137), .ref (G.1 138), .int (gI (-1 : Int))]) (rest := []) ⟨hx, hb0, hml, hown, hts⟩ (metL_next l D G σ μ (-1 : Int) q13 e13) (g_cwS 4 hts q_ml_L_15 q_st_L_next q_in_L q_co_L_next ⟨rfl, rfl⟩ (by decide +kernel) ⟨Nat.le_of_ble_eq_true rfl, Nat.le_of_ble_eq_true rfl⟩) hX hH rfl hl.1 rfl (Nat.le_of_ble_eq_true rfl) dL_bands_13 ⟨Nat.zero_le _, Nat.zero_le _⟩ (fun H locs hH => ?_)
  refine lv_istore (lv' := [(8, .int (gI q13)), (7, .int (gI (-1 : Int))), (6, .int (gI (0 : Int))), (5, .int (gI (0 : Int))), (0, .ref (G.1 136)), (1, .ref (G.1 137)), (2, .ref (G.1 138)), (3, .ref (G.1 122)), (4, .int (gI a4))]) hx hb0 dL_bands_16 hl (by decide) rfl (fun ls hl => ?_)
  have hK173 : ∀ (x5_173 : Int) (σ173 : gSt) (H : Heap) (locs : List Loc) (ls : Array Slot), gH D G s H locs σ173 μ → lv_has ls 11 [(5, .int (gI x5_173)), (0, .ref (G.1 136))] → (DL_bands_K173 x5_173 σ173) = some (r, σ') → W p l e (headSpec (gWs yL_bands cL_bands 11 (some (Jvm.ClassFile.FieldType.int))) ({ frames := 2, cells := 0, slots := 0, locals := 47 } : Room)).room s m ([.ref (G.1 136), .ref (G.1 137), .ref (G.1 138), .ref (G.1 122), .int (gI a4)] : List Value).toArray below meth c H locs 0 0 (MQ below (gQi D G r σ' μ) ([.ref (G.1 136), .ref (G.1 137), .ref (G.1 138), .ref (G.1 122), .int (gI a4)] : List Value).toArray s 0 0 (gA G)) (F0 m 173 ls []) := by
    intro x5_173 σ173 H locs ls hH hl h
    unfold DL_bands_K173 at h
    refine lv_aload_n hx hb0 dL_bands_173 rfl (lv_at hl 1 rfl) ?_
    refine lv_iconst (v := gI (4 : Int)) hx hb0 dL_bands_174 (by decide) ?_
    refine g_iald hx hb0 hX hH (k := 136) (rfl : gKinds[136]? = _) (by decide) dL_bands_175 h (fun h => ?_)
    refine g_if_ne (tgt := 183) hx hb0 dL_bands_176 (by decide) h (fun h => ?_) (fun h => ?_)
    · refine lv_iload hx hb0 dL_bands_183 (lv_at hl 0 rfl) ?_
      refine lv_iconst (v := gI (1 : Int)) hx hb0 dL_bands_185 (by decide) ?_
      refine g_iadd hx hb0 dL_bands_186 ?_
      exact g_iretS hx hb0 hr hH hlocks dL_bands_187 h
    · refine lv_iconst (v := gI (0 : Int)) hx hb0 dL_bands_179 (by decide) ?_
      refine lv_goto (tgt := 187) hx hb0 dL_bands_180 (by decide) ?_
      exact g_iretS hx hb0 hr hH hlocks dL_bands_187 h
  have hL18 : ∀ (f18 : Nat) (x8_18 : Int) (x7_18 : Int) (x6_18 : Int) (x5_18 : Int) (σ18 : gSt) (H : Heap) (locs : List Loc) (ls : Array Slot), gH D G s H locs σ18 μ → lv_has ls 11 [(8, .int (gI x8_18)), (7, .int (gI x7_18)), (6, .int (gI x6_18)), (5, .int (gI x5_18)), (0, .ref (G.1 136)), (1, .ref (G.1 137)), (2, .ref (G.1 138)), (3, .ref (G.1 122)), (4, .int (gI a4))] → (DL_bands_L18 (DL_bands_K173) a4 f18 x8_18 x7_18 x6_18 x5_18 σ18) = some (r, σ') → W p l e (headSpec (gWs yL_bands cL_bands 11 (some (Jvm.ClassFile.FieldType.int))) ({ frames := 2, cells := 0, slots := 0, locals := 47 } : Room)).room s m ([.ref (G.1 136), .ref (G.1 137), .ref (G.1 138), .ref (G.1 122), .int (gI a4)] : List Value).toArray below meth c H locs 0 0 (MQ below (gQi D G r σ' μ) ([.ref (G.1 136), .ref (G.1 137), .ref (G.1 138), .ref (G.1 122), .int (gI a4)] : List Value).toArray s 0 0 (gA G)) (F0 m 18 ls []) := by
    intro f18
    induction f18 with
    | zero => intro x8_18 x7_18 x6_18 x5_18 σ18 H locs ls hH hl h; cases h
    | succ f18 ih18 =>
      intro x8_18 x7_18 x6_18 x5_18 σ18 H locs ls hH hl h
      unfold DL_bands_L18 at h
      refine lv_iload hx hb0 dL_bands_18 (lv_at hl 0 rfl) ?_
      refine g_if_lt (tgt := 173) hx hb0 dL_bands_20 (by decide) h (fun h => ?_) (fun h => ?_)
      · exact hK173 _ _ _ _ _ hH (lv_sub hl [3, 4] rfl) h
      · refine lv_aload_n hx hb0 dL_bands_23 rfl (lv_at hl 5 rfl) ?_
        refine lv_iload hx hb0 dL_bands_24 (lv_at hl 0 rfl) ?_
        refine g_iald hx hb0 hX hH (k := 137) (rfl : gKinds[137]? = _) (by decide) dL_bands_26 h (fun h => ?_)
        refine lv_iload hx hb0 dL_bands_27 (lv_at hl 1 rfl) ?_
        have hJ140 : ∀ (x7_140 : Int) (x6_140 : Int) (x5_140 : Int) (H : Heap) (locs : List Loc) (ls : Array Slot), gH D G s H locs σ18 μ → lv_has ls 11 [(8, .int (gI x8_18)), (7, .int (gI x7_140)), (6, .int (gI x6_140)), (5, .int (gI x5_140)), (0, .ref (G.1 136)), (1, .ref (G.1 137)), (2, .ref (G.1 138)), (3, .ref (G.1 122)), (4, .int (gI a4))] → (DL_bands_J140 (DL_bands_L18 (DL_bands_K173) a4 f18) x8_18 σ18 x7_140 x6_140 x5_140) = some (r, σ') → W p l e (headSpec (gWs yL_bands cL_bands 11 (some (Jvm.ClassFile.FieldType.int))) ({ frames := 2, cells := 0, slots := 0, locals := 47 } : Room)).room s m ([.ref (G.1 136), .ref (G.1 137), .ref (G.1 138), .ref (G.1 122), .int (gI a4)] : List Value).toArray below meth c H locs 0 0 (MQ below (gQi D G r σ' μ) ([.ref (G.1 136), .ref (G.1 137), .ref (G.1 138), .ref (G.1 122), .int (gI a4)] : List Value).toArray s 0 0 (gA G)) (F0 m 140 ls []) := by
          intro x7_140 x6_140 x5_140 H locs ls hH hl h
          unfold DL_bands_J140 at h
          refine lv_aload_n hx hb0 dL_bands_140 rfl (lv_at hl 7 rfl) ?_
          refine lv_iload hx hb0 dL_bands_141 (lv_at hl 0 rfl) ?_
          refine lv_bipush (v := gI (32 : Int)) hx hb0 dL_bands_143 (by decide) ?_
          refine lv_iload hx hb0 dL_bands_145 (lv_at hl 3 rfl) ?_
          refine g_imul hx hb0 dL_bands_147 ?_
          refine lv_iload hx hb0 dL_bands_148 (lv_at hl 2 rfl) ?_
          refine g_iadd hx hb0 dL_bands_150 ?_
          refine g_iast hx hb0 hX hH (k := 122) (rfl : gKinds[122]? = _) (by decide) dL_bands_151 h (fun h H locs hH => ?_)
          refine g_iinc (k := 2) (n := (1 : Int)) (lv' := [(6, .int (gI (x6_140 + (1 : Int)))), (8, .int (gI x8_18)), (7, .int (gI x7_140)), (5, .int (gI x5_140)), (0, .ref (G.1 136)), (1, .ref (G.1 137)), (2, .ref (G.1 138)), (3, .ref (G.1 122)), (4, .int (gI a4))]) hx hb0 dL_bands_152 hl rfl (by decide) rfl (fun ls hl => ?_)
          refine lv_aload_n hx hb0 dL_bands_155 rfl (lv_at hl 4 rfl) ?_
          refine lv_aload_n hx hb0 dL_bands_156 rfl (lv_at hl 5 rfl) ?_
          refine lv_aload_n hx hb0 dL_bands_157 rfl (lv_at hl 6 rfl) ?_
          refine lv_aload_n hx hb0 dL_bands_158 rfl (lv_at hl 5 rfl) ?_
          refine lv_aload_n hx hb0 dL_bands_159 rfl (lv_at hl 6 rfl) ?_
          refine lv_iload hx hb0 dL_bands_160 (lv_at hl 1 rfl) ?_
          obtain ⟨q162, e162, h⟩ := gBind_some h
          refine g_callSi (As := [.ref (G.1 137), .ref (G.1 138), .int (gI x8_18)]) (rest := [.ref (G.1 138), .ref (G.1 137), .ref (G.1 136)]) ⟨hx, hb0, hml, hown, hts⟩ (metL_key l D G (gUp σ18 122 (Int.toNat x8_18) (((32 : Int) * x5_140) + x6_140)) μ x8_18 q162 e162) (g_cwS 3 hts q_ml_L_9 q_st_L_key q_in_L q_co_L_key ⟨rfl, rfl⟩ (by decide +kernel) ⟨Nat.le_of_ble_eq_true rfl, Nat.le_of_ble_eq_true rfl⟩) hX hH rfl hl.1 rfl (Nat.le_of_ble_eq_true rfl) dL_bands_162 ⟨Nat.zero_le _, Nat.zero_le _⟩ (fun H locs hH => ?_)
          obtain ⟨q165, e165, h⟩ := gBind_some h
          refine g_callSi (As := [.ref (G.1 136), .ref (G.1 137), .ref (G.1 138), .int (gI q162)]) (rest := []) ⟨hx, hb0, hml, hown, hts⟩ (metL_next l D G (gUp σ18 122 (Int.toNat x8_18) (((32 : Int) * x5_140) + x6_140)) μ q162 q165 e165) (g_cwS 4 hts q_ml_L_15 q_st_L_next q_in_L q_co_L_next ⟨rfl, rfl⟩ (by decide +kernel) ⟨Nat.le_of_ble_eq_true rfl, Nat.le_of_ble_eq_true rfl⟩) hX hH rfl hl.1 rfl (Nat.le_of_ble_eq_true rfl) dL_bands_165 ⟨Nat.zero_le _, Nat.zero_le _⟩ (fun H locs hH => ?_)
          refine lv_istore (lv' := [(8, .int (gI q165)), (6, .int (gI (x6_140 + (1 : Int)))), (7, .int (gI x7_140)), (5, .int (gI x5_140)), (0, .ref (G.1 136)), (1, .ref (G.1 137)), (2, .ref (G.1 138)), (3, .ref (G.1 122)), (4, .int (gI a4))]) hx hb0 dL_bands_168 hl (by decide) rfl (fun ls hl => ?_)
          refine lv_goto (tgt := 18) hx hb0 dL_bands_170 (by decide) ?_
          exact ih18 _ _ _ _ _ _ _ _ hH (lv_sub hl [0, 2, 1, 3, 4, 5, 6, 7, 8] rfl) h
        refine g_icmp_eq (tgt := 127) hx hb0 dL_bands_29 (by decide) h (fun h => ?_) (fun h => ?_)
        · refine lv_iload hx hb0 dL_bands_127 (lv_at hl 2 rfl) ?_
          refine lv_iload hx hb0 dL_bands_129 (lv_at hl 8 rfl) ?_
          refine g_icmp_ne (tgt := 140) hx hb0 dL_bands_131 (by decide) h (fun h => ?_) (fun h => ?_)
          · exact hJ140 _ _ _ _ _ _ hH (lv_sub hl [0, 1, 2, 3, 4, 5, 6, 7, 8] rfl) h
          · refine g_iinc (k := 3) (n := (1 : Int)) (lv' := [(5, .int (gI (x5_18 + (1 : Int)))), (8, .int (gI x8_18)), (7, .int (gI x7_18)), (6, .int (gI x6_18)), (0, .ref (G.1 136)), (1, .ref (G.1 137)), (2, .ref (G.1 138)), (3, .ref (G.1 122)), (4, .int (gI a4))]) hx hb0 dL_bands_134 hl rfl (by decide) rfl (fun ls hl => ?_)
            refine lv_iconst (v := gI (1 : Int)) hx hb0 dL_bands_137 (by decide) ?_
            refine lv_istore (lv' := [(6, .int (gI (1 : Int))), (5, .int (gI (x5_18 + (1 : Int)))), (8, .int (gI x8_18)), (7, .int (gI x7_18)), (0, .ref (G.1 136)), (1, .ref (G.1 137)), (2, .ref (G.1 138)), (3, .ref (G.1 122)), (4, .int (gI a4))]) hx hb0 dL_bands_138 hl (by decide) rfl (fun ls hl => ?_)
            exact hJ140 _ _ _ _ _ _ hH (lv_sub hl [2, 3, 0, 1, 4, 5, 6, 7, 8] rfl) h
        · refine lv_aload_n hx hb0 dL_bands_32 rfl (lv_at hl 5 rfl) ?_
          refine lv_iload hx hb0 dL_bands_33 (lv_at hl 0 rfl) ?_
          refine g_iald hx hb0 hX hH (k := 137) (rfl : gKinds[137]? = _) (by decide) dL_bands_35 h (fun h => ?_)
          refine lv_istore (lv' := [(7, .int (gI (σ18 137 (Int.toNat x8_18)))), (8, .int (gI x8_18)), (6, .int (gI x6_18)), (5, .int (gI x5_18)), (0, .ref (G.1 136)), (1, .ref (G.1 137)), (2, .ref (G.1 138)), (3, .ref (G.1 122)), (4, .int (gI a4))]) hx hb0 dL_bands_36 hl (by decide) rfl (fun ls hl => ?_)
          refine lv_iconst (v := gI (1 : Int)) hx hb0 dL_bands_38 (by decide) ?_
          refine lv_aload_n hx hb0 dL_bands_39 rfl (lv_at hl 4 rfl) ?_
          refine lv_aload_n hx hb0 dL_bands_40 rfl (lv_at hl 5 rfl) ?_
          refine lv_iload hx hb0 dL_bands_41 (lv_at hl 0 rfl) ?_
          obtain ⟨q43, e43, h⟩ := gBind_some h
          refine g_callSi (As := [.ref (G.1 136), .ref (G.1 137), .int (gI (σ18 137 (Int.toNat x8_18)))]) (rest := [.int (gI (1 : Int))]) ⟨hx, hb0, hml, hown, hts⟩ (metL_size l D G σ18 μ (σ18 137 (Int.toNat x8_18)) q43 e43) (g_cwS 3 hts q_ml_L_19 q_st_L_size q_in_L q_co_L_size ⟨rfl, rfl⟩ (by decide +kernel) ⟨Nat.le_of_ble_eq_true rfl, Nat.le_of_ble_eq_true rfl⟩) hX hH rfl hl.1 rfl (Nat.le_of_ble_eq_true rfl) dL_bands_43 ⟨Nat.zero_le _, Nat.zero_le _⟩ (fun H locs hH => ?_)
          refine g_iadd hx hb0 dL_bands_46 ?_
          refine lv_istore (lv' := [(9, .int (gI ((1 : Int) + q43))), (7, .int (gI (σ18 137 (Int.toNat x8_18)))), (8, .int (gI x8_18)), (6, .int (gI x6_18)), (5, .int (gI x5_18)), (0, .ref (G.1 136)), (1, .ref (G.1 137)), (2, .ref (G.1 138)), (3, .ref (G.1 122)), (4, .int (gI a4))]) hx hb0 dL_bands_47 hl (by decide) rfl (fun ls hl => ?_)
          refine lv_aload_n hx hb0 dL_bands_49 rfl (lv_at hl 5 rfl) ?_
          refine lv_iconst (v := gI (2 : Int)) hx hb0 dL_bands_50 (by decide) ?_
          refine g_iald hx hb0 hX hH (k := 136) (rfl : gKinds[136]? = _) (by decide) dL_bands_51 h (fun h => ?_)
          refine lv_iconst (v := gI (1 : Int)) hx hb0 dL_bands_52 (by decide) ?_
          have hJ92 : ∀ (t0_92 : Int) (H : Heap) (locs : List Loc) (ls : Array Slot), gH D G s H locs σ18 μ → lv_has ls 11 [(7, .int (gI (σ18 137 (Int.toNat x8_18)))), (8, .int (gI x8_18)), (6, .int (gI x6_18)), (5, .int (gI x5_18)), (0, .ref (G.1 136)), (1, .ref (G.1 137)), (2, .ref (G.1 138)), (3, .ref (G.1 122)), (4, .int (gI a4))] → (DL_bands_J92 (DL_bands_L18 (DL_bands_K173) a4 f18) x8_18 x6_18 x5_18 σ18 t0_92) = some (r, σ') → W p l e (headSpec (gWs yL_bands cL_bands 11 (some (Jvm.ClassFile.FieldType.int))) ({ frames := 2, cells := 0, slots := 0, locals := 47 } : Room)).room s m ([.ref (G.1 136), .ref (G.1 137), .ref (G.1 138), .ref (G.1 122), .int (gI a4)] : List Value).toArray below meth c H locs 0 0 (MQ below (gQi D G r σ' μ) ([.ref (G.1 136), .ref (G.1 137), .ref (G.1 138), .ref (G.1 122), .int (gI a4)] : List Value).toArray s 0 0 (gA G)) (F0 m 92 ls [.int (gI t0_92)]) := by
            intro t0_92 H locs ls hH hl h
            unfold DL_bands_J92 at h
            refine lv_istore (lv' := [(10, .int (gI t0_92)), (7, .int (gI (σ18 137 (Int.toNat x8_18)))), (8, .int (gI x8_18)), (6, .int (gI x6_18)), (5, .int (gI x5_18)), (0, .ref (G.1 136)), (1, .ref (G.1 137)), (2, .ref (G.1 138)), (3, .ref (G.1 122)), (4, .int (gI a4))]) hx hb0 dL_bands_92 hl (by decide) rfl (fun ls hl => ?_)
            refine lv_iload hx hb0 dL_bands_94 (lv_at hl 4 rfl) ?_
            refine lv_iload hx hb0 dL_bands_96 (lv_at hl 0 rfl) ?_
            have hJ106 : ∀ (t0_106 : Int) (H : Heap) (locs : List Loc) (ls : Array Slot), gH D G s H locs σ18 μ → lv_has ls 11 [(10, .int (gI t0_92)), (7, .int (gI (σ18 137 (Int.toNat x8_18)))), (8, .int (gI x8_18)), (6, .int (gI x6_18)), (0, .ref (G.1 136)), (1, .ref (G.1 137)), (2, .ref (G.1 138)), (3, .ref (G.1 122)), (4, .int (gI a4))] → (DL_bands_J106 (DL_bands_L18 (DL_bands_K173) a4 f18) x8_18 x6_18 x5_18 σ18 t0_92 t0_106) = some (r, σ') → W p l e (headSpec (gWs yL_bands cL_bands 11 (some (Jvm.ClassFile.FieldType.int))) ({ frames := 2, cells := 0, slots := 0, locals := 47 } : Room)).room s m ([.ref (G.1 136), .ref (G.1 137), .ref (G.1 138), .ref (G.1 122), .int (gI a4)] : List Value).toArray below meth c H locs 0 0 (MQ below (gQi D G r σ' μ) ([.ref (G.1 136), .ref (G.1 137), .ref (G.1 138), .ref (G.1 122), .int (gI a4)] : List Value).toArray s 0 0 (gA G)) (F0 m 106 ls [.int (gI t0_106), .int (gI x5_18)]) := by
              intro t0_106 H locs ls hH hl h
              unfold DL_bands_J106 at h
              refine g_iadd hx hb0 dL_bands_106 ?_
              refine lv_istore (lv' := [(5, .int (gI (x5_18 + t0_106))), (10, .int (gI t0_92)), (7, .int (gI (σ18 137 (Int.toNat x8_18)))), (8, .int (gI x8_18)), (6, .int (gI x6_18)), (0, .ref (G.1 136)), (1, .ref (G.1 137)), (2, .ref (G.1 138)), (3, .ref (G.1 122)), (4, .int (gI a4))]) hx hb0 dL_bands_107 hl (by decide) rfl (fun ls hl => ?_)
              refine lv_iload hx hb0 dL_bands_109 (lv_at hl 1 rfl) ?_
              have hJ122 : ∀ (t0_122 : Int) (H : Heap) (locs : List Loc) (ls : Array Slot), gH D G s H locs σ18 μ → lv_has ls 11 [(5, .int (gI (x5_18 + t0_106))), (7, .int (gI (σ18 137 (Int.toNat x8_18)))), (8, .int (gI x8_18)), (0, .ref (G.1 136)), (1, .ref (G.1 137)), (2, .ref (G.1 138)), (3, .ref (G.1 122)), (4, .int (gI a4))] → (DL_bands_J122 (DL_bands_L18 (DL_bands_K173) a4 f18) x8_18 x5_18 σ18 t0_106 t0_122) = some (r, σ') → W p l e (headSpec (gWs yL_bands cL_bands 11 (some (Jvm.ClassFile.FieldType.int))) ({ frames := 2, cells := 0, slots := 0, locals := 47 } : Room)).room s m ([.ref (G.1 136), .ref (G.1 137), .ref (G.1 138), .ref (G.1 122), .int (gI a4)] : List Value).toArray below meth c H locs 0 0 (MQ below (gQi D G r σ' μ) ([.ref (G.1 136), .ref (G.1 137), .ref (G.1 138), .ref (G.1 122), .int (gI a4)] : List Value).toArray s 0 0 (gA G)) (F0 m 122 ls [.int (gI t0_122)]) := by
                intro t0_122 H locs ls hH hl h
                unfold DL_bands_J122 at h
                refine lv_istore (lv' := [(6, .int (gI t0_122)), (5, .int (gI (x5_18 + t0_106))), (7, .int (gI (σ18 137 (Int.toNat x8_18)))), (8, .int (gI x8_18)), (0, .ref (G.1 136)), (1, .ref (G.1 137)), (2, .ref (G.1 138)), (3, .ref (G.1 122)), (4, .int (gI a4))]) hx hb0 dL_bands_122 hl (by decide) rfl (fun ls hl => ?_)
                refine lv_goto (tgt := 140) hx hb0 dL_bands_124 (by decide) ?_
                exact hJ140 _ _ _ _ _ _ hH (lv_sub hl [3, 2, 0, 1, 4, 5, 6, 7, 8] rfl) h
              refine g_if_eq (tgt := 118) hx hb0 dL_bands_111 (by decide) h (fun h => ?_) (fun h => ?_)
              · refine lv_iload hx hb0 dL_bands_118 (lv_at hl 4 rfl) ?_
                refine lv_iconst (v := gI (1 : Int)) hx hb0 dL_bands_120 (by decide) ?_
                refine g_iadd hx hb0 dL_bands_121 ?_
                exact hJ122 _ _ _ _ hH (lv_sub hl [0, 2, 3, 5, 6, 7, 8, 9] rfl) h
              · refine lv_iconst (v := gI (1 : Int)) hx hb0 dL_bands_114 (by decide) ?_
                refine lv_goto (tgt := 122) hx hb0 dL_bands_115 (by decide) ?_
                exact hJ122 _ _ _ _ hH (lv_sub hl [0, 2, 3, 5, 6, 7, 8, 9] rfl) h
            refine g_if_eq (tgt := 105) hx hb0 dL_bands_98 (by decide) h (fun h => ?_) (fun h => ?_)
            · refine lv_iconst (v := gI (0 : Int)) hx hb0 dL_bands_105 (by decide) ?_
              exact hJ106 _ _ _ _ hH (lv_sub hl [0, 1, 2, 3, 5, 6, 7, 8, 9] rfl) h
            · refine lv_iconst (v := gI (1 : Int)) hx hb0 dL_bands_101 (by decide) ?_
              refine lv_goto (tgt := 106) hx hb0 dL_bands_102 (by decide) ?_
              exact hJ106 _ _ _ _ hH (lv_sub hl [0, 1, 2, 3, 5, 6, 7, 8, 9] rfl) h
          have hJ87 : ∀  (H : Heap) (locs : List Loc) (ls : Array Slot), gH D G s H locs σ18 μ → lv_has ls 11 [(7, .int (gI (σ18 137 (Int.toNat x8_18)))), (8, .int (gI x8_18)), (6, .int (gI x6_18)), (5, .int (gI x5_18)), (0, .ref (G.1 136)), (1, .ref (G.1 137)), (2, .ref (G.1 138)), (3, .ref (G.1 122)), (4, .int (gI a4))] → (DL_bands_J87 (DL_bands_L18 (DL_bands_K173) a4 f18) x8_18 x6_18 x5_18 σ18) = some (r, σ') → W p l e (headSpec (gWs yL_bands cL_bands 11 (some (Jvm.ClassFile.FieldType.int))) ({ frames := 2, cells := 0, slots := 0, locals := 47 } : Room)).room s m ([.ref (G.1 136), .ref (G.1 137), .ref (G.1 138), .ref (G.1 122), .int (gI a4)] : List Value).toArray below meth c H locs 0 0 (MQ below (gQi D G r σ' μ) ([.ref (G.1 136), .ref (G.1 137), .ref (G.1 138), .ref (G.1 122), .int (gI a4)] : List Value).toArray s 0 0 (gA G)) (F0 m 87 ls []) := by
            intro H locs ls hH hl h
            unfold DL_bands_J87 at h
            refine lv_iconst (v := gI (1 : Int)) hx hb0 dL_bands_87 (by decide) ?_
            refine lv_goto (tgt := 92) hx hb0 dL_bands_88 (by decide) ?_
            exact hJ92 _ _ _ _ hH (lv_sub hl [0, 1, 2, 3, 4, 5, 6, 7, 8] rfl) h
          have hJ78 : ∀  (H : Heap) (locs : List Loc) (ls : Array Slot), gH D G s H locs σ18 μ → lv_has ls 11 [(7, .int (gI (σ18 137 (Int.toNat x8_18)))), (8, .int (gI x8_18)), (6, .int (gI x6_18)), (5, .int (gI x5_18)), (0, .ref (G.1 136)), (1, .ref (G.1 137)), (2, .ref (G.1 138)), (3, .ref (G.1 122)), (4, .int (gI a4))] → (DL_bands_J78 a4 (DL_bands_L18 (DL_bands_K173) a4 f18) x8_18 x6_18 x5_18 σ18) = some (r, σ') → W p l e (headSpec (gWs yL_bands cL_bands 11 (some (Jvm.ClassFile.FieldType.int))) ({ frames := 2, cells := 0, slots := 0, locals := 47 } : Room)).room s m ([.ref (G.1 136), .ref (G.1 137), .ref (G.1 138), .ref (G.1 122), .int (gI a4)] : List Value).toArray below meth c H locs 0 0 (MQ below (gQi D G r σ' μ) ([.ref (G.1 136), .ref (G.1 137), .ref (G.1 138), .ref (G.1 122), .int (gI a4)] : List Value).toArray s 0 0 (gA G)) (F0 m 78 ls []) := by
            intro H locs ls hH hl h
            unfold DL_bands_J78 at h
            refine lv_iload hx hb0 dL_bands_78 (lv_at hl 8 rfl) ?_
            refine lv_iload hx hb0 dL_bands_80 (lv_at hl 2 rfl) ?_
            refine g_isub hx hb0 dL_bands_82 ?_
            refine lv_iconst (v := gI (2 : Int)) hx hb0 dL_bands_83 (by decide) ?_
            refine g_icmp_ge (tgt := 91) hx hb0 dL_bands_84 (by decide) h (fun h => ?_) (fun h => ?_)
            · refine lv_iconst (v := gI (0 : Int)) hx hb0 dL_bands_91 (by decide) ?_
              exact hJ92 _ _ _ _ hH (lv_sub hl [0, 1, 2, 3, 4, 5, 6, 7, 8] rfl) h
            · exact hJ87  _ _ _ hH (lv_sub hl [0, 1, 2, 3, 4, 5, 6, 7, 8] rfl) h
          refine g_icmp_ne (tgt := 78) hx hb0 dL_bands_53 (by decide) h (fun h => ?_) (fun h => ?_)
          · exact hJ78  _ _ _ hH (lv_sub hl [1, 2, 3, 4, 5, 6, 7, 8, 9] rfl) h
          · refine lv_iload hx hb0 dL_bands_56 (lv_at hl 3 rfl) ?_
            refine g_if_le (tgt := 78) hx hb0 dL_bands_58 (by decide) h (fun h => ?_) (fun h => ?_)
            · exact hJ78  _ _ _ hH (lv_sub hl [1, 2, 3, 4, 5, 6, 7, 8, 9] rfl) h
            · refine lv_iload hx hb0 dL_bands_61 (lv_at hl 3 rfl) ?_
              refine lv_iload hx hb0 dL_bands_63 (lv_at hl 0 rfl) ?_
              refine g_iadd hx hb0 dL_bands_65 ?_
              refine lv_iload hx hb0 dL_bands_66 (lv_at hl 9 rfl) ?_
              refine g_icmp_le (tgt := 78) hx hb0 dL_bands_68 (by decide) h (fun h => ?_) (fun h => ?_)
              · exact hJ78  _ _ _ hH (lv_sub hl [1, 2, 3, 4, 5, 6, 7, 8, 9] rfl) h
              · refine lv_iload hx hb0 dL_bands_71 (lv_at hl 0 rfl) ?_
                refine lv_iload hx hb0 dL_bands_73 (lv_at hl 9 rfl) ?_
                refine g_icmp_le (tgt := 87) hx hb0 dL_bands_75 (by decide) h (fun h => ?_) (fun h => ?_)
                · exact hJ87  _ _ _ hH (lv_sub hl [1, 2, 3, 4, 5, 6, 7, 8, 9] rfl) h
                · exact hJ78  _ _ _ hH (lv_sub hl [1, 2, 3, 4, 5, 6, 7, 8, 9] rfl) h
  exact hL18 gFuel _ _ _ _ _ _ _ _ hH (lv_sub hl [0, 1, 2, 3, 4, 5, 6, 7, 8] rfl) h
def DL_indexOf_J34 (R6 : Int → Int → Option (Int)) (x5_6 : Int) (t0_34 : Int) : Option (Int) :=
  (R6 (x5_6 + (1 : Int)) t0_34)
def DL_indexOf_L6 (σ : gSt) (a2 : Int) (a3 : Int) : Nat → Int → Int → Option (Int)
  | 0, _, _ => none
  | f6 + 1, x5_6, x4_6 => gAt (5 : Int) 6 (gIf (x5_6 < (σ 136 (Int.toNat (5 : Int)))) x5_6 (σ 136 (Int.toNat (5 : Int))) (gAt x5_6 31 (gIf ((σ 140 (Int.toNat x5_6)) = (((32 : Int) * a2) + a3)) (σ 140 (Int.toNat x5_6)) (((32 : Int) * a2) + a3) ((DL_indexOf_J34 (DL_indexOf_L6 σ a2 a3 f6) x5_6 x5_6)) ((DL_indexOf_J34 (DL_indexOf_L6 σ a2 a3 f6) x5_6 x4_6)))) (some x4_6))
def DL_indexOf (σ : gSt) (a2 : Int) (a3 : Int) : Option (Int) :=
  (DL_indexOf_L6 σ a2 a3 gFuel (0 : Int) (-1 : Int))
set_option maxHeartbeats 4000000 in
set_option maxRecDepth 100000 in
theorem metL_indexOf (l : Launch) (D : va_G) (G : gAd) (σ : gSt) (μ : gLg) (a2 : Int) (a3 : Int) (r : Int) (h : DL_indexOf σ a2 a3 = some r) : Met l yL_indexOf (gWs yL_indexOf cL_indexOf 6 (some (Jvm.ClassFile.FieldType.int))) ({ frames := 0, cells := 0, slots := 0, locals := 0 } : Room) (gPc D G [.ref (G.1 136), .ref (G.1 140), .int (gI a2), .int (gI a3)] σ μ) (gQi D G r σ μ) 0 0 (gA G) := by
  refine Met.ofW (cc := cL_indexOf) (maxL := 6) (ret := (some (Jvm.ClassFile.FieldType.int))) (by decide) rfl ?_
  intro p e s m args below meth c s₁ B hml hv
  obtain ⟨rfl, hP, hX⟩ := hv
  have hx := B.exec
  have hb0 := B.bytes
  have hr := B.returns
  have hts0 := atoms_spec (ws := (gWs yL_indexOf cL_indexOf 6 (some (Jvm.ClassFile.FieldType.int)))) B.pre
  have hts : ∀ w ∈ gLW, w.before _ s = true := fun w hw => hts0 w (List.mem_cons_of_mem _ hw)
  have hown : s.vm.findClass RL = some m.cls := findClass_of_methodNamed B.named
  have hlocks := B.notSynchronized
  have hH : gH D G s s.heap [] σ μ := ⟨hP, va_S.rf⟩
  have hl := lv_entry ([.ref (G.1 136), .ref (G.1 140), .int (gI a2), .int (gI a3)]) (n := 6) (Nat.le_of_ble_eq_true rfl)
  rw [lg_entry_eq]
  generalize (lg_sl ([.ref (G.1 136), .ref (G.1 140), .int (gI a2), .int (gI a3)]) ++ List.replicate (6 - (lg_sl ([.ref (G.1 136), .ref (G.1 140), .int (gI a2), .int (gI a3)])).length) Slot.unset).toArray = ls at hl ⊢
  have hl : lv_has ls 6 [(0, .ref (G.1 136)), (1, .ref (G.1 140)), (2, .int (gI a2)), (3, .int (gI a3))] := hl
  unfold DL_indexOf at h
  refine lv_iconst (v := gI (-1 : Int)) hx hb0 dL_indexOf_0 (by decide) ?_
  refine lv_istore (lv' := [(4, .int (gI (-1 : Int))), (0, .ref (G.1 136)), (1, .ref (G.1 140)), (2, .int (gI a2)), (3, .int (gI a3))]) hx hb0 dL_indexOf_1 hl (by decide) rfl (fun ls hl => ?_)
  refine lv_iconst (v := gI (0 : Int)) hx hb0 dL_indexOf_3 (by decide) ?_
  refine lv_istore (lv' := [(5, .int (gI (0 : Int))), (4, .int (gI (-1 : Int))), (0, .ref (G.1 136)), (1, .ref (G.1 140)), (2, .int (gI a2)), (3, .int (gI a3))]) hx hb0 dL_indexOf_4 hl (by decide) rfl (fun ls hl => ?_)
  have hL6 : ∀ (f6 : Nat) (x5_6 : Int) (x4_6 : Int) (H : Heap) (locs : List Loc) (ls : Array Slot), gH D G s H locs σ μ → lv_has ls 6 [(5, .int (gI x5_6)), (4, .int (gI x4_6)), (0, .ref (G.1 136)), (1, .ref (G.1 140)), (2, .int (gI a2)), (3, .int (gI a3))] → (DL_indexOf_L6 σ a2 a3 f6 x5_6 x4_6) = some r → W p l e (headSpec (gWs yL_indexOf cL_indexOf 6 (some (Jvm.ClassFile.FieldType.int))) ({ frames := 0, cells := 0, slots := 0, locals := 0 } : Room)).room s m ([.ref (G.1 136), .ref (G.1 140), .int (gI a2), .int (gI a3)] : List Value).toArray below meth c H locs 0 0 (MQ below (gQi D G r σ μ) ([.ref (G.1 136), .ref (G.1 140), .int (gI a2), .int (gI a3)] : List Value).toArray s 0 0 (gA G)) (F0 m 6 ls []) := by
    intro f6
    induction f6 with
    | zero => intro x5_6 x4_6 H locs ls hH hl h; cases h
    | succ f6 ih6 =>
      intro x5_6 x4_6 H locs ls hH hl h
      unfold DL_indexOf_L6 at h
      refine lv_iload hx hb0 dL_indexOf_6 (lv_at hl 0 rfl) ?_
      refine lv_aload_n hx hb0 dL_indexOf_8 rfl (lv_at hl 2 rfl) ?_
      refine lv_iconst (v := gI (5 : Int)) hx hb0 dL_indexOf_9 (by decide) ?_
      refine g_iald hx hb0 hX hH (k := 136) (rfl : gKinds[136]? = _) (by decide) dL_indexOf_10 h (fun h => ?_)
      refine g_icmp_ge (tgt := 42) hx hb0 dL_indexOf_11 (by decide) h (fun h => ?_) (fun h => ?_)
      · refine lv_iload hx hb0 dL_indexOf_42 (lv_at hl 1 rfl) ?_
        exact g_iretP hx hb0 hr hH hlocks dL_indexOf_44 h
      · refine lv_aload_n hx hb0 dL_indexOf_14 rfl (lv_at hl 3 rfl) ?_
        refine lv_iload hx hb0 dL_indexOf_15 (lv_at hl 0 rfl) ?_
        refine g_iald hx hb0 hX hH (k := 140) (rfl : gKinds[140]? = _) (by decide) dL_indexOf_17 h (fun h => ?_)
        refine lv_bipush (v := gI (32 : Int)) hx hb0 dL_indexOf_18 (by decide) ?_
        refine lv_iload_n hx hb0 dL_indexOf_20 rfl (lv_at hl 4 rfl) ?_
        refine g_imul hx hb0 dL_indexOf_21 ?_
        refine lv_iload_n hx hb0 dL_indexOf_22 rfl (lv_at hl 5 rfl) ?_
        refine g_iadd hx hb0 dL_indexOf_23 ?_
        have hJ34 : ∀ (t0_34 : Int) (H : Heap) (locs : List Loc) (ls : Array Slot), gH D G s H locs σ μ → lv_has ls 6 [(5, .int (gI x5_6)), (0, .ref (G.1 136)), (1, .ref (G.1 140)), (2, .int (gI a2)), (3, .int (gI a3))] → (DL_indexOf_J34 (DL_indexOf_L6 σ a2 a3 f6) x5_6 t0_34) = some r → W p l e (headSpec (gWs yL_indexOf cL_indexOf 6 (some (Jvm.ClassFile.FieldType.int))) ({ frames := 0, cells := 0, slots := 0, locals := 0 } : Room)).room s m ([.ref (G.1 136), .ref (G.1 140), .int (gI a2), .int (gI a3)] : List Value).toArray below meth c H locs 0 0 (MQ below (gQi D G r σ μ) ([.ref (G.1 136), .ref (G.1 140), .int (gI a2), .int (gI a3)] : List Value).toArray s 0 0 (gA G)) (F0 m 34 ls [.int (gI t0_34)]) := by
          intro t0_34 H locs ls hH hl h
          unfold DL_indexOf_J34 at h
          refine lv_istore (lv' := [(4, .int (gI t0_34)), (5, .int (gI x5_6)), (0, .ref (G.1 136)), (1, .ref (G.1 140)), (2, .int (gI a2)), (3, .int (gI a3))]) hx hb0 dL_indexOf_34 hl (by decide) rfl (fun ls hl => ?_)
          refine g_iinc (k := 1) (n := (1 : Int)) (lv' := [(5, .int (gI (x5_6 + (1 : Int)))), (4, .int (gI t0_34)), (0, .ref (G.1 136)), (1, .ref (G.1 140)), (2, .int (gI a2)), (3, .int (gI a3))]) hx hb0 dL_indexOf_36 hl rfl (by decide) rfl (fun ls hl => ?_)
          refine lv_goto (tgt := 6) hx hb0 dL_indexOf_39 (by decide) ?_
          exact ih6 _ _ _ _ _ hH (lv_sub hl [0, 1, 2, 3, 4, 5] rfl) h
        refine g_icmp_ne (tgt := 32) hx hb0 dL_indexOf_24 (by decide) h (fun h => ?_) (fun h => ?_)
        · refine lv_iload hx hb0 dL_indexOf_32 (lv_at hl 1 rfl) ?_
          exact hJ34 _ _ _ _ hH (lv_sub hl [0, 2, 3, 4, 5] rfl) h
        · refine lv_iload hx hb0 dL_indexOf_27 (lv_at hl 0 rfl) ?_
          refine lv_goto (tgt := 34) hx hb0 dL_indexOf_29 (by decide) ?_
          exact hJ34 _ _ _ _ hH (lv_sub hl [0, 2, 3, 4, 5] rfl) h
  exact hL6 gFuel _ _ _ _ _ hH (lv_sub hl [0, 1, 2, 3, 4, 5] rfl) h
def DL_drop_K25  (σ25 : gSt) : Option (gSt) :=
  gAt (5 : Int) 6 (gAt (5 : Int) 6 (some (gUp σ25 136 (Int.toNat (5 : Int)) ((σ25 136 (Int.toNat (5 : Int))) - (1 : Int)))))
def DL_drop_L2 (K25 : gSt → Option (gSt)) : Nat → Int → gSt → Option (gSt)
  | 0, _, _ => none
  | f2 + 1, x3_2, σ2 => gAt (5 : Int) 6 (gIf ((x3_2 + (1 : Int)) < (σ2 136 (Int.toNat (5 : Int)))) (x3_2 + (1 : Int)) (σ2 136 (Int.toNat (5 : Int))) (gAt (x3_2 + (1 : Int)) 31 (gAt x3_2 31 (((DL_drop_L2 K25 f2) (x3_2 + (1 : Int)) (gUp σ2 140 (Int.toNat x3_2) (σ2 140 (Int.toNat (x3_2 + (1 : Int))))))))) ((K25 σ2)))
def DL_drop (σ : gSt) (a2 : Int) : Option (gSt) :=
  (DL_drop_L2 (DL_drop_K25) gFuel a2 σ)
set_option maxHeartbeats 4000000 in
set_option maxRecDepth 100000 in
theorem metL_drop (l : Launch) (D : va_G) (G : gAd) (σ : gSt) (μ : gLg) (a2 : Int) (σ' : gSt) (h : DL_drop σ a2 = some σ') : Met l yL_drop (gWs yL_drop cL_drop 4 none) ({ frames := 0, cells := 0, slots := 0, locals := 0 } : Room) (gPc D G [.ref (G.1 136), .ref (G.1 140), .int (gI a2)] σ μ) (gQv D G σ' μ) 0 0 (gA G) := by
  refine Met.ofW (cc := cL_drop) (maxL := 4) (ret := none) (by decide) rfl ?_
  intro p e s m args below meth c s₁ B hml hv
  obtain ⟨rfl, hP, hX⟩ := hv
  have hx := B.exec
  have hb0 := B.bytes
  have hr := B.returns
  have hts0 := atoms_spec (ws := (gWs yL_drop cL_drop 4 none)) B.pre
  have hts : ∀ w ∈ gLW, w.before _ s = true := fun w hw => hts0 w (List.mem_cons_of_mem _ hw)
  have hown : s.vm.findClass RL = some m.cls := findClass_of_methodNamed B.named
  have hlocks := B.notSynchronized
  have hH : gH D G s s.heap [] σ μ := ⟨hP, va_S.rf⟩
  have hl := lv_entry ([.ref (G.1 136), .ref (G.1 140), .int (gI a2)]) (n := 4) (Nat.le_of_ble_eq_true rfl)
  rw [lg_entry_eq]
  generalize (lg_sl ([.ref (G.1 136), .ref (G.1 140), .int (gI a2)]) ++ List.replicate (4 - (lg_sl ([.ref (G.1 136), .ref (G.1 140), .int (gI a2)])).length) Slot.unset).toArray = ls at hl ⊢
  have hl : lv_has ls 4 [(0, .ref (G.1 136)), (1, .ref (G.1 140)), (2, .int (gI a2))] := hl
  unfold DL_drop at h
  refine lv_iload_n hx hb0 dL_drop_0 rfl (lv_at hl 2 rfl) ?_
  refine lv_istore_n (lv' := [(3, .int (gI a2)), (0, .ref (G.1 136)), (1, .ref (G.1 140)), (2, .int (gI a2))]) hx hb0 dL_drop_1 rfl hl (by decide) rfl (fun ls hl => ?_)
  have hK25 : ∀ (σ25 : gSt) (H : Heap) (locs : List Loc) (ls : Array Slot), gH D G s H locs σ25 μ → lv_has ls 4 [(0, .ref (G.1 136))] → (DL_drop_K25 σ25) = some σ' → W p l e (headSpec (gWs yL_drop cL_drop 4 none) ({ frames := 0, cells := 0, slots := 0, locals := 0 } : Room)).room s m ([.ref (G.1 136), .ref (G.1 140), .int (gI a2)] : List Value).toArray below meth c H locs 0 0 (MQ below (gQv D G σ' μ) ([.ref (G.1 136), .ref (G.1 140), .int (gI a2)] : List Value).toArray s 0 0 (gA G)) (F0 m 25 ls []) := by
    intro σ25 H locs ls hH hl h
    unfold DL_drop_K25 at h
    refine lv_aload_n hx hb0 dL_drop_25 rfl (lv_at hl 0 rfl) ?_
    refine lv_iconst (v := gI (5 : Int)) hx hb0 dL_drop_26 (by decide) ?_
    refine lv_dup2_11 hx hb0 dL_drop_27 rfl rfl ?_
    refine g_iald hx hb0 hX hH (k := 136) (rfl : gKinds[136]? = _) (by decide) dL_drop_28 h (fun h => ?_)
    refine lv_iconst (v := gI (1 : Int)) hx hb0 dL_drop_29 (by decide) ?_
    refine g_isub hx hb0 dL_drop_30 ?_
    refine g_iast hx hb0 hX hH (k := 136) (rfl : gKinds[136]? = _) (by decide) dL_drop_31 h (fun h H locs hH => ?_)
    exact g_vretS hx hb0 hr hH hlocks dL_drop_32 h
  have hL2 : ∀ (f2 : Nat) (x3_2 : Int) (σ2 : gSt) (H : Heap) (locs : List Loc) (ls : Array Slot), gH D G s H locs σ2 μ → lv_has ls 4 [(3, .int (gI x3_2)), (0, .ref (G.1 136)), (1, .ref (G.1 140))] → (DL_drop_L2 (DL_drop_K25) f2 x3_2 σ2) = some σ' → W p l e (headSpec (gWs yL_drop cL_drop 4 none) ({ frames := 0, cells := 0, slots := 0, locals := 0 } : Room)).room s m ([.ref (G.1 136), .ref (G.1 140), .int (gI a2)] : List Value).toArray below meth c H locs 0 0 (MQ below (gQv D G σ' μ) ([.ref (G.1 136), .ref (G.1 140), .int (gI a2)] : List Value).toArray s 0 0 (gA G)) (F0 m 2 ls []) := by
    intro f2
    induction f2 with
    | zero => intro x3_2 σ2 H locs ls hH hl h; cases h
    | succ f2 ih2 =>
      intro x3_2 σ2 H locs ls hH hl h
      unfold DL_drop_L2 at h
      refine lv_iload_n hx hb0 dL_drop_2 rfl (lv_at hl 0 rfl) ?_
      refine lv_iconst (v := gI (1 : Int)) hx hb0 dL_drop_3 (by decide) ?_
      refine g_iadd hx hb0 dL_drop_4 ?_
      refine lv_aload_n hx hb0 dL_drop_5 rfl (lv_at hl 1 rfl) ?_
      refine lv_iconst (v := gI (5 : Int)) hx hb0 dL_drop_6 (by decide) ?_
      refine g_iald hx hb0 hX hH (k := 136) (rfl : gKinds[136]? = _) (by decide) dL_drop_7 h (fun h => ?_)
      refine g_icmp_ge (tgt := 25) hx hb0 dL_drop_8 (by decide) h (fun h => ?_) (fun h => ?_)
      · exact hK25 _ _ _ _ hH (lv_sub hl [1] rfl) h
      · refine lv_aload_n hx hb0 dL_drop_11 rfl (lv_at hl 2 rfl) ?_
        refine lv_iload_n hx hb0 dL_drop_12 rfl (lv_at hl 0 rfl) ?_
        refine lv_aload_n hx hb0 dL_drop_13 rfl (lv_at hl 2 rfl) ?_
        refine lv_iload_n hx hb0 dL_drop_14 rfl (lv_at hl 0 rfl) ?_
        refine lv_iconst (v := gI (1 : Int)) hx hb0 dL_drop_15 (by decide) ?_
        refine g_iadd hx hb0 dL_drop_16 ?_
        refine g_iald hx hb0 hX hH (k := 140) (rfl : gKinds[140]? = _) (by decide) dL_drop_17 h (fun h => ?_)
        refine g_iast hx hb0 hX hH (k := 140) (rfl : gKinds[140]? = _) (by decide) dL_drop_18 h (fun h H locs hH => ?_)
        refine g_iinc (k := 0) (n := (1 : Int)) (lv' := [(3, .int (gI (x3_2 + (1 : Int)))), (0, .ref (G.1 136)), (1, .ref (G.1 140))]) hx hb0 dL_drop_19 hl rfl (by decide) rfl (fun ls hl => ?_)
        refine lv_goto (tgt := 2) hx hb0 dL_drop_22 (by decide) ?_
        exact ih2 _ _ _ _ _ hH (lv_sub hl [0, 1, 2] rfl) h
  exact hL2 gFuel _ _ _ _ _ hH (lv_sub hl [0, 1, 2] rfl) h
def DL_first (σ : gSt) : Option (gSt) :=
  gAt (0 : Int) 6 (gAt (1 : Int) 6 (gAt (2 : Int) 6 (some (gUp (gUp (gUp σ 136 (Int.toNat (0 : Int)) (8 : Int)) 136 (Int.toNat (1 : Int)) (20 : Int)) 136 (Int.toNat (2 : Int)) (1 : Int)))))
set_option maxHeartbeats 4000000 in
set_option maxRecDepth 100000 in
theorem metL_first (l : Launch) (D : va_G) (G : gAd) (σ : gSt) (μ : gLg) (σ' : gSt) (h : DL_first σ = some σ') : Met l yL_first (gWs yL_first cL_first 1 none) ({ frames := 0, cells := 0, slots := 0, locals := 0 } : Room) (gPc D G [.ref (G.1 136)] σ μ) (gQv D G σ' μ) 0 0 (gA G) := by
  refine Met.ofW (cc := cL_first) (maxL := 1) (ret := none) (by decide) rfl ?_
  intro p e s m args below meth c s₁ B hml hv
  obtain ⟨rfl, hP, hX⟩ := hv
  have hx := B.exec
  have hb0 := B.bytes
  have hr := B.returns
  have hts0 := atoms_spec (ws := (gWs yL_first cL_first 1 none)) B.pre
  have hts : ∀ w ∈ gLW, w.before _ s = true := fun w hw => hts0 w (List.mem_cons_of_mem _ hw)
  have hown : s.vm.findClass RL = some m.cls := findClass_of_methodNamed B.named
  have hlocks := B.notSynchronized
  have hH : gH D G s s.heap [] σ μ := ⟨hP, va_S.rf⟩
  have hl := lv_entry ([.ref (G.1 136)]) (n := 1) (Nat.le_of_ble_eq_true rfl)
  rw [lg_entry_eq]
  generalize (lg_sl ([.ref (G.1 136)]) ++ List.replicate (1 - (lg_sl ([.ref (G.1 136)])).length) Slot.unset).toArray = ls at hl ⊢
  have hl : lv_has ls 1 [(0, .ref (G.1 136))] := hl
  unfold DL_first at h
  refine lv_aload_n hx hb0 dL_first_0 rfl (lv_at hl 0 rfl) ?_
  refine lv_iconst (v := gI (0 : Int)) hx hb0 dL_first_1 (by decide) ?_
  refine lv_bipush (v := gI (8 : Int)) hx hb0 dL_first_2 (by decide) ?_
  refine g_iast hx hb0 hX hH (k := 136) (rfl : gKinds[136]? = _) (by decide) dL_first_4 h (fun h H locs hH => ?_)
  refine lv_aload_n hx hb0 dL_first_5 rfl (lv_at hl 0 rfl) ?_
  refine lv_iconst (v := gI (1 : Int)) hx hb0 dL_first_6 (by decide) ?_
  refine lv_bipush (v := gI (20 : Int)) hx hb0 dL_first_7 (by decide) ?_
  refine g_iast hx hb0 hX hH (k := 136) (rfl : gKinds[136]? = _) (by decide) dL_first_9 h (fun h H locs hH => ?_)
  refine lv_aload_n hx hb0 dL_first_10 rfl (lv_at hl 0 rfl) ?_
  refine lv_iconst (v := gI (2 : Int)) hx hb0 dL_first_11 (by decide) ?_
  refine lv_iconst (v := gI (1 : Int)) hx hb0 dL_first_12 (by decide) ?_
  refine g_iast hx hb0 hX hH (k := 136) (rfl : gKinds[136]? = _) (by decide) dL_first_13 h (fun h H locs hH => ?_)
  exact g_vretS hx hb0 hr hH hlocks dL_first_14 h
def DL_goes (σ : gSt) (a3 : Int) : Option (Int × gSt) :=
  (DL_drop σ a3).bind fun q3 => (gWqS (DX8_removeArrow q3 a3) [(3, (-100001 : Int))] q3).bind fun q8 => gAt (5 : Int) 6 (gIf (q8.1 = (q8.2 136 (Int.toNat (5 : Int)))) q8.1 (q8.2 136 (Int.toNat (5 : Int))) (gBo (1 : Int) (some ((1 : Int), q8.2))) (gBo (0 : Int) (some ((0 : Int), q8.2))))
set_option maxHeartbeats 4000000 in
set_option maxRecDepth 100000 in
theorem metL_goes (l : Launch) (hlt : l.stackTraces = false) (D : va_G) (G : gAd) (σ : gSt) (μ : gLg) (a3 : Int) (r : Int) (σ' : gSt) (h : DL_goes σ a3 = some (r, σ')) : Met l yL_goes (gWs yL_goes cL_goes 4 (some (Jvm.ClassFile.FieldType.boolean))) ({ frames := 9, cells := 1, slots := 6, locals := 174 } : Room) (gPc D G [.ref (G.1 0), .ref (G.1 136), .ref (G.1 140), .int (gI a3)] σ μ) (gQi D G r σ' μ) 1 6 (gA G) := by
  refine Met.ofW (cc := cL_goes) (maxL := 4) (ret := (some (Jvm.ClassFile.FieldType.boolean))) (by decide) rfl ?_
  intro p e s m args below meth c s₁ B hml hv
  obtain ⟨rfl, hP, hX⟩ := hv
  have hx := B.exec
  have hb0 := B.bytes
  have hr := B.returns
  have hts0 := atoms_spec (ws := (gWs yL_goes cL_goes 4 (some (Jvm.ClassFile.FieldType.boolean)))) B.pre
  have hts : ∀ w ∈ gLW, w.before _ s = true := fun w hw => hts0 w (List.mem_cons_of_mem _ hw)
  have hown : s.vm.findClass RL = some m.cls := findClass_of_methodNamed B.named
  have hlocks := B.notSynchronized
  have hH : gH D G s s.heap [] σ μ := ⟨hP, va_S.rf⟩
  have hl := lv_entry ([.ref (G.1 0), .ref (G.1 136), .ref (G.1 140), .int (gI a3)]) (n := 4) (Nat.le_of_ble_eq_true rfl)
  rw [lg_entry_eq]
  generalize (lg_sl ([.ref (G.1 0), .ref (G.1 136), .ref (G.1 140), .int (gI a3)]) ++ List.replicate (4 - (lg_sl ([.ref (G.1 0), .ref (G.1 136), .ref (G.1 140), .int (gI a3)])).length) Slot.unset).toArray = ls at hl ⊢
  have hl : lv_has ls 4 [(0, .ref (G.1 0)), (1, .ref (G.1 136)), (2, .ref (G.1 140)), (3, .int (gI a3))] := hl
  unfold DL_goes at h
  refine lv_aload_n hx hb0 dL_goes_0 rfl (lv_at hl 1 rfl) ?_
  refine lv_aload_n hx hb0 dL_goes_1 rfl (lv_at hl 2 rfl) ?_
  refine lv_iload_n hx hb0 dL_goes_2 rfl (lv_at hl 3 rfl) ?_
  obtain ⟨q3, e3, h⟩ := gBind_some h
  refine g_callSv (As := [.ref (G.1 136), .ref (G.1 140), .int (gI a3)]) (rest := []) ⟨hx, hb0, hml, hown, hts⟩ (metL_drop l D G σ μ a3 q3 e3) (g_cwS 3 hts q_ml_L_51 q_st_L_drop q_in_L q_co_L_drop ⟨rfl, rfl⟩ (by decide +kernel) ⟨Nat.le_of_ble_eq_true rfl, Nat.le_of_ble_eq_true rfl⟩) hX hH rfl hl.1 rfl (Nat.le_of_ble_eq_true rfl) dL_goes_3 ⟨Nat.le_of_ble_eq_true rfl, Nat.le_of_ble_eq_true rfl⟩ (fun H locs hH => ?_)
  refine lv_aload_n hx hb0 dL_goes_6 rfl (lv_at hl 0 rfl) ?_
  refine lv_iload_n hx hb0 dL_goes_7 rfl (lv_at hl 3 rfl) ?_
  obtain ⟨q8, e8, h⟩ := gBind_some h
  refine g_callWi (As := [.ref (G.1 0), .int (gI a3)]) (rest := []) ⟨hx, hb0, hml, hown, hts⟩ (metL_unpoints l hlt D G q3 μ a3 q8.1 q8.2 e8) (g_cwW 2 hts q_ml_L_42 q_st_L_unpoints q_in_L q_cw_L_unpoints ⟨rfl, rfl⟩ (by decide +kernel) ⟨Nat.le_of_ble_eq_true rfl, Nat.le_of_ble_eq_true rfl⟩) hX hH rfl hl.1 rfl (Nat.le_of_ble_eq_true rfl) dL_goes_8 ⟨Nat.le_of_ble_eq_true rfl, Nat.le_of_ble_eq_true rfl⟩ (fun H locs hH => ?_)
  refine lv_aload_n hx hb0 dL_goes_11 rfl (lv_at hl 1 rfl) ?_
  refine lv_iconst (v := gI (5 : Int)) hx hb0 dL_goes_12 (by decide) ?_
  refine g_iald hx hb0 hX hH (k := 136) (rfl : gKinds[136]? = _) (by decide) dL_goes_13 h (fun h => ?_)
  refine g_icmp_ne (tgt := 21) hx hb0 dL_goes_14 (by decide) h (fun h => ?_) (fun h => ?_)
  · refine lv_iconst (v := gI (0 : Int)) hx hb0 dL_goes_21 (by decide) ?_
    refine W.widen (k := 1) (n := 6) (Nat.le_of_ble_eq_true rfl) (Nat.le_of_ble_eq_true rfl) ?_
    exact g_zretS hx hb0 hr hH hlocks dL_goes_22 h
  · refine lv_iconst (v := gI (1 : Int)) hx hb0 dL_goes_17 (by decide) ?_
    refine lv_goto (tgt := 22) hx hb0 dL_goes_18 (by decide) ?_
    refine W.widen (k := 1) (n := 6) (Nat.le_of_ble_eq_true rfl) (Nat.le_of_ble_eq_true rfl) ?_
    exact g_zretS hx hb0 hr hH hlocks dL_goes_22 h
