def DX1_growOnce_J69 (R4 : Int → Int → gSt → Option (Int × gSt)) (x3_4 : Int) (x2_69 : Int) (σ69 : gSt) : Option (Int × gSt) :=
  (R4 (x3_4 + (1 : Int)) x2_69 σ69)
def DX1_growOnce_L4 (b : Nat) (p1 : Nat) : Nat → Int → Int → gSt → Option (Int × gSt)
  | 0, _, _, _ => none
  | f4 + 1, x3_4, x2_4, σ4 => (DX5_arrowCount p1 σ4).bind fun q6 => gIf (x3_4 < q6) x3_4 q6 ((DX5_from p1 σ4 x3_4).bind fun q18 => (DX4_at (b + 1) 24 σ4 q18).bind fun q21 => (DX5_isLate p1 σ4 x3_4).bind fun q30 => gIf (q30 = (0 : Int)) q30 (0 : Int) ((DX5_to p1 σ4 x3_4).bind fun q44 => (DX4_at (b + 1) 24 σ4 q44).bind fun q47 => gIf (q47 < (q21 + (1 : Int))) (q21 + (1 : Int)) q47 ((DX5_to p1 σ4 x3_4).bind fun q59 => (DX4_put (b + 1) 24 σ4 q59 (q21 + (1 : Int))).bind fun q64 => (DX1_growOnce_J69 (DX1_growOnce_L4 b p1 f4) x3_4 (1 : Int) q64)) ((DX1_growOnce_J69 (DX1_growOnce_L4 b p1 f4) x3_4 x2_4 σ4))) ((DX1_growOnce_J69 (DX1_growOnce_L4 b p1 f4) x3_4 x2_4 σ4))) (gBo x2_4 (some (x2_4, σ4)))
def DX1_growOnce (b : Nat) (p1 : Nat) (σ : gSt) : Option (Int × gSt) :=
  (DX1_growOnce_L4 b p1 gFuel (0 : Int) (0 : Int) σ)
set_option maxHeartbeats 4000000 in
set_option maxRecDepth 100000 in
theorem metX1_growOnce (l : Launch) (D : va_G) (G : gAd) (b : Nat) (p1 : Nat) (hb : gChains b) (hp1 : gPlan p1) (σ : gSt) (μ : gLg) (r : Int) (σ' : gSt) (h : DX1_growOnce b p1 σ = some (r, σ')) : Met l yX1_growOnce (gWs yX1_growOnce cX1_growOnce 5 (some (Jvm.ClassFile.FieldType.boolean))) ({ frames := 3, cells := 0, slots := 0, locals := 63 } : Room) (gPc D G [.ref (G.1 b), .ref (G.1 p1)] σ μ) (gQi D G r σ' μ) 0 0 (gA G) := by
  refine Met.ofW (cc := cX1_growOnce) (maxL := 5) (ret := (some (Jvm.ClassFile.FieldType.boolean))) (by decide) rfl ?_
  intro p e s m args below meth c s₁ B hml hv
  obtain ⟨rfl, hP, hX⟩ := hv
  have hx := B.exec
  have hb0 := B.bytes
  have hr := B.returns
  have hts0 := atoms_spec (ws := (gWs yX1_growOnce cX1_growOnce 5 (some (Jvm.ClassFile.FieldType.boolean)))) B.pre
  have hts : ∀ w ∈ gLW, w.before _ s = true := fun w hw => hts0 w (List.mem_cons_of_mem _ hw)
  have hown : s.vm.findClass RX1 = some m.cls := findClass_of_methodNamed B.named
  have hlocks := B.notSynchronized
  have hH : gH D G s s.heap [] σ μ := ⟨hP, va_S.rf⟩
  have hl := lv_entry ([.ref (G.1 b), .ref (G.1 p1)]) (n := 5) (Nat.le_of_ble_eq_true rfl)
  rw [lg_entry_eq]
  generalize (lg_sl ([.ref (G.1 b), .ref (G.1 p1)]) ++ List.replicate (5 - (lg_sl ([.ref (G.1 b), .ref (G.1 p1)])).length) Slot.unset).toArray = ls at hl ⊢
  have hl : lv_has ls 5 [(0, .ref (G.1 b)), (1, .ref (G.1 p1))] := hl
  unfold DX1_growOnce at h
  refine lv_iconst (v := gI (0 : Int)) hx hb0 dX1_growOnce_0 (by decide) ?_
  refine lv_istore_n (lv' := [(2, .int (gI (0 : Int))), (0, .ref (G.1 b)), (1, .ref (G.1 p1))]) hx hb0 dX1_growOnce_1 rfl hl (by decide) rfl (fun ls hl => ?_)
  refine lv_iconst (v := gI (0 : Int)) hx hb0 dX1_growOnce_2 (by decide) ?_
  refine lv_istore_n (lv' := [(3, .int (gI (0 : Int))), (2, .int (gI (0 : Int))), (0, .ref (G.1 b)), (1, .ref (G.1 p1))]) hx hb0 dX1_growOnce_3 rfl hl (by decide) rfl (fun ls hl => ?_)
  have hL4 : ∀ (f4 : Nat) (x3_4 : Int) (x2_4 : Int) (σ4 : gSt) (H : Heap) (locs : List Loc) (ls : Array Slot), gH D G s H locs σ4 μ → lv_has ls 5 [(3, .int (gI x3_4)), (2, .int (gI x2_4)), (0, .ref (G.1 b)), (1, .ref (G.1 p1))] → (DX1_growOnce_L4 b p1 f4 x3_4 x2_4 σ4) = some (r, σ') → W p l e (headSpec (gWs yX1_growOnce cX1_growOnce 5 (some (Jvm.ClassFile.FieldType.boolean))) ({ frames := 3, cells := 0, slots := 0, locals := 63 } : Room)).room s m ([.ref (G.1 b), .ref (G.1 p1)] : List Value).toArray below meth c H locs 0 0 (MQ below (gQi D G r σ' μ) ([.ref (G.1 b), .ref (G.1 p1)] : List Value).toArray s 0 0 (gA G)) (F0 m 4 ls []) := by
    intro f4
    induction f4 with
    | zero => intro x3_4 x2_4 σ4 H locs ls hH hl h; cases h
    | succ f4 ih4 =>
      intro x3_4 x2_4 σ4 H locs ls hH hl h
      unfold DX1_growOnce_L4 at h
      refine lv_iload_n hx hb0 dX1_growOnce_4 rfl (lv_at hl 0 rfl) ?_
      refine lv_aload_n hx hb0 dX1_growOnce_5 rfl (lv_at hl 3 rfl) ?_
      obtain ⟨q6, e6, h⟩ := gBind_some h
      refine g_callVi (k := p1) (T := TX5) (N := 8) (As := []) (rest := [.int (gI x3_4)]) ⟨hx, hb0, hml, hown, hts⟩ (metX5_arrowCount l D G p1 hp1 σ4 μ q6 e6) (g_cwV (C := RX5) 0 hts q_ml_X1_44 q_im_X5_arrowCount q_se_X5_arrowCount q_in_X5 q_co_X5_arrowCount ⟨rfl, rfl⟩ (by decide +kernel) ⟨Nat.le_of_ble_eq_true rfl, Nat.le_of_ble_eq_true rfl⟩) hX hH hp1.k rfl rfl hl.1 rfl (Nat.le_of_ble_eq_true rfl) dX1_growOnce_6 ⟨Nat.zero_le _, Nat.zero_le _⟩ (fun H locs hH => ?_)
      refine g_icmp_ge (tgt := 75) hx hb0 dX1_growOnce_9 (by decide) h (fun h => ?_) (fun h => ?_)
      · refine lv_iload_n hx hb0 dX1_growOnce_75 rfl (lv_at hl 1 rfl) ?_
        exact g_zretS hx hb0 hr hH hlocks dX1_growOnce_76 h
      · refine lv_aload_n hx hb0 dX1_growOnce_12 rfl (lv_at hl 2 rfl) ?_
        refine g_getR hx hb0 hts q_ws_X1 hown hX hH (C := RX1) (T := TX1) (N := 1) (k := b) (i := 0) (j := (b + 1)) hb.k rfl (by decide) (hts _ q_fl_X1_14) rfl rfl dX1_growOnce_13 ?_
        refine lv_aload_n hx hb0 dX1_growOnce_16 rfl (lv_at hl 3 rfl) ?_
        refine lv_iload_n hx hb0 dX1_growOnce_17 rfl (lv_at hl 0 rfl) ?_
        obtain ⟨q18, e18, h⟩ := gBind_some h
        refine g_callVi (k := p1) (T := TX5) (N := 8) (As := [.int (gI x3_4)]) (rest := [.ref (G.1 (b + 1))]) ⟨hx, hb0, hml, hown, hts⟩ (metX5_from l D G p1 hp1 σ4 μ x3_4 q18 e18) (g_cwV (C := RX5) 1 hts q_ml_X1_47 q_im_X5_from q_se_X5_from q_in_X5 q_co_X5_from ⟨rfl, rfl⟩ (by decide +kernel) ⟨Nat.le_of_ble_eq_true rfl, Nat.le_of_ble_eq_true rfl⟩) hX hH hp1.k rfl rfl hl.1 rfl (Nat.le_of_ble_eq_true rfl) dX1_growOnce_18 ⟨Nat.zero_le _, Nat.zero_le _⟩ (fun H locs hH => ?_)
        obtain ⟨q21, e21, h⟩ := gBind_some h
        refine g_callVi (k := (b + 1)) (T := TX4) (N := 1) (As := [.int (gI q18)]) (rest := []) ⟨hx, hb0, hml, hown, hts⟩ (metX4_at l D G (b + 1) 24 (hb.n0) σ4 μ q18 q21 e21) (g_cwV (C := RX4) 1 hts q_ml_X1_34 q_im_X4_at q_se_X4_at q_in_X4 q_co_X4_at ⟨rfl, rfl⟩ (by decide +kernel) ⟨Nat.le_of_ble_eq_true rfl, Nat.le_of_ble_eq_true rfl⟩) hX hH ((hb.n0)).1 rfl rfl hl.1 rfl (Nat.le_of_ble_eq_true rfl) dX1_growOnce_21 ⟨Nat.zero_le _, Nat.zero_le _⟩ (fun H locs hH => ?_)
        refine lv_iconst (v := gI (1 : Int)) hx hb0 dX1_growOnce_24 (by decide) ?_
        refine g_iadd hx hb0 dX1_growOnce_25 ?_
        refine lv_istore (lv' := [(4, .int (gI (q21 + (1 : Int)))), (3, .int (gI x3_4)), (2, .int (gI x2_4)), (0, .ref (G.1 b)), (1, .ref (G.1 p1))]) hx hb0 dX1_growOnce_26 hl (by decide) rfl (fun ls hl => ?_)
        refine lv_aload_n hx hb0 dX1_growOnce_28 rfl (lv_at hl 4 rfl) ?_
        refine lv_iload_n hx hb0 dX1_growOnce_29 rfl (lv_at hl 1 rfl) ?_
        obtain ⟨q30, e30, h⟩ := gBind_some h
        refine g_callVi (k := p1) (T := TX5) (N := 8) (As := [.int (gI x3_4)]) (rest := []) ⟨hx, hb0, hml, hown, hts⟩ (metX5_isLate l D G p1 hp1 σ4 μ x3_4 q30 e30) (g_cwV (C := RX5) 1 hts q_ml_X1_50 q_im_X5_isLate q_se_X5_isLate q_in_X5 q_co_X5_isLate ⟨rfl, rfl⟩ (by decide +kernel) ⟨Nat.le_of_ble_eq_true rfl, Nat.le_of_ble_eq_true rfl⟩) hX hH hp1.k rfl rfl hl.1 rfl (Nat.le_of_ble_eq_true rfl) dX1_growOnce_30 ⟨Nat.zero_le _, Nat.zero_le _⟩ (fun H locs hH => ?_)
        have hJ69 : ∀ (x2_69 : Int) (σ69 : gSt) (H : Heap) (locs : List Loc) (ls : Array Slot), gH D G s H locs σ69 μ → lv_has ls 5 [(3, .int (gI x3_4)), (2, .int (gI x2_69)), (0, .ref (G.1 b)), (1, .ref (G.1 p1))] → (DX1_growOnce_J69 (DX1_growOnce_L4 b p1 f4) x3_4 x2_69 σ69) = some (r, σ') → W p l e (headSpec (gWs yX1_growOnce cX1_growOnce 5 (some (Jvm.ClassFile.FieldType.boolean))) ({ frames := 3, cells := 0, slots := 0, locals := 63 } : Room)).room s m ([.ref (G.1 b), .ref (G.1 p1)] : List Value).toArray below meth c H locs 0 0 (MQ below (gQi D G r σ' μ) ([.ref (G.1 b), .ref (G.1 p1)] : List Value).toArray s 0 0 (gA G)) (F0 m 69 ls []) := by
          intro x2_69 σ69 H locs ls hH hl h
          unfold DX1_growOnce_J69 at h
          refine g_iinc (k := 0) (n := (1 : Int)) (lv' := [(3, .int (gI (x3_4 + (1 : Int)))), (2, .int (gI x2_69)), (0, .ref (G.1 b)), (1, .ref (G.1 p1))]) hx hb0 dX1_growOnce_69 hl rfl (by decide) rfl (fun ls hl => ?_)
          refine lv_goto (tgt := 4) hx hb0 dX1_growOnce_72 (by decide) ?_
          exact ih4 _ _ _ _ _ _ hH (lv_sub hl [0, 1, 2, 3] rfl) h
        refine g_if_ne (tgt := 69) hx hb0 dX1_growOnce_33 (by decide) h (fun h => ?_) (fun h => ?_)
        · exact hJ69 _ _ _ _ _ hH (lv_sub hl [1, 2, 3, 4] rfl) h
        · refine lv_iload hx hb0 dX1_growOnce_36 (lv_at hl 0 rfl) ?_
          refine lv_aload_n hx hb0 dX1_growOnce_38 rfl (lv_at hl 3 rfl) ?_
          refine g_getR hx hb0 hts q_ws_X1 hown hX hH (C := RX1) (T := TX1) (N := 1) (k := b) (i := 0) (j := (b + 1)) hb.k rfl (by decide) (hts _ q_fl_X1_14) rfl rfl dX1_growOnce_39 ?_
          refine lv_aload_n hx hb0 dX1_growOnce_42 rfl (lv_at hl 4 rfl) ?_
          refine lv_iload_n hx hb0 dX1_growOnce_43 rfl (lv_at hl 1 rfl) ?_
          obtain ⟨q44, e44, h⟩ := gBind_some h
          refine g_callVi (k := p1) (T := TX5) (N := 8) (As := [.int (gI x3_4)]) (rest := [.ref (G.1 (b + 1)), .int (gI (q21 + (1 : Int)))]) ⟨hx, hb0, hml, hown, hts⟩ (metX5_to l D G p1 hp1 σ4 μ x3_4 q44 e44) (g_cwV (C := RX5) 1 hts q_ml_X1_54 q_im_X5_to q_se_X5_to q_in_X5 q_co_X5_to ⟨rfl, rfl⟩ (by decide +kernel) ⟨Nat.le_of_ble_eq_true rfl, Nat.le_of_ble_eq_true rfl⟩) hX hH hp1.k rfl rfl hl.1 rfl (Nat.le_of_ble_eq_true rfl) dX1_growOnce_44 ⟨Nat.zero_le _, Nat.zero_le _⟩ (fun H locs hH => ?_)
          obtain ⟨q47, e47, h⟩ := gBind_some h
          refine g_callVi (k := (b + 1)) (T := TX4) (N := 1) (As := [.int (gI q44)]) (rest := [.int (gI (q21 + (1 : Int)))]) ⟨hx, hb0, hml, hown, hts⟩ (metX4_at l D G (b + 1) 24 (hb.n0) σ4 μ q44 q47 e47) (g_cwV (C := RX4) 1 hts q_ml_X1_34 q_im_X4_at q_se_X4_at q_in_X4 q_co_X4_at ⟨rfl, rfl⟩ (by decide +kernel) ⟨Nat.le_of_ble_eq_true rfl, Nat.le_of_ble_eq_true rfl⟩) hX hH ((hb.n0)).1 rfl rfl hl.1 rfl (Nat.le_of_ble_eq_true rfl) dX1_growOnce_47 ⟨Nat.zero_le _, Nat.zero_le _⟩ (fun H locs hH => ?_)
          refine g_icmp_le (tgt := 69) hx hb0 dX1_growOnce_50 (by decide) h (fun h => ?_) (fun h => ?_)
          · exact hJ69 _ _ _ _ _ hH (lv_sub hl [1, 2, 3, 4] rfl) h
          · refine lv_aload_n hx hb0 dX1_growOnce_53 rfl (lv_at hl 3 rfl) ?_
            refine g_getR hx hb0 hts q_ws_X1 hown hX hH (C := RX1) (T := TX1) (N := 1) (k := b) (i := 0) (j := (b + 1)) hb.k rfl (by decide) (hts _ q_fl_X1_14) rfl rfl dX1_growOnce_54 ?_
            refine lv_aload_n hx hb0 dX1_growOnce_57 rfl (lv_at hl 4 rfl) ?_
            refine lv_iload_n hx hb0 dX1_growOnce_58 rfl (lv_at hl 1 rfl) ?_
            obtain ⟨q59, e59, h⟩ := gBind_some h
            refine g_callVi (k := p1) (T := TX5) (N := 8) (As := [.int (gI x3_4)]) (rest := [.ref (G.1 (b + 1))]) ⟨hx, hb0, hml, hown, hts⟩ (metX5_to l D G p1 hp1 σ4 μ x3_4 q59 e59) (g_cwV (C := RX5) 1 hts q_ml_X1_54 q_im_X5_to q_se_X5_to q_in_X5 q_co_X5_to ⟨rfl, rfl⟩ (by decide +kernel) ⟨Nat.le_of_ble_eq_true rfl, Nat.le_of_ble_eq_true rfl⟩) hX hH hp1.k rfl rfl hl.1 rfl (Nat.le_of_ble_eq_true rfl) dX1_growOnce_59 ⟨Nat.zero_le _, Nat.zero_le _⟩ (fun H locs hH => ?_)
            refine lv_iload hx hb0 dX1_growOnce_62 (lv_at hl 0 rfl) ?_
            obtain ⟨q64, e64, h⟩ := gBind_some h
            refine g_callVv (k := (b + 1)) (T := TX4) (N := 1) (As := [.int (gI q59), .int (gI (q21 + (1 : Int)))]) (rest := []) ⟨hx, hb0, hml, hown, hts⟩ (metX4_put l D G (b + 1) 24 (hb.n0) σ4 μ q59 (q21 + (1 : Int)) q64 e64) (g_cwV (C := RX4) 2 hts q_ml_X1_57 q_im_X4_put q_se_X4_put q_in_X4 q_co_X4_put ⟨rfl, rfl⟩ (by decide +kernel) ⟨Nat.le_of_ble_eq_true rfl, Nat.le_of_ble_eq_true rfl⟩) hX hH ((hb.n0)).1 rfl rfl hl.1 rfl (Nat.le_of_ble_eq_true rfl) dX1_growOnce_64 ⟨Nat.zero_le _, Nat.zero_le _⟩ (fun H locs hH => ?_)
            refine lv_iconst (v := gI (1 : Int)) hx hb0 dX1_growOnce_67 (by decide) ?_
            refine lv_istore_n (lv' := [(2, .int (gI (1 : Int))), (4, .int (gI (q21 + (1 : Int)))), (3, .int (gI x3_4)), (0, .ref (G.1 b)), (1, .ref (G.1 p1))]) hx hb0 dX1_growOnce_68 rfl hl (by decide) rfl (fun ls hl => ?_)
            exact hJ69 _ _ _ _ _ hH (lv_sub hl [2, 0, 3, 4] rfl) h
  exact hL4 gFuel _ _ _ _ _ _ hH (lv_sub hl [0, 1, 2, 3] rfl) h
def DX1_longest_L44 (b : Nat) (p1 : Nat) (σ39 : gSt) : Nat → Int → Int → Option (Int × gSt)
  | 0, _, _ => none
  | f44 + 1, x4_44, x3_44 => (DX5_taskCount p1 σ39).bind fun q47 => gIf (x4_44 < q47) x4_44 q47 ((DX4_at (b + 1) 24 σ39 x4_44).bind fun q60 => gRr x3_44 q60 (((DX1_longest_L44 b p1 σ39 f44) (x4_44 + (1 : Int)) (max x3_44 q60)))) (some (x3_44, σ39))
def DX1_longest_K39 (b : Nat) (p1 : Nat) (σ39 : gSt) : Option (Int × gSt) :=
  (DX1_longest_L44 b p1 σ39 gFuel (0 : Int) (0 : Int))
def DX1_longest_L17 (K39 : gSt → Option (Int × gSt)) (b : Nat) (p1 : Nat) : Nat → Int → Int → gSt → Option (Int × gSt)
  | 0, _, _, _ => none
  | f17 + 1, x3_17, x2_17, σ17 => gIf (x2_17 = (0 : Int)) x2_17 (0 : Int) ((K39 σ17)) (gIf (x3_17 < (24 : Int)) x3_17 (24 : Int) ((DX1_growOnce b p1 σ17).bind fun q29 => ((DX1_longest_L17 K39 b p1 f17) (x3_17 + (1 : Int)) q29.1 q29.2)) ((K39 σ17)))
def DX1_longest (b : Nat) (p1 : Nat) (σ : gSt) : Option (Int × gSt) :=
  (DX5_taskCount p1 σ).bind fun q6 => (DX4_fill (b + 1) 24 σ (0 : Int) q6 (1 : Int)).bind fun q10 => (DX1_longest_L17 (DX1_longest_K39 b p1) b p1 gFuel (0 : Int) (1 : Int) q10)
set_option maxHeartbeats 4000000 in
set_option maxRecDepth 100000 in
theorem metX1_longest (l : Launch) (D : va_G) (G : gAd) (b : Nat) (p1 : Nat) (hb : gChains b) (hp1 : gPlan p1) (σ : gSt) (μ : gLg) (r : Int) (σ' : gSt) (h : DX1_longest b p1 σ = some (r, σ')) : Met l yX1_longest (gWs yX1_longest cX1_longest 5 (some (Jvm.ClassFile.FieldType.int))) ({ frames := 4, cells := 0, slots := 0, locals := 87 } : Room) (gPc D G [.ref (G.1 b), .ref (G.1 p1)] σ μ) (gQi D G r σ' μ) 0 0 (gA G) := by
  refine Met.ofW (cc := cX1_longest) (maxL := 5) (ret := (some (Jvm.ClassFile.FieldType.int))) (by decide) rfl ?_
  intro p e s m args below meth c s₁ B hml hv
  obtain ⟨rfl, hP, hX⟩ := hv
  have hx := B.exec
  have hb0 := B.bytes
  have hr := B.returns
  have hts0 := atoms_spec (ws := (gWs yX1_longest cX1_longest 5 (some (Jvm.ClassFile.FieldType.int)))) B.pre
  have hts : ∀ w ∈ gLW, w.before _ s = true := fun w hw => hts0 w (List.mem_cons_of_mem _ hw)
  have hown : s.vm.findClass RX1 = some m.cls := findClass_of_methodNamed B.named
  have hlocks := B.notSynchronized
  have hH : gH D G s s.heap [] σ μ := ⟨hP, va_S.rf⟩
  have hl := lv_entry ([.ref (G.1 b), .ref (G.1 p1)]) (n := 5) (Nat.le_of_ble_eq_true rfl)
  rw [lg_entry_eq]
  generalize (lg_sl ([.ref (G.1 b), .ref (G.1 p1)]) ++ List.replicate (5 - (lg_sl ([.ref (G.1 b), .ref (G.1 p1)])).length) Slot.unset).toArray = ls at hl ⊢
  have hl : lv_has ls 5 [(0, .ref (G.1 b)), (1, .ref (G.1 p1))] := hl
  unfold DX1_longest at h
  refine lv_aload_n hx hb0 dX1_longest_0 rfl (lv_at hl 0 rfl) ?_
  refine g_getR hx hb0 hts q_ws_X1 hown hX hH (C := RX1) (T := TX1) (N := 1) (k := b) (i := 0) (j := (b + 1)) hb.k rfl (by decide) (hts _ q_fl_X1_14) rfl rfl dX1_longest_1 ?_
  refine lv_iconst (v := gI (0 : Int)) hx hb0 dX1_longest_4 (by decide) ?_
  refine lv_aload_n hx hb0 dX1_longest_5 rfl (lv_at hl 1 rfl) ?_
  obtain ⟨q6, e6, h⟩ := gBind_some h
  refine g_callVi (k := p1) (T := TX5) (N := 8) (As := []) (rest := [.int (gI (0 : Int)), .ref (G.1 (b + 1))]) ⟨hx, hb0, hml, hown, hts⟩ (metX5_taskCount l D G p1 hp1 σ μ q6 e6) (g_cwV (C := RX5) 0 hts q_ml_X1_20 q_im_X5_taskCount q_se_X5_taskCount q_in_X5 q_co_X5_taskCount ⟨rfl, rfl⟩ (by decide +kernel) ⟨Nat.le_of_ble_eq_true rfl, Nat.le_of_ble_eq_true rfl⟩) hX hH hp1.k rfl rfl hl.1 rfl (Nat.le_of_ble_eq_true rfl) dX1_longest_6 ⟨Nat.zero_le _, Nat.zero_le _⟩ (fun H locs hH => ?_)
  refine lv_iconst (v := gI (1 : Int)) hx hb0 dX1_longest_9 (by decide) ?_
  obtain ⟨q10, e10, h⟩ := gBind_some h
  refine g_callVv (k := (b + 1)) (T := TX4) (N := 1) (As := [.int (gI (0 : Int)), .int (gI q6), .int (gI (1 : Int))]) (rest := []) ⟨hx, hb0, hml, hown, hts⟩ (metX4_fill l D G (b + 1) 24 (hb.n0) σ μ (0 : Int) q6 (1 : Int) q10 e10) (g_cwV (C := RX4) 3 hts q_ml_X1_26 q_im_X4_fill q_se_X4_fill q_in_X4 q_co_X4_fill ⟨rfl, rfl⟩ (by decide +kernel) ⟨Nat.le_of_ble_eq_true rfl, Nat.le_of_ble_eq_true rfl⟩) hX hH ((hb.n0)).1 rfl rfl hl.1 rfl (Nat.le_of_ble_eq_true rfl) dX1_longest_10 ⟨Nat.zero_le _, Nat.zero_le _⟩ (fun H locs hH => ?_)
  refine lv_iconst (v := gI (1 : Int)) hx hb0 dX1_longest_13 (by decide) ?_
  refine lv_istore_n (lv' := [(2, .int (gI (1 : Int))), (0, .ref (G.1 b)), (1, .ref (G.1 p1))]) hx hb0 dX1_longest_14 rfl hl (by decide) rfl (fun ls hl => ?_)
  refine lv_iconst (v := gI (0 : Int)) hx hb0 dX1_longest_15 (by decide) ?_
  refine lv_istore_n (lv' := [(3, .int (gI (0 : Int))), (2, .int (gI (1 : Int))), (0, .ref (G.1 b)), (1, .ref (G.1 p1))]) hx hb0 dX1_longest_16 rfl hl (by decide) rfl (fun ls hl => ?_)
  have hK39 : ∀ (σ39 : gSt) (H : Heap) (locs : List Loc) (ls : Array Slot), gH D G s H locs σ39 μ → lv_has ls 5 [(0, .ref (G.1 b)), (1, .ref (G.1 p1))] → (DX1_longest_K39 b p1 σ39) = some (r, σ') → W p l e (headSpec (gWs yX1_longest cX1_longest 5 (some (Jvm.ClassFile.FieldType.int))) ({ frames := 4, cells := 0, slots := 0, locals := 87 } : Room)).room s m ([.ref (G.1 b), .ref (G.1 p1)] : List Value).toArray below meth c H locs 0 0 (MQ below (gQi D G r σ' μ) ([.ref (G.1 b), .ref (G.1 p1)] : List Value).toArray s 0 0 (gA G)) (F0 m 39 ls []) := by
    intro σ39 H locs ls hH hl h
    unfold DX1_longest_K39 at h
    refine lv_iconst (v := gI (0 : Int)) hx hb0 dX1_longest_39 (by decide) ?_
    refine lv_istore_n (lv' := [(3, .int (gI (0 : Int))), (0, .ref (G.1 b)), (1, .ref (G.1 p1))]) hx hb0 dX1_longest_40 rfl hl (by decide) rfl (fun ls hl => ?_)
    refine lv_iconst (v := gI (0 : Int)) hx hb0 dX1_longest_41 (by decide) ?_
    refine lv_istore (lv' := [(4, .int (gI (0 : Int))), (3, .int (gI (0 : Int))), (0, .ref (G.1 b)), (1, .ref (G.1 p1))]) hx hb0 dX1_longest_42 hl (by decide) rfl (fun ls hl => ?_)
    have hL44 : ∀ (f44 : Nat) (x4_44 : Int) (x3_44 : Int) (H : Heap) (locs : List Loc) (ls : Array Slot), gH D G s H locs σ39 μ → lv_has ls 5 [(4, .int (gI x4_44)), (3, .int (gI x3_44)), (0, .ref (G.1 b)), (1, .ref (G.1 p1))] → (DX1_longest_L44 b p1 σ39 f44 x4_44 x3_44) = some (r, σ') → W p l e (headSpec (gWs yX1_longest cX1_longest 5 (some (Jvm.ClassFile.FieldType.int))) ({ frames := 4, cells := 0, slots := 0, locals := 87 } : Room)).room s m ([.ref (G.1 b), .ref (G.1 p1)] : List Value).toArray below meth c H locs 0 0 (MQ below (gQi D G r σ' μ) ([.ref (G.1 b), .ref (G.1 p1)] : List Value).toArray s 0 0 (gA G)) (F0 m 44 ls []) := by
      intro f44
      induction f44 with
      | zero => intro x4_44 x3_44 H locs ls hH hl h; cases h
      | succ f44 ih44 =>
        intro x4_44 x3_44 H locs ls hH hl h
        unfold DX1_longest_L44 at h
        refine lv_iload hx hb0 dX1_longest_44 (lv_at hl 0 rfl) ?_
        refine lv_aload_n hx hb0 dX1_longest_46 rfl (lv_at hl 3 rfl) ?_
        obtain ⟨q47, e47, h⟩ := gBind_some h
        refine g_callVi (k := p1) (T := TX5) (N := 8) (As := []) (rest := [.int (gI x4_44)]) ⟨hx, hb0, hml, hown, hts⟩ (metX5_taskCount l D G p1 hp1 σ39 μ q47 e47) (g_cwV (C := RX5) 0 hts q_ml_X1_20 q_im_X5_taskCount q_se_X5_taskCount q_in_X5 q_co_X5_taskCount ⟨rfl, rfl⟩ (by decide +kernel) ⟨Nat.le_of_ble_eq_true rfl, Nat.le_of_ble_eq_true rfl⟩) hX hH hp1.k rfl rfl hl.1 rfl (Nat.le_of_ble_eq_true rfl) dX1_longest_47 ⟨Nat.zero_le _, Nat.zero_le _⟩ (fun H locs hH => ?_)
        refine g_icmp_ge (tgt := 73) hx hb0 dX1_longest_50 (by decide) h (fun h => ?_) (fun h => ?_)
        · refine lv_iload_n hx hb0 dX1_longest_73 rfl (lv_at hl 1 rfl) ?_
          exact g_iretS hx hb0 hr hH hlocks dX1_longest_74 h
        · refine lv_iload_n hx hb0 dX1_longest_53 rfl (lv_at hl 1 rfl) ?_
          refine lv_aload_n hx hb0 dX1_longest_54 rfl (lv_at hl 2 rfl) ?_
          refine g_getR hx hb0 hts q_ws_X1 hown hX hH (C := RX1) (T := TX1) (N := 1) (k := b) (i := 0) (j := (b + 1)) hb.k rfl (by decide) (hts _ q_fl_X1_14) rfl rfl dX1_longest_55 ?_
          refine lv_iload hx hb0 dX1_longest_58 (lv_at hl 0 rfl) ?_
          obtain ⟨q60, e60, h⟩ := gBind_some h
          refine g_callVi (k := (b + 1)) (T := TX4) (N := 1) (As := [.int (gI x4_44)]) (rest := [.int (gI x3_44)]) ⟨hx, hb0, hml, hown, hts⟩ (metX4_at l D G (b + 1) 24 (hb.n0) σ39 μ x4_44 q60 e60) (g_cwV (C := RX4) 1 hts q_ml_X1_34 q_im_X4_at q_se_X4_at q_in_X4 q_co_X4_at ⟨rfl, rfl⟩ (by decide +kernel) ⟨Nat.le_of_ble_eq_true rfl, Nat.le_of_ble_eq_true rfl⟩) hX hH ((hb.n0)).1 rfl rfl hl.1 rfl (Nat.le_of_ble_eq_true rfl) dX1_longest_60 ⟨Nat.zero_le _, Nat.zero_le _⟩ (fun H locs hH => ?_)
          refine g_mmax hx hb0 (hml.trans hl.1.symm) hts hown q_ml_X1_38 ⟨⟨Nat.le_of_ble_eq_true rfl, Nat.le_of_ble_eq_true rfl⟩, Nat.le_of_ble_eq_true rfl, Nat.le_of_ble_eq_true rfl⟩ dX1_longest_63 h (fun h => ?_)
          refine lv_istore_n (lv' := [(3, .int (gI (max x3_44 q60))), (4, .int (gI x4_44)), (0, .ref (G.1 b)), (1, .ref (G.1 p1))]) hx hb0 dX1_longest_66 rfl hl (by decide) rfl (fun ls hl => ?_)
          refine g_iinc (k := 1) (n := (1 : Int)) (lv' := [(4, .int (gI (x4_44 + (1 : Int)))), (3, .int (gI (max x3_44 q60))), (0, .ref (G.1 b)), (1, .ref (G.1 p1))]) hx hb0 dX1_longest_67 hl rfl (by decide) rfl (fun ls hl => ?_)
          refine lv_goto (tgt := 44) hx hb0 dX1_longest_70 (by decide) ?_
          exact ih44 _ _ _ _ _ hH (lv_sub hl [0, 1, 2, 3] rfl) h
    exact hL44 gFuel _ _ _ _ _ hH (lv_sub hl [0, 1, 2, 3] rfl) h
  have hL17 : ∀ (f17 : Nat) (x3_17 : Int) (x2_17 : Int) (σ17 : gSt) (H : Heap) (locs : List Loc) (ls : Array Slot), gH D G s H locs σ17 μ → lv_has ls 5 [(3, .int (gI x3_17)), (2, .int (gI x2_17)), (0, .ref (G.1 b)), (1, .ref (G.1 p1))] → (DX1_longest_L17 (DX1_longest_K39 b p1) b p1 f17 x3_17 x2_17 σ17) = some (r, σ') → W p l e (headSpec (gWs yX1_longest cX1_longest 5 (some (Jvm.ClassFile.FieldType.int))) ({ frames := 4, cells := 0, slots := 0, locals := 87 } : Room)).room s m ([.ref (G.1 b), .ref (G.1 p1)] : List Value).toArray below meth c H locs 0 0 (MQ below (gQi D G r σ' μ) ([.ref (G.1 b), .ref (G.1 p1)] : List Value).toArray s 0 0 (gA G)) (F0 m 17 ls []) := by
    intro f17
    induction f17 with
    | zero => intro x3_17 x2_17 σ17 H locs ls hH hl h; cases h
    | succ f17 ih17 =>
      intro x3_17 x2_17 σ17 H locs ls hH hl h
      unfold DX1_longest_L17 at h
      refine lv_iload_n hx hb0 dX1_longest_17 rfl (lv_at hl 1 rfl) ?_
      refine g_if_eq (tgt := 39) hx hb0 dX1_longest_18 (by decide) h (fun h => ?_) (fun h => ?_)
      · exact hK39 _ _ _ _ hH (lv_sub hl [2, 3] rfl) h
      · refine lv_iload_n hx hb0 dX1_longest_21 rfl (lv_at hl 0 rfl) ?_
        refine lv_bipush (v := gI (24 : Int)) hx hb0 dX1_longest_22 (by decide) ?_
        refine g_icmp_ge (tgt := 39) hx hb0 dX1_longest_24 (by decide) h (fun h => ?_) (fun h => ?_)
        · exact hK39 _ _ _ _ hH (lv_sub hl [2, 3] rfl) h
        · refine lv_aload_n hx hb0 dX1_longest_27 rfl (lv_at hl 2 rfl) ?_
          refine lv_aload_n hx hb0 dX1_longest_28 rfl (lv_at hl 3 rfl) ?_
          obtain ⟨q29, e29, h⟩ := gBind_some h
          refine g_callVi (k := b) (T := TX1) (N := 1) (As := [.ref (G.1 p1)]) (rest := []) ⟨hx, hb0, hml, hown, hts⟩ (metX1_growOnce l D G b p1 hb hp1 σ17 μ q29.1 q29.2 e29) (g_cwV (C := RX1) 1 hts q_ml_X1_30 q_im_X1_growOnce q_se_X1_growOnce q_in_X1 q_co_X1_growOnce ⟨rfl, rfl⟩ (by decide +kernel) ⟨Nat.le_of_ble_eq_true rfl, Nat.le_of_ble_eq_true rfl⟩) hX hH hb.k rfl rfl hl.1 rfl (Nat.le_of_ble_eq_true rfl) dX1_longest_29 ⟨Nat.zero_le _, Nat.zero_le _⟩ (fun H locs hH => ?_)
          refine lv_istore_n (lv' := [(2, .int (gI q29.1)), (3, .int (gI x3_17)), (0, .ref (G.1 b)), (1, .ref (G.1 p1))]) hx hb0 dX1_longest_32 rfl hl (by decide) rfl (fun ls hl => ?_)
          refine g_iinc (k := 1) (n := (1 : Int)) (lv' := [(3, .int (gI (x3_17 + (1 : Int)))), (2, .int (gI q29.1)), (0, .ref (G.1 b)), (1, .ref (G.1 p1))]) hx hb0 dX1_longest_33 hl rfl (by decide) rfl (fun ls hl => ?_)
          refine lv_goto (tgt := 17) hx hb0 dX1_longest_36 (by decide) ?_
          exact ih17 _ _ _ _ _ _ hH (lv_sub hl [0, 1, 2, 3] rfl) h
  exact hL17 gFuel _ _ _ _ _ _ hH (lv_sub hl [0, 1, 2, 3] rfl) h
def DX8_longestChain (σ : gSt) : Option (Int × gSt) :=
  (DX1_longest 84 1 σ).bind fun q8 => some (q8.1, q8.2)
set_option maxHeartbeats 4000000 in
set_option maxRecDepth 100000 in
theorem metX8_longestChain (l : Launch) (D : va_G) (G : gAd) (σ : gSt) (μ : gLg) (r : Int) (σ' : gSt) (h : DX8_longestChain σ = some (r, σ')) : Met l yX8_longestChain (gWs yX8_longestChain cX8_longestChain 1 (some (Jvm.ClassFile.FieldType.int))) ({ frames := 5, cells := 0, slots := 0, locals := 111 } : Room) (gPc D G [.ref (G.1 0)] σ μ) (gQi D G r σ' μ) 0 0 (gA G) := by
  refine Met.ofW (cc := cX8_longestChain) (maxL := 1) (ret := (some (Jvm.ClassFile.FieldType.int))) (by decide) rfl ?_
  intro p e s m args below meth c s₁ B hml hv
  obtain ⟨rfl, hP, hX⟩ := hv
  have hx := B.exec
  have hb0 := B.bytes
  have hr := B.returns
  have hts0 := atoms_spec (ws := (gWs yX8_longestChain cX8_longestChain 1 (some (Jvm.ClassFile.FieldType.int)))) B.pre
  have hts : ∀ w ∈ gLW, w.before _ s = true := fun w hw => hts0 w (List.mem_cons_of_mem _ hw)
  have hown : s.vm.findClass RX8 = some m.cls := findClass_of_methodNamed B.named
  have hlocks := B.notSynchronized
  have hH : gH D G s s.heap [] σ μ := ⟨hP, va_S.rf⟩
  have hl := lv_entry ([.ref (G.1 0)]) (n := 1) (Nat.le_of_ble_eq_true rfl)
  rw [lg_entry_eq]
  generalize (lg_sl ([.ref (G.1 0)]) ++ List.replicate (1 - (lg_sl ([.ref (G.1 0)])).length) Slot.unset).toArray = ls at hl ⊢
  have hl : lv_has ls 1 [(0, .ref (G.1 0))] := hl
  unfold DX8_longestChain at h
  refine lv_aload_n hx hb0 dX8_longestChain_0 rfl (lv_at hl 0 rfl) ?_
  refine g_getR hx hb0 hts q_ws_X8 hown hX hH (C := RX8) (T := TX8) (N := 10) (k := 0) (i := 4) (j := 84) (rfl : gKinds[0]? = _) rfl (by decide) (hts _ q_fl_X8_36) rfl rfl dX8_longestChain_1 ?_
  refine lv_aload_n hx hb0 dX8_longestChain_4 rfl (lv_at hl 0 rfl) ?_
  refine g_getR hx hb0 hts q_ws_X8 hown hX hH (C := RX8) (T := TX8) (N := 10) (k := 0) (i := 0) (j := 1) (rfl : gKinds[0]? = _) rfl (by decide) (hts _ q_fl_X8_12) rfl rfl dX8_longestChain_5 ?_
  obtain ⟨q8, e8, h⟩ := gBind_some h
  refine g_callVi (k := 84) (T := TX1) (N := 1) (As := [.ref (G.1 1)]) (rest := []) ⟨hx, hb0, hml, hown, hts⟩ (metX1_longest l D G 84 1 gChains_84 gPlan_1 σ μ q8.1 q8.2 e8) (g_cwV (C := RX1) 1 hts q_ml_X8_248 q_im_X1_longest q_se_X1_longest q_in_X1 q_co_X1_longest ⟨rfl, rfl⟩ (by decide +kernel) ⟨Nat.le_of_ble_eq_true rfl, Nat.le_of_ble_eq_true rfl⟩) hX hH gChains_84.k rfl rfl hl.1 rfl (Nat.le_of_ble_eq_true rfl) dX8_longestChain_8 ⟨Nat.zero_le _, Nat.zero_le _⟩ (fun H locs hH => ?_)
  exact g_iretS hx hb0 hr hH hlocks dX8_longestChain_11 h
