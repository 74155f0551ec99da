def DX6_print_K105 (b : Nat) (p1 : Nat) (p2 : Nat) (a3 : Int) (σ105 : gSt) : Option (gSt) :=
  (DX8_stripOfDay (gUp σ105 b 4 (0 : Int)) (258 : Int) a3).bind fun q114 => (DX5_setting p1 (gUp σ105 b 4 (0 : Int)) (3 : Int)).bind fun q123 => gIf (q123 = (0 : Int)) q123 (0 : Int) ((DX0_count p2 (gUp σ105 b 4 (0 : Int))).bind fun q131 => (DX6_numberByBands b (gUp σ105 b 4 (0 : Int)) q131 (q114 + (1 : Int))).bind fun q136 => some q136) ((DX0_count p2 (gUp σ105 b 4 (0 : Int))).bind fun q144 => (DX6_numberByStrips b (gUp σ105 b 4 (0 : Int)) q144 (q114 + (1 : Int))).bind fun q149 => some q149)
def DX6_print_K99 (R35 : Int → gSt → Option (gSt)) (x4_35 : Int) (σ99 : gSt) : Option (gSt) :=
  (R35 (x4_35 + (1 : Int)) σ99)
def DX6_print_L68 (K99 : gSt → Option (gSt)) (b : Nat) (p2 : Nat) (x4_35 : Int) (q51 : Int) : Nat → Int → gSt → Option (gSt)
  | 0, _, _ => none
  | f68 + 1, x6_68, σ68 => gIf (q51 < x6_68) x6_68 q51 ((K99 σ68)) ((DX0_bandOf p2 σ68 x4_35).bind fun q82 => (DX6_spot σ68 q82 x6_68).bind fun q87 => (DX4_increase (b + 1) 1248 σ68 q87).bind fun q90 => ((DX6_print_L68 K99 b p2 x4_35 q51 f68) (x6_68 + (1 : Int)) q90))
def DX6_print_L35 (K105 : gSt → Option (gSt)) (b : Nat) (p1 : Nat) (p2 : Nat) (a3 : Int) : Nat → Int → gSt → Option (gSt)
  | 0, _, _ => none
  | f35 + 1, x4_35, σ35 => (DX5_taskCount p1 σ35).bind fun q38 => gIf (x4_35 < q38) x4_35 q38 ((DX5_last p1 σ35 x4_35).bind fun q47 => (DX8_stripOfDay σ35 q47 a3).bind fun q51 => (DX5_first p1 σ35 x4_35).bind fun q59 => (DX8_stripOfDay σ35 q59 a3).bind fun q63 => (DX6_print_L68 (DX6_print_K99 (DX6_print_L35 K105 b p1 p2 a3 f35) x4_35) b p2 x4_35 q51 gFuel q63 σ35)) ((K105 σ35))
def DX6_print (b : Nat) (p1 : Nat) (p2 : Nat) (σ : gSt) (a3 : Int) : Option (gSt) :=
  (DX0_count p2 σ).bind fun q6 => (DX4_fill (b + 1) 1248 σ (0 : Int) (q6 * (52 : Int)) (0 : Int)).bind fun q13 => (DX0_count p2 q13).bind fun q22 => (DX4_fill (b + 3) 1248 q13 (0 : Int) (q22 * (52 : Int)) (-1 : Int)).bind fun q29 => (DX6_print_L35 (DX6_print_K105 b p1 p2 a3) b p1 p2 a3 gFuel (0 : Int) q29)
set_option maxHeartbeats 4000000 in
set_option maxRecDepth 100000 in
theorem metX6_print (l : Launch) (D : va_G) (G : gAd) (b : Nat) (p1 : Nat) (p2 : Nat) (hb : gSheets b) (hp1 : gPlan p1) (hp2 : gBands p2) (σ : gSt) (μ : gLg) (a3 : Int) (σ' : gSt) (h : DX6_print b p1 p2 σ a3 = some σ') : Met l yX6_print (gWs yX6_print cX6_print 7 none) ({ frames := 3, cells := 0, slots := 0, locals := 69 } : Room) (gPc D G [.ref (G.1 b), .ref (G.1 p1), .ref (G.1 p2), .int (gI a3)] σ μ) (gQv D G σ' μ) 0 0 (gA G) := by
  refine Met.ofW (cc := cX6_print) (maxL := 7) (ret := none) (by decide) rfl ?_
  intro p e s m args below meth c s₁ B hml hv
  obtain ⟨rfl, hP, hX⟩ := hv
  have hx := B.exec
  have hb0 := B.bytes
  have hr := B.returns
  have hts0 := atoms_spec (ws := (gWs yX6_print cX6_print 7 none)) B.pre
  have hts : ∀ w ∈ gLW, w.before _ s = true := fun w hw => hts0 w (List.mem_cons_of_mem _ hw)
  have hown : s.vm.findClass RX6 = some m.cls := findClass_of_methodNamed B.named
  have hlocks := B.notSynchronized
  have hH : gH D G s s.heap [] σ μ := ⟨hP, va_S.rf⟩
  have hl := lv_entry ([.ref (G.1 b), .ref (G.1 p1), .ref (G.1 p2), .int (gI a3)]) (n := 7) (Nat.le_of_ble_eq_true rfl)
  rw [lg_entry_eq]
  generalize (lg_sl ([.ref (G.1 b), .ref (G.1 p1), .ref (G.1 p2), .int (gI a3)]) ++ List.replicate (7 - (lg_sl ([.ref (G.1 b), .ref (G.1 p1), .ref (G.1 p2), .int (gI a3)])).length) Slot.unset).toArray = ls at hl ⊢
  have hl : lv_has ls 7 [(0, .ref (G.1 b)), (1, .ref (G.1 p1)), (2, .ref (G.1 p2)), (3, .int (gI a3))] := hl
  unfold DX6_print at h
  refine lv_aload_n hx hb0 dX6_print_0 rfl (lv_at hl 0 rfl) ?_
  refine g_getR hx hb0 hts q_ws_X6 hown hX hH (C := RX6) (T := TX6) (N := 5) (k := b) (i := 0) (j := (b + 1)) hb.k rfl (by decide) (hts _ q_fl_X6_14) rfl rfl dX6_print_1 ?_
  refine lv_iconst (v := gI (0 : Int)) hx hb0 dX6_print_4 (by decide) ?_
  refine lv_aload_n hx hb0 dX6_print_5 rfl (lv_at hl 2 rfl) ?_
  obtain ⟨q6, e6, h⟩ := gBind_some h
  refine g_callVi (k := p2) (T := TX0) (N := 8) (As := []) (rest := [.int (gI (0 : Int)), .ref (G.1 (b + 1))]) ⟨hx, hb0, hml, hown, hts⟩ (metX0_count l D G p2 hp2 σ μ q6 e6) (g_cwV (C := RX0) 0 hts q_ml_X6_47 q_im_X0_count q_se_X0_count q_in_X0 q_co_X0_count ⟨rfl, rfl⟩ (by decide +kernel) ⟨Nat.le_of_ble_eq_true rfl, Nat.le_of_ble_eq_true rfl⟩) hX hH hp2.k rfl rfl hl.1 rfl (Nat.le_of_ble_eq_true rfl) dX6_print_6 ⟨Nat.zero_le _, Nat.zero_le _⟩ (fun H locs hH => ?_)
  refine lv_bipush (v := gI (52 : Int)) hx hb0 dX6_print_9 (by decide) ?_
  refine g_imul hx hb0 dX6_print_11 ?_
  refine lv_iconst (v := gI (0 : Int)) hx hb0 dX6_print_12 (by decide) ?_
  obtain ⟨q13, e13, h⟩ := gBind_some h
  refine g_callVv (k := (b + 1)) (T := TX4) (N := 1) (As := [.int (gI (0 : Int)), .int (gI (q6 * (52 : Int))), .int (gI (0 : Int))]) (rest := []) ⟨hx, hb0, hml, hown, hts⟩ (metX4_fill l D G (b + 1) 1248 (hb.n0) σ μ (0 : Int) (q6 * (52 : Int)) (0 : Int) q13 e13) (g_cwV (C := RX4) 3 hts q_ml_X6_52 q_im_X4_fill q_se_X4_fill q_in_X4 q_co_X4_fill ⟨rfl, rfl⟩ (by decide +kernel) ⟨Nat.le_of_ble_eq_true rfl, Nat.le_of_ble_eq_true rfl⟩) hX hH ((hb.n0)).1 rfl rfl hl.1 rfl (Nat.le_of_ble_eq_true rfl) dX6_print_13 ⟨Nat.zero_le _, Nat.zero_le _⟩ (fun H locs hH => ?_)
  refine lv_aload_n hx hb0 dX6_print_16 rfl (lv_at hl 0 rfl) ?_
  refine g_getR hx hb0 hts q_ws_X6 hown hX hH (C := RX6) (T := TX6) (N := 5) (k := b) (i := 1) (j := (b + 3)) hb.k rfl (by decide) (hts _ q_fl_X6_20) rfl rfl dX6_print_17 ?_
  refine lv_iconst (v := gI (0 : Int)) hx hb0 dX6_print_20 (by decide) ?_
  refine lv_aload_n hx hb0 dX6_print_21 rfl (lv_at hl 2 rfl) ?_
  obtain ⟨q22, e22, h⟩ := gBind_some h
  refine g_callVi (k := p2) (T := TX0) (N := 8) (As := []) (rest := [.int (gI (0 : Int)), .ref (G.1 (b + 3))]) ⟨hx, hb0, hml, hown, hts⟩ (metX0_count l D G p2 hp2 q13 μ q22 e22) (g_cwV (C := RX0) 0 hts q_ml_X6_47 q_im_X0_count q_se_X0_count q_in_X0 q_co_X0_count ⟨rfl, rfl⟩ (by decide +kernel) ⟨Nat.le_of_ble_eq_true rfl, Nat.le_of_ble_eq_true rfl⟩) hX hH hp2.k rfl rfl hl.1 rfl (Nat.le_of_ble_eq_true rfl) dX6_print_22 ⟨Nat.zero_le _, Nat.zero_le _⟩ (fun H locs hH => ?_)
  refine lv_bipush (v := gI (52 : Int)) hx hb0 dX6_print_25 (by decide) ?_
  refine g_imul hx hb0 dX6_print_27 ?_
  refine lv_iconst (v := gI (-1 : Int)) hx hb0 dX6_print_28 (by decide) ?_
  obtain ⟨q29, e29, h⟩ := gBind_some h
  refine g_callVv (k := (b + 3)) (T := TX4) (N := 1) (As := [.int (gI (0 : Int)), .int (gI (q22 * (52 : Int))), .int (gI (-1 : Int))]) (rest := []) ⟨hx, hb0, hml, hown, hts⟩ (metX4_fill l D G (b + 3) 1248 (hb.n1) q13 μ (0 : Int) (q22 * (52 : Int)) (-1 : Int) q29 e29) (g_cwV (C := RX4) 3 hts q_ml_X6_52 q_im_X4_fill q_se_X4_fill q_in_X4 q_co_X4_fill ⟨rfl, rfl⟩ (by decide +kernel) ⟨Nat.le_of_ble_eq_true rfl, Nat.le_of_ble_eq_true rfl⟩) hX hH ((hb.n1)).1 rfl rfl hl.1 rfl (Nat.le_of_ble_eq_true rfl) dX6_print_29 ⟨Nat.zero_le _, Nat.zero_le _⟩ (fun H locs hH => ?_)
  refine lv_iconst (v := gI (0 : Int)) hx hb0 dX6_print_32 (by decide) ?_
  refine lv_istore (lv' := [(4, .int (gI (0 : Int))), (0, .ref (G.1 b)), (1, .ref (G.1 p1)), (2, .ref (G.1 p2)), (3, .int (gI a3))]) hx hb0 dX6_print_33 hl (by decide) rfl (fun ls hl => ?_)
  have hK105 : ∀ (σ105 : gSt) (H : Heap) (locs : List Loc) (ls : Array Slot), gH D G s H locs σ105 μ → lv_has ls 7 [(0, .ref (G.1 b)), (1, .ref (G.1 p1)), (2, .ref (G.1 p2)), (3, .int (gI a3))] → (DX6_print_K105 b p1 p2 a3 σ105) = some σ' → W p l e (headSpec (gWs yX6_print cX6_print 7 none) ({ frames := 3, cells := 0, slots := 0, locals := 69 } : Room)).room s m ([.ref (G.1 b), .ref (G.1 p1), .ref (G.1 p2), .int (gI a3)] : List Value).toArray below meth c H locs 0 0 (MQ below (gQv D G σ' μ) ([.ref (G.1 b), .ref (G.1 p1), .ref (G.1 p2), .int (gI a3)] : List Value).toArray s 0 0 (gA G)) (F0 m 105 ls []) := by
    intro σ105 H locs ls hH hl h
    unfold DX6_print_K105 at h
    refine lv_aload_n hx hb0 dX6_print_105 rfl (lv_at hl 0 rfl) ?_
    refine lv_iconst (v := gI (0 : Int)) hx hb0 dX6_print_106 (by decide) ?_
    refine g_putI hx hb0 hts q_ws_X6 tyX6 tyX6_ok nmX6 hown hX hH (C := RX6) (T := TX6) (N := 5) (k := b) (i := 4) hb.k rfl (by decide) (hts _ q_fl_X6_29) rfl rfl rfl rfl dX6_print_107 (fun H locs hH => ?_)
    refine lv_sipush (v := gI (258 : Int)) hx hb0 dX6_print_110 (by decide) ?_
    refine lv_iload_n hx hb0 dX6_print_113 rfl (lv_at hl 3 rfl) ?_
    obtain ⟨q114, e114, h⟩ := gBind_some h
    refine g_callNi (As := [.int (gI (258 : Int)), .int (gI a3)]) (rest := []) ⟨hx, hb0, hml, hown, hts⟩ (metX8_stripOfDay l D G (gUp σ105 b 4 (0 : Int)) μ (258 : Int) a3 q114 e114) (g_cwN (own := RX6) (idx := 64) (y := yX8_stripOfDay) (host := RX8) 2 hts hX (by decide +kernel) q_st_X8_stripOfDay q_in_X8 q_co_X8_stripOfDay ⟨rfl, rfl⟩ (by decide +kernel) ⟨Nat.le_of_ble_eq_true rfl, Nat.le_of_ble_eq_true rfl⟩) hX hH rfl hl.1 rfl (Nat.le_of_ble_eq_true rfl) dX6_print_114 ⟨Nat.zero_le _, Nat.zero_le _⟩ (fun H locs hH => ?_)
    refine lv_iconst (v := gI (1 : Int)) hx hb0 dX6_print_117 (by decide) ?_
    refine g_iadd hx hb0 dX6_print_118 ?_
    refine lv_istore (lv' := [(4, .int (gI (q114 + (1 : Int)))), (0, .ref (G.1 b)), (1, .ref (G.1 p1)), (2, .ref (G.1 p2)), (3, .int (gI a3))]) hx hb0 dX6_print_119 hl (by decide) rfl (fun ls hl => ?_)
    refine lv_aload_n hx hb0 dX6_print_121 rfl (lv_at hl 2 rfl) ?_
    refine lv_iconst (v := gI (3 : Int)) hx hb0 dX6_print_122 (by decide) ?_
    obtain ⟨q123, e123, h⟩ := gBind_some h
    refine g_callVi (k := p1) (T := TX5) (N := 8) (As := [.int (gI (3 : Int))]) (rest := []) ⟨hx, hb0, hml, hown, hts⟩ (metX5_setting l D G p1 hp1 (gUp σ105 b 4 (0 : Int)) μ (3 : Int) q123 e123) (g_cwV (C := RX5) 1 hts q_ml_X6_74 q_im_X5_setting q_se_X5_setting q_in_X5 q_co_X5_setting ⟨rfl, rfl⟩ (by decide +kernel) ⟨Nat.le_of_ble_eq_true rfl, Nat.le_of_ble_eq_true rfl⟩) hX hH hp1.k rfl rfl hl.1 rfl (Nat.le_of_ble_eq_true rfl) dX6_print_123 ⟨Nat.zero_le _, Nat.zero_le _⟩ (fun H locs hH => ?_)
    refine g_if_ne (tgt := 142) hx hb0 dX6_print_126 (by decide) h (fun h => ?_) (fun h => ?_)
    · refine lv_aload_n hx hb0 dX6_print_142 rfl (lv_at hl 1 rfl) ?_
      refine lv_aload_n hx hb0 dX6_print_143 rfl (lv_at hl 3 rfl) ?_
      obtain ⟨q144, e144, h⟩ := gBind_some h
      refine g_callVi (k := p2) (T := TX0) (N := 8) (As := []) (rest := [.ref (G.1 b)]) ⟨hx, hb0, hml, hown, hts⟩ (metX0_count l D G p2 hp2 (gUp σ105 b 4 (0 : Int)) μ q144 e144) (g_cwV (C := RX0) 0 hts q_ml_X6_47 q_im_X0_count q_se_X0_count q_in_X0 q_co_X0_count ⟨rfl, rfl⟩ (by decide +kernel) ⟨Nat.le_of_ble_eq_true rfl, Nat.le_of_ble_eq_true rfl⟩) hX hH hp2.k rfl rfl hl.1 rfl (Nat.le_of_ble_eq_true rfl) dX6_print_144 ⟨Nat.zero_le _, Nat.zero_le _⟩ (fun H locs hH => ?_)
      refine lv_iload hx hb0 dX6_print_147 (lv_at hl 0 rfl) ?_
      obtain ⟨q149, e149, h⟩ := gBind_some h
      refine g_callVv (k := b) (T := TX6) (N := 5) (As := [.int (gI q144), .int (gI (q114 + (1 : Int)))]) (rest := []) ⟨hx, hb0, hml, hown, hts⟩ (metX6_numberByStrips l D G b hb (gUp σ105 b 4 (0 : Int)) μ q144 (q114 + (1 : Int)) q149 e149) (g_cwV (C := RX6) 2 hts q_ml_X6_81 q_im_X6_numberByStrips q_se_X6_numberByStrips q_in_X6 q_co_X6_numberByStrips ⟨rfl, rfl⟩ (by decide +kernel) ⟨Nat.le_of_ble_eq_true rfl, Nat.le_of_ble_eq_true rfl⟩) hX hH hb.k rfl rfl hl.1 rfl (Nat.le_of_ble_eq_true rfl) dX6_print_149 ⟨Nat.zero_le _, Nat.zero_le _⟩ (fun H locs hH => ?_)
      exact g_vretS hx hb0 hr hH hlocks dX6_print_152 h
    · refine lv_aload_n hx hb0 dX6_print_129 rfl (lv_at hl 1 rfl) ?_
      refine lv_aload_n hx hb0 dX6_print_130 rfl (lv_at hl 3 rfl) ?_
      obtain ⟨q131, e131, h⟩ := gBind_some h
      refine g_callVi (k := p2) (T := TX0) (N := 8) (As := []) (rest := [.ref (G.1 b)]) ⟨hx, hb0, hml, hown, hts⟩ (metX0_count l D G p2 hp2 (gUp σ105 b 4 (0 : Int)) μ q131 e131) (g_cwV (C := RX0) 0 hts q_ml_X6_47 q_im_X0_count q_se_X0_count q_in_X0 q_co_X0_count ⟨rfl, rfl⟩ (by decide +kernel) ⟨Nat.le_of_ble_eq_true rfl, Nat.le_of_ble_eq_true rfl⟩) hX hH hp2.k rfl rfl hl.1 rfl (Nat.le_of_ble_eq_true rfl) dX6_print_131 ⟨Nat.zero_le _, Nat.zero_le _⟩ (fun H locs hH => ?_)
      refine lv_iload hx hb0 dX6_print_134 (lv_at hl 0 rfl) ?_
      obtain ⟨q136, e136, h⟩ := gBind_some h
      refine g_callVv (k := b) (T := TX6) (N := 5) (As := [.int (gI q131), .int (gI (q114 + (1 : Int)))]) (rest := []) ⟨hx, hb0, hml, hown, hts⟩ (metX6_numberByBands l D G b hb (gUp σ105 b 4 (0 : Int)) μ q131 (q114 + (1 : Int)) q136 e136) (g_cwV (C := RX6) 2 hts q_ml_X6_77 q_im_X6_numberByBands q_se_X6_numberByBands q_in_X6 q_co_X6_numberByBands ⟨rfl, rfl⟩ (by decide +kernel) ⟨Nat.le_of_ble_eq_true rfl, Nat.le_of_ble_eq_true rfl⟩) hX hH hb.k rfl rfl hl.1 rfl (Nat.le_of_ble_eq_true rfl) dX6_print_136 ⟨Nat.zero_le _, Nat.zero_le _⟩ (fun H locs hH => ?_)
      refine lv_goto (tgt := 152) hx hb0 dX6_print_139 (by decide) ?_
      exact g_vretS hx hb0 hr hH hlocks dX6_print_152 h
  have hL35 : ∀ (f35 : Nat) (x4_35 : Int) (σ35 : gSt) (H : Heap) (locs : List Loc) (ls : Array Slot), gH D G s H locs σ35 μ → lv_has ls 7 [(4, .int (gI x4_35)), (0, .ref (G.1 b)), (1, .ref (G.1 p1)), (2, .ref (G.1 p2)), (3, .int (gI a3))] → (DX6_print_L35 (DX6_print_K105 b p1 p2 a3) b p1 p2 a3 f35 x4_35 σ35) = some σ' → W p l e (headSpec (gWs yX6_print cX6_print 7 none) ({ frames := 3, cells := 0, slots := 0, locals := 69 } : Room)).room s m ([.ref (G.1 b), .ref (G.1 p1), .ref (G.1 p2), .int (gI a3)] : List Value).toArray below meth c H locs 0 0 (MQ below (gQv D G σ' μ) ([.ref (G.1 b), .ref (G.1 p1), .ref (G.1 p2), .int (gI a3)] : List Value).toArray s 0 0 (gA G)) (F0 m 35 ls []) := by
    intro f35
    induction f35 with
    | zero => intro x4_35 σ35 H locs ls hH hl h; cases h
    | succ f35 ih35 =>
      intro x4_35 σ35 H locs ls hH hl h
      unfold DX6_print_L35 at h
      refine lv_iload hx hb0 dX6_print_35 (lv_at hl 0 rfl) ?_
      refine lv_aload_n hx hb0 dX6_print_37 rfl (lv_at hl 2 rfl) ?_
      obtain ⟨q38, e38, h⟩ := gBind_some h
      refine g_callVi (k := p1) (T := TX5) (N := 8) (As := []) (rest := [.int (gI x4_35)]) ⟨hx, hb0, hml, hown, hts⟩ (metX5_taskCount l D G p1 hp1 σ35 μ q38 e38) (g_cwV (C := RX5) 0 hts q_ml_X6_56 q_im_X5_taskCount q_se_X5_taskCount q_in_X5 q_co_X5_taskCount ⟨rfl, rfl⟩ (by decide +kernel) ⟨Nat.le_of_ble_eq_true rfl, Nat.le_of_ble_eq_true rfl⟩) hX hH hp1.k rfl rfl hl.1 rfl (Nat.le_of_ble_eq_true rfl) dX6_print_38 ⟨Nat.zero_le _, Nat.zero_le _⟩ (fun H locs hH => ?_)
      refine g_icmp_ge (tgt := 105) hx hb0 dX6_print_41 (by decide) h (fun h => ?_) (fun h => ?_)
      · exact hK105 _ _ _ _ hH (lv_sub hl [1, 2, 3, 4] rfl) h
      · refine lv_aload_n hx hb0 dX6_print_44 rfl (lv_at hl 2 rfl) ?_
        refine lv_iload hx hb0 dX6_print_45 (lv_at hl 0 rfl) ?_
        obtain ⟨q47, e47, h⟩ := gBind_some h
        refine g_callVi (k := p1) (T := TX5) (N := 8) (As := [.int (gI x4_35)]) (rest := []) ⟨hx, hb0, hml, hown, hts⟩ (metX5_last l D G p1 hp1 σ35 μ x4_35 q47 e47) (g_cwV (C := RX5) 1 hts q_ml_X6_61 q_im_X5_last q_se_X5_last q_in_X5 q_co_X5_last ⟨rfl, rfl⟩ (by decide +kernel) ⟨Nat.le_of_ble_eq_true rfl, Nat.le_of_ble_eq_true rfl⟩) hX hH hp1.k rfl rfl hl.1 rfl (Nat.le_of_ble_eq_true rfl) dX6_print_47 ⟨Nat.zero_le _, Nat.zero_le _⟩ (fun H locs hH => ?_)
        refine lv_iload_n hx hb0 dX6_print_50 rfl (lv_at hl 4 rfl) ?_
        obtain ⟨q51, e51, h⟩ := gBind_some h
        refine g_callNi (As := [.int (gI q47), .int (gI a3)]) (rest := []) ⟨hx, hb0, hml, hown, hts⟩ (metX8_stripOfDay l D G σ35 μ q47 a3 q51 e51) (g_cwN (own := RX6) (idx := 64) (y := yX8_stripOfDay) (host := RX8) 2 hts hX (by decide +kernel) q_st_X8_stripOfDay q_in_X8 q_co_X8_stripOfDay ⟨rfl, rfl⟩ (by decide +kernel) ⟨Nat.le_of_ble_eq_true rfl, Nat.le_of_ble_eq_true rfl⟩) hX hH rfl hl.1 rfl (Nat.le_of_ble_eq_true rfl) dX6_print_51 ⟨Nat.zero_le _, Nat.zero_le _⟩ (fun H locs hH => ?_)
        refine lv_istore (lv' := [(5, .int (gI q51)), (4, .int (gI x4_35)), (0, .ref (G.1 b)), (1, .ref (G.1 p1)), (2, .ref (G.1 p2)), (3, .int (gI a3))]) hx hb0 dX6_print_54 hl (by decide) rfl (fun ls hl => ?_)
        refine lv_aload_n hx hb0 dX6_print_56 rfl (lv_at hl 3 rfl) ?_
        refine lv_iload hx hb0 dX6_print_57 (lv_at hl 1 rfl) ?_
        obtain ⟨q59, e59, h⟩ := gBind_some h
        refine g_callVi (k := p1) (T := TX5) (N := 8) (As := [.int (gI x4_35)]) (rest := []) ⟨hx, hb0, hml, hown, hts⟩ (metX5_first l D G p1 hp1 σ35 μ x4_35 q59 e59) (g_cwV (C := RX5) 1 hts q_ml_X6_67 q_im_X5_first q_se_X5_first q_in_X5 q_co_X5_first ⟨rfl, rfl⟩ (by decide +kernel) ⟨Nat.le_of_ble_eq_true rfl, Nat.le_of_ble_eq_true rfl⟩) hX hH hp1.k rfl rfl hl.1 rfl (Nat.le_of_ble_eq_true rfl) dX6_print_59 ⟨Nat.zero_le _, Nat.zero_le _⟩ (fun H locs hH => ?_)
        refine lv_iload_n hx hb0 dX6_print_62 rfl (lv_at hl 5 rfl) ?_
        obtain ⟨q63, e63, h⟩ := gBind_some h
        refine g_callNi (As := [.int (gI q59), .int (gI a3)]) (rest := []) ⟨hx, hb0, hml, hown, hts⟩ (metX8_stripOfDay l D G σ35 μ q59 a3 q63 e63) (g_cwN (own := RX6) (idx := 64) (y := yX8_stripOfDay) (host := RX8) 2 hts hX (by decide +kernel) q_st_X8_stripOfDay q_in_X8 q_co_X8_stripOfDay ⟨rfl, rfl⟩ (by decide +kernel) ⟨Nat.le_of_ble_eq_true rfl, Nat.le_of_ble_eq_true rfl⟩) hX hH rfl hl.1 rfl (Nat.le_of_ble_eq_true rfl) dX6_print_63 ⟨Nat.zero_le _, Nat.zero_le _⟩ (fun H locs hH => ?_)
        refine lv_istore (lv' := [(6, .int (gI q63)), (5, .int (gI q51)), (4, .int (gI x4_35)), (0, .ref (G.1 b)), (1, .ref (G.1 p1)), (2, .ref (G.1 p2)), (3, .int (gI a3))]) hx hb0 dX6_print_66 hl (by decide) rfl (fun ls hl => ?_)
        have hK99 : ∀ (σ99 : gSt) (H : Heap) (locs : List Loc) (ls : Array Slot), gH D G s H locs σ99 μ → lv_has ls 7 [(4, .int (gI x4_35)), (0, .ref (G.1 b)), (1, .ref (G.1 p1)), (2, .ref (G.1 p2)), (3, .int (gI a3))] → (DX6_print_K99 (DX6_print_L35 (DX6_print_K105 b p1 p2 a3) b p1 p2 a3 f35) x4_35 σ99) = some σ' → W p l e (headSpec (gWs yX6_print cX6_print 7 none) ({ frames := 3, cells := 0, slots := 0, locals := 69 } : Room)).room s m ([.ref (G.1 b), .ref (G.1 p1), .ref (G.1 p2), .int (gI a3)] : List Value).toArray below meth c H locs 0 0 (MQ below (gQv D G σ' μ) ([.ref (G.1 b), .ref (G.1 p1), .ref (G.1 p2), .int (gI a3)] : List Value).toArray s 0 0 (gA G)) (F0 m 99 ls []) := by
          intro σ99 H locs ls hH hl h
          unfold DX6_print_K99 at h
          refine g_iinc (k := 0) (n := (1 : Int)) (lv' := [(4, .int (gI (x4_35 + (1 : Int)))), (0, .ref (G.1 b)), (1, .ref (G.1 p1)), (2, .ref (G.1 p2)), (3, .int (gI a3))]) hx hb0 dX6_print_99 hl rfl (by decide) rfl (fun ls hl => ?_)
          refine lv_goto (tgt := 35) hx hb0 dX6_print_102 (by decide) ?_
          exact ih35 _ _ _ _ _ hH (lv_sub hl [0, 1, 2, 3, 4] rfl) h
        have hL68 : ∀ (f68 : Nat) (x6_68 : Int) (σ68 : gSt) (H : Heap) (locs : List Loc) (ls : Array Slot), gH D G s H locs σ68 μ → lv_has ls 7 [(6, .int (gI x6_68)), (5, .int (gI q51)), (4, .int (gI x4_35)), (0, .ref (G.1 b)), (1, .ref (G.1 p1)), (2, .ref (G.1 p2)), (3, .int (gI a3))] → (DX6_print_L68 (DX6_print_K99 (DX6_print_L35 (DX6_print_K105 b p1 p2 a3) b p1 p2 a3 f35) x4_35) b p2 x4_35 q51 f68 x6_68 σ68) = some σ' → W p l e (headSpec (gWs yX6_print cX6_print 7 none) ({ frames := 3, cells := 0, slots := 0, locals := 69 } : Room)).room s m ([.ref (G.1 b), .ref (G.1 p1), .ref (G.1 p2), .int (gI a3)] : List Value).toArray below meth c H locs 0 0 (MQ below (gQv D G σ' μ) ([.ref (G.1 b), .ref (G.1 p1), .ref (G.1 p2), .int (gI a3)] : List Value).toArray s 0 0 (gA G)) (F0 m 68 ls []) := by
          intro f68
          induction f68 with
          | zero => intro x6_68 σ68 H locs ls hH hl h; cases h
          | succ f68 ih68 =>
            intro x6_68 σ68 H locs ls hH hl h
            unfold DX6_print_L68 at h
            refine lv_iload hx hb0 dX6_print_68 (lv_at hl 0 rfl) ?_
            refine lv_iload hx hb0 dX6_print_70 (lv_at hl 1 rfl) ?_
            refine g_icmp_gt (tgt := 99) hx hb0 dX6_print_72 (by decide) h (fun h => ?_) (fun h => ?_)
            · exact hK99 _ _ _ _ hH (lv_sub hl [2, 3, 4, 5, 6] rfl) h
            · refine lv_aload_n hx hb0 dX6_print_75 rfl (lv_at hl 3 rfl) ?_
              refine g_getR hx hb0 hts q_ws_X6 hown hX hH (C := RX6) (T := TX6) (N := 5) (k := b) (i := 0) (j := (b + 1)) hb.k rfl (by decide) (hts _ q_fl_X6_14) rfl rfl dX6_print_76 ?_
              refine lv_aload_n hx hb0 dX6_print_79 rfl (lv_at hl 5 rfl) ?_
              refine lv_iload hx hb0 dX6_print_80 (lv_at hl 2 rfl) ?_
              obtain ⟨q82, e82, h⟩ := gBind_some h
              refine g_callVi (k := p2) (T := TX0) (N := 8) (As := [.int (gI x4_35)]) (rest := [.ref (G.1 (b + 1))]) ⟨hx, hb0, hml, hown, hts⟩ (metX0_bandOf l D G p2 hp2 σ68 μ x4_35 q82 e82) (g_cwV (C := RX0) 1 hts q_ml_X6_70 q_im_X0_bandOf q_se_X0_bandOf q_in_X0 q_co_X0_bandOf ⟨rfl, rfl⟩ (by decide +kernel) ⟨Nat.le_of_ble_eq_true rfl, Nat.le_of_ble_eq_true rfl⟩) hX hH hp2.k rfl rfl hl.1 rfl (Nat.le_of_ble_eq_true rfl) dX6_print_82 ⟨Nat.zero_le _, Nat.zero_le _⟩ (fun H locs hH => ?_)
              refine lv_iload hx hb0 dX6_print_85 (lv_at hl 0 rfl) ?_
              obtain ⟨q87, e87, h⟩ := gBind_some h
              refine g_callSi (As := [.int (gI q82), .int (gI x6_68)]) (rest := [.ref (G.1 (b + 1))]) ⟨hx, hb0, hml, hown, hts⟩ (metX6_spot l D G σ68 μ q82 x6_68 q87 e87) (g_cwS 2 hts q_ml_X6_43 q_st_X6_spot q_in_X6 q_co_X6_spot ⟨rfl, rfl⟩ (by decide +kernel) ⟨Nat.le_of_ble_eq_true rfl, Nat.le_of_ble_eq_true rfl⟩) hX hH rfl hl.1 rfl (Nat.le_of_ble_eq_true rfl) dX6_print_87 ⟨Nat.zero_le _, Nat.zero_le _⟩ (fun H locs hH => ?_)
              obtain ⟨q90, e90, h⟩ := gBind_some h
              refine g_callVv (k := (b + 1)) (T := TX4) (N := 1) (As := [.int (gI q87)]) (rest := []) ⟨hx, hb0, hml, hown, hts⟩ (metX4_increase l D G (b + 1) 1248 (hb.n0) σ68 μ q87 q90 e90) (g_cwV (C := RX4) 1 hts q_ml_X6_71 q_im_X4_increase q_se_X4_increase q_in_X4 q_co_X4_increase ⟨rfl, rfl⟩ (by decide +kernel) ⟨Nat.le_of_ble_eq_true rfl, Nat.le_of_ble_eq_true rfl⟩) hX hH ((hb.n0)).1 rfl rfl hl.1 rfl (Nat.le_of_ble_eq_true rfl) dX6_print_90 ⟨Nat.zero_le _, Nat.zero_le _⟩ (fun H locs hH => ?_)
              refine g_iinc (k := 0) (n := (1 : Int)) (lv' := [(6, .int (gI (x6_68 + (1 : Int)))), (5, .int (gI q51)), (4, .int (gI x4_35)), (0, .ref (G.1 b)), (1, .ref (G.1 p1)), (2, .ref (G.1 p2)), (3, .int (gI a3))]) hx hb0 dX6_print_93 hl rfl (by decide) rfl (fun ls hl => ?_)
              refine lv_goto (tgt := 68) hx hb0 dX6_print_96 (by decide) ?_
              exact ih68 _ _ _ _ _ hH (lv_sub hl [0, 1, 2, 3, 4, 5, 6] rfl) h
        exact hL68 gFuel _ _ _ _ _ hH (lv_sub hl [0, 1, 2, 3, 4, 5, 6] rfl) h
  exact hL35 gFuel _ _ _ _ _ hH (lv_sub hl [0, 1, 2, 3, 4] rfl) h
def DX6_count (b : Nat) (σ : gSt) : Option (Int) :=
  some (σ b 4)
set_option maxHeartbeats 4000000 in
set_option maxRecDepth 100000 in
theorem metX6_count (l : Launch) (D : va_G) (G : gAd) (b : Nat) (hb : gSheets b) (σ : gSt) (μ : gLg) (r : Int) (h : DX6_count b σ = some r) : Met l yX6_count (gWs yX6_count cX6_count 1 (some (Jvm.ClassFile.FieldType.int))) ({ frames := 0, cells := 0, slots := 0, locals := 0 } : Room) (gPc D G [.ref (G.1 b)] σ μ) (gQi D G r σ μ) 0 0 (gA G) := by
  refine Met.ofW (cc := cX6_count) (maxL := 1) (ret := (some (Jvm.ClassFile.FieldType.int))) (by decide) rfl ?_
  intro p e s m args below meth c s₁ B hml hv
  obtain ⟨rfl, hP, hX⟩ := hv
  have hx := B.exec
  have hb0 := B.bytes
  have hr := B.returns
  have hts0 := atoms_spec (ws := (gWs yX6_count cX6_count 1 (some (Jvm.ClassFile.FieldType.int)))) B.pre
  have hts : ∀ w ∈ gLW, w.before _ s = true := fun w hw => hts0 w (List.mem_cons_of_mem _ hw)
  have hown : s.vm.findClass RX6 = some m.cls := findClass_of_methodNamed B.named
  have hlocks := B.notSynchronized
  have hH : gH D G s s.heap [] σ μ := ⟨hP, va_S.rf⟩
  have hl := lv_entry ([.ref (G.1 b)]) (n := 1) (Nat.le_of_ble_eq_true rfl)
  rw [lg_entry_eq]
  generalize (lg_sl ([.ref (G.1 b)]) ++ List.replicate (1 - (lg_sl ([.ref (G.1 b)])).length) Slot.unset).toArray = ls at hl ⊢
  have hl : lv_has ls 1 [(0, .ref (G.1 b))] := hl
  unfold DX6_count at h
  refine lv_aload_n hx hb0 dX6_count_0 rfl (lv_at hl 0 rfl) ?_
  refine g_getI hx hb0 hts q_ws_X6 hown hX hH (C := RX6) (T := TX6) (N := 5) (k := b) (i := 4) hb.k rfl (by decide) (hts _ q_fl_X6_29) rfl rfl dX6_count_1 ?_
  exact g_iretP hx hb0 hr hH hlocks dX6_count_4 h
def DX5_arrowCount (b : Nat) (σ : gSt) : Option (Int) :=
  some (σ b 7)
set_option maxHeartbeats 4000000 in
set_option maxRecDepth 100000 in
theorem metX5_arrowCount (l : Launch) (D : va_G) (G : gAd) (b : Nat) (hb : gPlan b) (σ : gSt) (μ : gLg) (r : Int) (h : DX5_arrowCount b σ = some r) : Met l yX5_arrowCount (gWs yX5_arrowCount cX5_arrowCount 1 (some (Jvm.ClassFile.FieldType.int))) ({ frames := 0, cells := 0, slots := 0, locals := 0 } : Room) (gPc D G [.ref (G.1 b)] σ μ) (gQi D G r σ μ) 0 0 (gA G) := by
  refine Met.ofW (cc := cX5_arrowCount) (maxL := 1) (ret := (some (Jvm.ClassFile.FieldType.int))) (by decide) rfl ?_
  intro p e s m args below meth c s₁ B hml hv
  obtain ⟨rfl, hP, hX⟩ := hv
  have hx := B.exec
  have hb0 := B.bytes
  have hr := B.returns
  have hts0 := atoms_spec (ws := (gWs yX5_arrowCount cX5_arrowCount 1 (some (Jvm.ClassFile.FieldType.int)))) B.pre
  have hts : ∀ w ∈ gLW, w.before _ s = true := fun w hw => hts0 w (List.mem_cons_of_mem _ hw)
  have hown : s.vm.findClass RX5 = some m.cls := findClass_of_methodNamed B.named
  have hlocks := B.notSynchronized
  have hH : gH D G s s.heap [] σ μ := ⟨hP, va_S.rf⟩
  have hl := lv_entry ([.ref (G.1 b)]) (n := 1) (Nat.le_of_ble_eq_true rfl)
  rw [lg_entry_eq]
  generalize (lg_sl ([.ref (G.1 b)]) ++ List.replicate (1 - (lg_sl ([.ref (G.1 b)])).length) Slot.unset).toArray = ls at hl ⊢
  have hl : lv_has ls 1 [(0, .ref (G.1 b))] := hl
  unfold DX5_arrowCount at h
  refine lv_aload_n hx hb0 dX5_arrowCount_0 rfl (lv_at hl 0 rfl) ?_
  refine g_getI hx hb0 hts q_ws_X5 hown hX hH (C := RX5) (T := TX5) (N := 8) (k := b) (i := 7) hb.k rfl (by decide) (hts _ q_fl_X5_51) rfl rfl dX5_arrowCount_1 ?_
  exact g_iretP hx hb0 hr hH hlocks dX5_arrowCount_4 h
def DX5_from (b : Nat) (σ : gSt) (a1 : Int) : Option (Int) :=
  (DX4_at (b + 9) 30 σ a1).bind fun q5 => some q5
set_option maxHeartbeats 4000000 in
set_option maxRecDepth 100000 in
theorem metX5_from (l : Launch) (D : va_G) (G : gAd) (b : Nat) (hb : gPlan b) (σ : gSt) (μ : gLg) (a1 : Int) (r : Int) (h : DX5_from b σ a1 = some r) : Met l yX5_from (gWs yX5_from cX5_from 2 (some (Jvm.ClassFile.FieldType.int))) ({ frames := 1, cells := 0, slots := 0, locals := 21 } : Room) (gPc D G [.ref (G.1 b), .int (gI a1)] σ μ) (gQi D G r σ μ) 0 0 (gA G) := by
  refine Met.ofW (cc := cX5_from) (maxL := 2) (ret := (some (Jvm.ClassFile.FieldType.int))) (by decide) rfl ?_
  intro p e s m args below meth c s₁ B hml hv
  obtain ⟨rfl, hP, hX⟩ := hv
  have hx := B.exec
  have hb0 := B.bytes
  have hr := B.returns
  have hts0 := atoms_spec (ws := (gWs yX5_from cX5_from 2 (some (Jvm.ClassFile.FieldType.int)))) B.pre
  have hts : ∀ w ∈ gLW, w.before _ s = true := fun w hw => hts0 w (List.mem_cons_of_mem _ hw)
  have hown : s.vm.findClass RX5 = some m.cls := findClass_of_methodNamed B.named
  have hlocks := B.notSynchronized
  have hH : gH D G s s.heap [] σ μ := ⟨hP, va_S.rf⟩
  have hl := lv_entry ([.ref (G.1 b), .int (gI a1)]) (n := 2) (Nat.le_of_ble_eq_true rfl)
  rw [lg_entry_eq]
  generalize (lg_sl ([.ref (G.1 b), .int (gI a1)]) ++ List.replicate (2 - (lg_sl ([.ref (G.1 b), .int (gI a1)])).length) Slot.unset).toArray = ls at hl ⊢
  have hl : lv_has ls 2 [(0, .ref (G.1 b)), (1, .int (gI a1))] := hl
  unfold DX5_from at h
  refine lv_aload_n hx hb0 dX5_from_0 rfl (lv_at hl 0 rfl) ?_
  refine g_getR hx hb0 hts q_ws_X5 hown hX hH (C := RX5) (T := TX5) (N := 8) (k := b) (i := 4) (j := (b + 9)) hb.k rfl (by decide) (hts _ q_fl_X5_29) rfl rfl dX5_from_1 ?_
  refine lv_iload_n hx hb0 dX5_from_4 rfl (lv_at hl 1 rfl) ?_
  obtain ⟨q5, e5, h⟩ := gBind_some h
  refine g_callVi (k := (b + 9)) (T := TX4) (N := 1) (As := [.int (gI a1)]) (rest := []) ⟨hx, hb0, hml, hown, hts⟩ (metX4_at l D G (b + 9) 30 (hb.n4) σ μ a1 q5 e5) (g_cwV (C := RX4) 1 hts q_ml_X5_43 q_im_X4_at q_se_X4_at q_in_X4 q_co_X4_at ⟨rfl, rfl⟩ (by decide +kernel) ⟨Nat.le_of_ble_eq_true rfl, Nat.le_of_ble_eq_true rfl⟩) hX hH ((hb.n4)).1 rfl rfl hl.1 rfl (Nat.le_of_ble_eq_true rfl) dX5_from_5 ⟨Nat.zero_le _, Nat.zero_le _⟩ (fun H locs hH => ?_)
  exact g_iretP hx hb0 hr hH hlocks dX5_from_8 h
def DX5_to (b : Nat) (σ : gSt) (a1 : Int) : Option (Int) :=
  (DX4_at (b + 11) 30 σ a1).bind fun q5 => some q5
set_option maxHeartbeats 4000000 in
set_option maxRecDepth 100000 in
theorem metX5_to (l : Launch) (D : va_G) (G : gAd) (b : Nat) (hb : gPlan b) (σ : gSt) (μ : gLg) (a1 : Int) (r : Int) (h : DX5_to b σ a1 = some r) : Met l yX5_to (gWs yX5_to cX5_to 2 (some (Jvm.ClassFile.FieldType.int))) ({ frames := 1, cells := 0, slots := 0, locals := 21 } : Room) (gPc D G [.ref (G.1 b), .int (gI a1)] σ μ) (gQi D G r σ μ) 0 0 (gA G) := by
  refine Met.ofW (cc := cX5_to) (maxL := 2) (ret := (some (Jvm.ClassFile.FieldType.int))) (by decide) rfl ?_
  intro p e s m args below meth c s₁ B hml hv
  obtain ⟨rfl, hP, hX⟩ := hv
  have hx := B.exec
  have hb0 := B.bytes
  have hr := B.returns
  have hts0 := atoms_spec (ws := (gWs yX5_to cX5_to 2 (some (Jvm.ClassFile.FieldType.int)))) B.pre
  have hts : ∀ w ∈ gLW, w.before _ s = true := fun w hw => hts0 w (List.mem_cons_of_mem _ hw)
  have hown : s.vm.findClass RX5 = some m.cls := findClass_of_methodNamed B.named
  have hlocks := B.notSynchronized
  have hH : gH D G s s.heap [] σ μ := ⟨hP, va_S.rf⟩
  have hl := lv_entry ([.ref (G.1 b), .int (gI a1)]) (n := 2) (Nat.le_of_ble_eq_true rfl)
  rw [lg_entry_eq]
  generalize (lg_sl ([.ref (G.1 b), .int (gI a1)]) ++ List.replicate (2 - (lg_sl ([.ref (G.1 b), .int (gI a1)])).length) Slot.unset).toArray = ls at hl ⊢
  have hl : lv_has ls 2 [(0, .ref (G.1 b)), (1, .int (gI a1))] := hl
  unfold DX5_to at h
  refine lv_aload_n hx hb0 dX5_to_0 rfl (lv_at hl 0 rfl) ?_
  refine g_getR hx hb0 hts q_ws_X5 hown hX hH (C := RX5) (T := TX5) (N := 8) (k := b) (i := 5) (j := (b + 11)) hb.k rfl (by decide) (hts _ q_fl_X5_32) rfl rfl dX5_to_1 ?_
  refine lv_iload_n hx hb0 dX5_to_4 rfl (lv_at hl 1 rfl) ?_
  obtain ⟨q5, e5, h⟩ := gBind_some h
  refine g_callVi (k := (b + 11)) (T := TX4) (N := 1) (As := [.int (gI a1)]) (rest := []) ⟨hx, hb0, hml, hown, hts⟩ (metX4_at l D G (b + 11) 30 (hb.n5) σ μ a1 q5 e5) (g_cwV (C := RX4) 1 hts q_ml_X5_43 q_im_X4_at q_se_X4_at q_in_X4 q_co_X4_at ⟨rfl, rfl⟩ (by decide +kernel) ⟨Nat.le_of_ble_eq_true rfl, Nat.le_of_ble_eq_true rfl⟩) hX hH ((hb.n5)).1 rfl rfl hl.1 rfl (Nat.le_of_ble_eq_true rfl) dX5_to_5 ⟨Nat.zero_le _, Nat.zero_le _⟩ (fun H locs hH => ?_)
  exact g_iretP hx hb0 hr hH hlocks dX5_to_8 h
def DX6_numberAt (b : Nat) (σ : gSt) (a1 : Int) (a2 : Int) : Option (Int) :=
  (DX6_spot σ a1 a2).bind fun q6 => (DX4_at (b + 3) 1248 σ q6).bind fun q9 => some q9
set_option maxHeartbeats 4000000 in
set_option maxRecDepth 100000 in
theorem metX6_numberAt (l : Launch) (D : va_G) (G : gAd) (b : Nat) (hb : gSheets b) (σ : gSt) (μ : gLg) (a1 : Int) (a2 : Int) (r : Int) (h : DX6_numberAt b σ a1 a2 = some r) : Met l yX6_numberAt (gWs yX6_numberAt cX6_numberAt 3 (some (Jvm.ClassFile.FieldType.int))) ({ frames := 1, cells := 0, slots := 0, locals := 22 } : Room) (gPc D G [.ref (G.1 b), .int (gI a1), .int (gI a2)] σ μ) (gQi D G r σ μ) 0 0 (gA G) := by
  refine Met.ofW (cc := cX6_numberAt) (maxL := 3) (ret := (some (Jvm.ClassFile.FieldType.int))) (by decide) rfl ?_
  intro p e s m args below meth c s₁ B hml hv
  obtain ⟨rfl, hP, hX⟩ := hv
  have hx := B.exec
  have hb0 := B.bytes
  have hr := B.returns
  have hts0 := atoms_spec (ws := (gWs yX6_numberAt cX6_numberAt 3 (some (Jvm.ClassFile.FieldType.int)))) B.pre
  have hts : ∀ w ∈ gLW, w.before _ s = true := fun w hw => hts0 w (List.mem_cons_of_mem _ hw)
  have hown : s.vm.findClass RX6 = some m.cls := findClass_of_methodNamed B.named
  have hlocks := B.notSynchronized
  have hH : gH D G s s.heap [] σ μ := ⟨hP, va_S.rf⟩
  have hl := lv_entry ([.ref (G.1 b), .int (gI a1), .int (gI a2)]) (n := 3) (Nat.le_of_ble_eq_true rfl)
  rw [lg_entry_eq]
  generalize (lg_sl ([.ref (G.1 b), .int (gI a1), .int (gI a2)]) ++ List.replicate (3 - (lg_sl ([.ref (G.1 b), .int (gI a1), .int (gI a2)])).length) Slot.unset).toArray = ls at hl ⊢
  have hl : lv_has ls 3 [(0, .ref (G.1 b)), (1, .int (gI a1)), (2, .int (gI a2))] := hl
  unfold DX6_numberAt at h
  refine lv_aload_n hx hb0 dX6_numberAt_0 rfl (lv_at hl 0 rfl) ?_
  refine g_getR hx hb0 hts q_ws_X6 hown hX hH (C := RX6) (T := TX6) (N := 5) (k := b) (i := 1) (j := (b + 3)) hb.k rfl (by decide) (hts _ q_fl_X6_20) rfl rfl dX6_numberAt_1 ?_
  refine lv_iload_n hx hb0 dX6_numberAt_4 rfl (lv_at hl 1 rfl) ?_
  refine lv_iload_n hx hb0 dX6_numberAt_5 rfl (lv_at hl 2 rfl) ?_
  obtain ⟨q6, e6, h⟩ := gBind_some h
  refine g_callSi (As := [.int (gI a1), .int (gI a2)]) (rest := [.ref (G.1 (b + 3))]) ⟨hx, hb0, hml, hown, hts⟩ (metX6_spot l D G σ μ a1 a2 q6 e6) (g_cwS 2 hts q_ml_X6_43 q_st_X6_spot q_in_X6 q_co_X6_spot ⟨rfl, rfl⟩ (by decide +kernel) ⟨Nat.le_of_ble_eq_true rfl, Nat.le_of_ble_eq_true rfl⟩) hX hH rfl hl.1 rfl (Nat.le_of_ble_eq_true rfl) dX6_numberAt_6 ⟨Nat.zero_le _, Nat.zero_le _⟩ (fun H locs hH => ?_)
  obtain ⟨q9, e9, h⟩ := gBind_some h
  refine g_callVi (k := (b + 3)) (T := TX4) (N := 1) (As := [.int (gI q6)]) (rest := []) ⟨hx, hb0, hml, hown, hts⟩ (metX4_at l D G (b + 3) 1248 (hb.n1) σ μ q6 q9 e9) (g_cwV (C := RX4) 1 hts q_ml_X6_33 q_im_X4_at q_se_X4_at q_in_X4 q_co_X4_at ⟨rfl, rfl⟩ (by decide +kernel) ⟨Nat.le_of_ble_eq_true rfl, Nat.le_of_ble_eq_true rfl⟩) hX hH ((hb.n1)).1 rfl rfl hl.1 rfl (Nat.le_of_ble_eq_true rfl) dX6_numberAt_9 ⟨Nat.zero_le _, Nat.zero_le _⟩ (fun H locs hH => ?_)
  exact g_iretP hx hb0 hr hH hlocks dX6_numberAt_12 h
def DX2_drawInside (b : Nat) (σ : gSt) (a1 : Int) (a2 : Int) : Option (gSt) :=
  (DX4_put (b + 5) 30 σ a1 (-1 : Int)).bind fun q6 => (DX4_increase (b + 11) 312 q6 a2).bind fun q14 => some q14
set_option maxHeartbeats 4000000 in
set_option maxRecDepth 100000 in
theorem metX2_drawInside (l : Launch) (D : va_G) (G : gAd) (b : Nat) (hb : gExits b) (σ : gSt) (μ : gLg) (a1 : Int) (a2 : Int) (σ' : gSt) (h : DX2_drawInside b σ a1 a2 = some σ') : Met l yX2_drawInside (gWs yX2_drawInside cX2_drawInside 3 none) ({ frames := 2, cells := 0, slots := 0, locals := 43 } : Room) (gPc D G [.ref (G.1 b), .int (gI a1), .int (gI a2)] σ μ) (gQv D G σ' μ) 0 0 (gA G) := by
  refine Met.ofW (cc := cX2_drawInside) (maxL := 3) (ret := none) (by decide) rfl ?_
  intro p e s m args below meth c s₁ B hml hv
  obtain ⟨rfl, hP, hX⟩ := hv
  have hx := B.exec
  have hb0 := B.bytes
  have hr := B.returns
  have hts0 := atoms_spec (ws := (gWs yX2_drawInside cX2_drawInside 3 none)) B.pre
  have hts : ∀ w ∈ gLW, w.before _ s = true := fun w hw => hts0 w (List.mem_cons_of_mem _ hw)
  have hown : s.vm.findClass RX2 = some m.cls := findClass_of_methodNamed B.named
  have hlocks := B.notSynchronized
  have hH : gH D G s s.heap [] σ μ := ⟨hP, va_S.rf⟩
  have hl := lv_entry ([.ref (G.1 b), .int (gI a1), .int (gI a2)]) (n := 3) (Nat.le_of_ble_eq_true rfl)
  rw [lg_entry_eq]
  generalize (lg_sl ([.ref (G.1 b), .int (gI a1), .int (gI a2)]) ++ List.replicate (3 - (lg_sl ([.ref (G.1 b), .int (gI a1), .int (gI a2)])).length) Slot.unset).toArray = ls at hl ⊢
  have hl : lv_has ls 3 [(0, .ref (G.1 b)), (1, .int (gI a1)), (2, .int (gI a2))] := hl
  unfold DX2_drawInside at h
  refine lv_aload_n hx hb0 dX2_drawInside_0 rfl (lv_at hl 0 rfl) ?_
  refine g_getR hx hb0 hts q_ws_X2 hown hX hH (C := RX2) (T := TX2) (N := 7) (k := b) (i := 2) (j := (b + 5)) hb.k rfl (by decide) (hts _ q_fl_X2_23) rfl rfl dX2_drawInside_1 ?_
  refine lv_iload_n hx hb0 dX2_drawInside_4 rfl (lv_at hl 1 rfl) ?_
  refine lv_iconst (v := gI (-1 : Int)) hx hb0 dX2_drawInside_5 (by decide) ?_
  obtain ⟨q6, e6, h⟩ := gBind_some h
  refine g_callVv (k := (b + 5)) (T := TX4) (N := 1) (As := [.int (gI a1), .int (gI (-1 : Int))]) (rest := []) ⟨hx, hb0, hml, hown, hts⟩ (metX4_put l D G (b + 5) 30 (hb.n2) σ μ a1 (-1 : Int) q6 e6) (g_cwV (C := RX4) 2 hts q_ml_X2_84 q_im_X4_put q_se_X4_put q_in_X4 q_co_X4_put ⟨rfl, rfl⟩ (by decide +kernel) ⟨Nat.le_of_ble_eq_true rfl, Nat.le_of_ble_eq_true rfl⟩) hX hH ((hb.n2)).1 rfl rfl hl.1 rfl (Nat.le_of_ble_eq_true rfl) dX2_drawInside_6 ⟨Nat.zero_le _, Nat.zero_le _⟩ (fun H locs hH => ?_)
  refine lv_aload_n hx hb0 dX2_drawInside_9 rfl (lv_at hl 0 rfl) ?_
  refine g_getR hx hb0 hts q_ws_X2 hown hX hH (C := RX2) (T := TX2) (N := 7) (k := b) (i := 5) (j := (b + 11)) hb.k rfl (by decide) (hts _ q_fl_X2_32) rfl rfl dX2_drawInside_10 ?_
  refine lv_iload_n hx hb0 dX2_drawInside_13 rfl (lv_at hl 2 rfl) ?_
  obtain ⟨q14, e14, h⟩ := gBind_some h
  refine g_callVv (k := (b + 11)) (T := TX4) (N := 1) (As := [.int (gI a2)]) (rest := []) ⟨hx, hb0, hml, hown, hts⟩ (metX4_increase l D G (b + 11) 312 (hb.n5) q6 μ a2 q14 e14) (g_cwV (C := RX4) 1 hts q_ml_X2_94 q_im_X4_increase q_se_X4_increase q_in_X4 q_co_X4_increase ⟨rfl, rfl⟩ (by decide +kernel) ⟨Nat.le_of_ble_eq_true rfl, Nat.le_of_ble_eq_true rfl⟩) hX hH ((hb.n5)).1 rfl rfl hl.1 rfl (Nat.le_of_ble_eq_true rfl) dX2_drawInside_14 ⟨Nat.zero_le _, Nat.zero_le _⟩ (fun H locs hH => ?_)
  exact g_vretS hx hb0 hr hH hlocks dX2_drawInside_17 h
def DX2_drawThroughExit (b : Nat) (σ : gSt) (a1 : Int) (a2 : Int) (a3 : Int) : Option (gSt) :=
  (DX4_put (b + 5) 30 (gUp σ b 6 ((σ b 6) + (1 : Int))) a1 ((gUp σ b 6 ((σ b 6) + (1 : Int))) b 6)).bind fun q19 => (DX4_put (b + 7) 31 q19 (q19 b 6) a1).bind fun q31 => (DX4_increase (b + 9) 312 q31 a2).bind fun q39 => (DX4_increase (b + 9) 312 q39 a3).bind fun q47 => some q47
set_option maxHeartbeats 4000000 in
set_option maxRecDepth 100000 in
theorem metX2_drawThroughExit (l : Launch) (D : va_G) (G : gAd) (b : Nat) (hb : gExits b) (σ : gSt) (μ : gLg) (a1 : Int) (a2 : Int) (a3 : Int) (σ' : gSt) (h : DX2_drawThroughExit b σ a1 a2 a3 = some σ') : Met l yX2_drawThroughExit (gWs yX2_drawThroughExit cX2_drawThroughExit 4 none) ({ frames := 2, cells := 0, slots := 0, locals := 43 } : Room) (gPc D G [.ref (G.1 b), .int (gI a1), .int (gI a2), .int (gI a3)] σ μ) (gQv D G σ' μ) 0 0 (gA G) := by
  refine Met.ofW (cc := cX2_drawThroughExit) (maxL := 4) (ret := none) (by decide) rfl ?_
  intro p e s m args below meth c s₁ B hml hv
  obtain ⟨rfl, hP, hX⟩ := hv
  have hx := B.exec
  have hb0 := B.bytes
  have hr := B.returns
  have hts0 := atoms_spec (ws := (gWs yX2_drawThroughExit cX2_drawThroughExit 4 none)) B.pre
  have hts : ∀ w ∈ gLW, w.before _ s = true := fun w hw => hts0 w (List.mem_cons_of_mem _ hw)
  have hown : s.vm.findClass RX2 = some m.cls := findClass_of_methodNamed B.named
  have hlocks := B.notSynchronized
  have hH : gH D G s s.heap [] σ μ := ⟨hP, va_S.rf⟩
  have hl := lv_entry ([.ref (G.1 b), .int (gI a1), .int (gI a2), .int (gI a3)]) (n := 4) (Nat.le_of_ble_eq_true rfl)
  rw [lg_entry_eq]
  generalize (lg_sl ([.ref (G.1 b), .int (gI a1), .int (gI a2), .int (gI a3)]) ++ List.replicate (4 - (lg_sl ([.ref (G.1 b), .int (gI a1), .int (gI a2), .int (gI a3)])).length) Slot.unset).toArray = ls at hl ⊢
  have hl : lv_has ls 4 [(0, .ref (G.1 b)), (1, .int (gI a1)), (2, .int (gI a2)), (3, .int (gI a3))] := hl
  unfold DX2_drawThroughExit at h
  refine lv_aload_n hx hb0 dX2_drawThroughExit_0 rfl (lv_at hl 0 rfl) ?_
  refine lv_dup hx hb0 dX2_drawThroughExit_1 rfl ?_
  refine g_getI hx hb0 hts q_ws_X2 hown hX hH (C := RX2) (T := TX2) (N := 7) (k := b) (i := 6) hb.k rfl (by decide) (hts _ q_fl_X2_35) rfl rfl dX2_drawThroughExit_2 ?_
  refine lv_iconst (v := gI (1 : Int)) hx hb0 dX2_drawThroughExit_5 (by decide) ?_
  refine g_iadd hx hb0 dX2_drawThroughExit_6 ?_
  refine g_putI hx hb0 hts q_ws_X2 tyX2 tyX2_ok nmX2 hown hX hH (C := RX2) (T := TX2) (N := 7) (k := b) (i := 6) hb.k rfl (by decide) (hts _ q_fl_X2_35) rfl rfl rfl rfl dX2_drawThroughExit_7 (fun H locs hH => ?_)
  refine lv_aload_n hx hb0 dX2_drawThroughExit_10 rfl (lv_at hl 0 rfl) ?_
  refine g_getR hx hb0 hts q_ws_X2 hown hX hH (C := RX2) (T := TX2) (N := 7) (k := b) (i := 2) (j := (b + 5)) hb.k rfl (by decide) (hts _ q_fl_X2_23) rfl rfl dX2_drawThroughExit_11 ?_
  refine lv_iload_n hx hb0 dX2_drawThroughExit_14 rfl (lv_at hl 1 rfl) ?_
  refine lv_aload_n hx hb0 dX2_drawThroughExit_15 rfl (lv_at hl 0 rfl) ?_
  refine g_getI hx hb0 hts q_ws_X2 hown hX hH (C := RX2) (T := TX2) (N := 7) (k := b) (i := 6) hb.k rfl (by decide) (hts _ q_fl_X2_35) rfl rfl dX2_drawThroughExit_16 ?_
  obtain ⟨q19, e19, h⟩ := gBind_some h
  refine g_callVv (k := (b + 5)) (T := TX4) (N := 1) (As := [.int (gI a1), .int (gI ((gUp σ b 6 ((σ b 6) + (1 : Int))) b 6))]) (rest := []) ⟨hx, hb0, hml, hown, hts⟩ (metX4_put l D G (b + 5) 30 (hb.n2) (gUp σ b 6 ((σ b 6) + (1 : Int))) μ a1 ((gUp σ b 6 ((σ b 6) + (1 : Int))) b 6) q19 e19) (g_cwV (C := RX4) 2 hts q_ml_X2_84 q_im_X4_put q_se_X4_put q_in_X4 q_co_X4_put ⟨rfl, rfl⟩ (by decide +kernel) ⟨Nat.le_of_ble_eq_true rfl, Nat.le_of_ble_eq_true rfl⟩) hX hH ((hb.n2)).1 rfl rfl hl.1 rfl (Nat.le_of_ble_eq_true rfl) dX2_drawThroughExit_19 ⟨Nat.zero_le _, Nat.zero_le _⟩ (fun H locs hH => ?_)
  refine lv_aload_n hx hb0 dX2_drawThroughExit_22 rfl (lv_at hl 0 rfl) ?_
  refine g_getR hx hb0 hts q_ws_X2 hown hX hH (C := RX2) (T := TX2) (N := 7) (k := b) (i := 3) (j := (b + 7)) hb.k rfl (by decide) (hts _ q_fl_X2_26) rfl rfl dX2_drawThroughExit_23 ?_
  refine lv_aload_n hx hb0 dX2_drawThroughExit_26 rfl (lv_at hl 0 rfl) ?_
  refine g_getI hx hb0 hts q_ws_X2 hown hX hH (C := RX2) (T := TX2) (N := 7) (k := b) (i := 6) hb.k rfl (by decide) (hts _ q_fl_X2_35) rfl rfl dX2_drawThroughExit_27 ?_
  refine lv_iload_n hx hb0 dX2_drawThroughExit_30 rfl (lv_at hl 1 rfl) ?_
  obtain ⟨q31, e31, h⟩ := gBind_some h
  refine g_callVv (k := (b + 7)) (T := TX4) (N := 1) (As := [.int (gI (q19 b 6)), .int (gI a1)]) (rest := []) ⟨hx, hb0, hml, hown, hts⟩ (metX4_put l D G (b + 7) 31 (hb.n3) q19 μ (q19 b 6) a1 q31 e31) (g_cwV (C := RX4) 2 hts q_ml_X2_84 q_im_X4_put q_se_X4_put q_in_X4 q_co_X4_put ⟨rfl, rfl⟩ (by decide +kernel) ⟨Nat.le_of_ble_eq_true rfl, Nat.le_of_ble_eq_true rfl⟩) hX hH ((hb.n3)).1 rfl rfl hl.1 rfl (Nat.le_of_ble_eq_true rfl) dX2_drawThroughExit_31 ⟨Nat.zero_le _, Nat.zero_le _⟩ (fun H locs hH => ?_)
  refine lv_aload_n hx hb0 dX2_drawThroughExit_34 rfl (lv_at hl 0 rfl) ?_
  refine g_getR hx hb0 hts q_ws_X2 hown hX hH (C := RX2) (T := TX2) (N := 7) (k := b) (i := 4) (j := (b + 9)) hb.k rfl (by decide) (hts _ q_fl_X2_29) rfl rfl dX2_drawThroughExit_35 ?_
  refine lv_iload_n hx hb0 dX2_drawThroughExit_38 rfl (lv_at hl 2 rfl) ?_
  obtain ⟨q39, e39, h⟩ := gBind_some h
  refine g_callVv (k := (b + 9)) (T := TX4) (N := 1) (As := [.int (gI a2)]) (rest := []) ⟨hx, hb0, hml, hown, hts⟩ (metX4_increase l D G (b + 9) 312 (hb.n4) q31 μ a2 q39 e39) (g_cwV (C := RX4) 1 hts q_ml_X2_94 q_im_X4_increase q_se_X4_increase q_in_X4 q_co_X4_increase ⟨rfl, rfl⟩ (by decide +kernel) ⟨Nat.le_of_ble_eq_true rfl, Nat.le_of_ble_eq_true rfl⟩) hX hH ((hb.n4)).1 rfl rfl hl.1 rfl (Nat.le_of_ble_eq_true rfl) dX2_drawThroughExit_39 ⟨Nat.zero_le _, Nat.zero_le _⟩ (fun H locs hH => ?_)
  refine lv_aload_n hx hb0 dX2_drawThroughExit_42 rfl (lv_at hl 0 rfl) ?_
  refine g_getR hx hb0 hts q_ws_X2 hown hX hH (C := RX2) (T := TX2) (N := 7) (k := b) (i := 4) (j := (b + 9)) hb.k rfl (by decide) (hts _ q_fl_X2_29) rfl rfl dX2_drawThroughExit_43 ?_
  refine lv_iload_n hx hb0 dX2_drawThroughExit_46 rfl (lv_at hl 3 rfl) ?_
  obtain ⟨q47, e47, h⟩ := gBind_some h
  refine g_callVv (k := (b + 9)) (T := TX4) (N := 1) (As := [.int (gI a3)]) (rest := []) ⟨hx, hb0, hml, hown, hts⟩ (metX4_increase l D G (b + 9) 312 (hb.n4) q39 μ a3 q47 e47) (g_cwV (C := RX4) 1 hts q_ml_X2_94 q_im_X4_increase q_se_X4_increase q_in_X4 q_co_X4_increase ⟨rfl, rfl⟩ (by decide +kernel) ⟨Nat.le_of_ble_eq_true rfl, Nat.le_of_ble_eq_true rfl⟩) hX hH ((hb.n4)).1 rfl rfl hl.1 rfl (Nat.le_of_ble_eq_true rfl) dX2_drawThroughExit_47 ⟨Nat.zero_le _, Nat.zero_le _⟩ (fun H locs hH => ?_)
  exact g_vretS hx hb0 hr hH hlocks dX2_drawThroughExit_50 h
def DX2_draw_J162 (R41 : Int → gSt → Option (gSt)) (x5_41 : Int) (σ162 : gSt) : Option (gSt) :=
  (R41 (x5_41 + (1 : Int)) σ162)
def DX2_draw_L41 (b : Nat) (p1 : Nat) (p2 : Nat) (p3 : Nat) (q2 : Int) : Nat → Int → gSt → Option (gSt)
  | 0, _, _ => none
  | f41 + 1, x5_41, σ41 => (DX5_arrowCount p1 σ41).bind fun q44 => gIf (x5_41 < q44) x5_41 q44 ((DX5_from p1 σ41 x5_41).bind fun q53 => (DX5_to p1 σ41 x5_41).bind fun q61 => (DX0_bandOf p2 σ41 q53).bind fun q70 => (DX5_last p1 σ41 q53).bind fun q76 => (DX8_stripOfDay σ41 q76 q2).bind fun q81 => (DX6_numberAt p3 σ41 q70 q81).bind fun q84 => (DX0_bandOf p2 σ41 q61).bind fun q93 => (DX5_first p1 σ41 q61).bind fun q99 => (DX8_stripOfDay σ41 q99 q2).bind fun q104 => (DX6_numberAt p3 σ41 q93 q104).bind fun q107 => (DX4_put (b + 1) 30 σ41 x5_41 q84).bind fun q120 => (DX4_put (b + 3) 30 q120 x5_41 q107).bind fun q131 => gIf (q84 = q107) q84 q107 ((DX2_drawInside b q131 x5_41 q84).bind fun q146 => (DX2_draw_J162 (DX2_draw_L41 b p1 p2 p3 q2 f41) x5_41 q146)) ((DX2_drawThroughExit b q131 x5_41 q84 q107).bind fun q159 => (DX2_draw_J162 (DX2_draw_L41 b p1 p2 p3 q2 f41) x5_41 q159))) (some σ41)
def DX2_draw (b : Nat) (p1 : Nat) (p2 : Nat) (p3 : Nat) (σ : gSt) : Option (gSt) :=
  (DX5_setting p1 σ (1 : Int)).bind fun q2 => (DX6_count p3 σ).bind fun q13 => (DX4_fill (b + 9) 312 σ (0 : Int) q13 (0 : Int)).bind fun q17 => (DX6_count p3 q17).bind fun q26 => (DX4_fill (b + 11) 312 q17 (0 : Int) q26 (0 : Int)).bind fun q30 => (DX2_draw_L41 b p1 p2 p3 q2 gFuel (0 : Int) (gUp q30 b 6 (0 : Int)))
set_option maxHeartbeats 4000000 in
set_option maxRecDepth 100000 in
theorem metX2_draw (l : Launch) (D : va_G) (G : gAd) (b : Nat) (p1 : Nat) (p2 : Nat) (p3 : Nat) (hb : gExits b) (hp1 : gPlan p1) (hp2 : gBands p2) (hp3 : gSheets p3) (σ : gSt) (μ : gLg) (σ' : gSt) (h : DX2_draw b p1 p2 p3 σ = some σ') : Met l yX2_draw (gWs yX2_draw cX2_draw 10 none) ({ frames := 3, cells := 0, slots := 0, locals := 66 } : Room) (gPc D G [.ref (G.1 b), .ref (G.1 p1), .ref (G.1 p2), .ref (G.1 p3)] σ μ) (gQv D G σ' μ) 0 0 (gA G) := by
  refine Met.ofW (cc := cX2_draw) (maxL := 10) (ret := none) (by decide) rfl ?_
  intro p e s m args below meth c s₁ B hml hv
  obtain ⟨rfl, hP, hX⟩ := hv
  have hx := B.exec
  have hb0 := B.bytes
  have hr := B.returns
  have hts0 := atoms_spec (ws := (gWs yX2_draw cX2_draw 10 none)) B.pre
  have hts : ∀ w ∈ gLW, w.before _ s = true := fun w hw => hts0 w (List.mem_cons_of_mem _ hw)
  have hown : s.vm.findClass RX2 = some m.cls := findClass_of_methodNamed B.named
  have hlocks := B.notSynchronized
  have hH : gH D G s s.heap [] σ μ := ⟨hP, va_S.rf⟩
  have hl := lv_entry ([.ref (G.1 b), .ref (G.1 p1), .ref (G.1 p2), .ref (G.1 p3)]) (n := 10) (Nat.le_of_ble_eq_true rfl)
  rw [lg_entry_eq]
  generalize (lg_sl ([.ref (G.1 b), .ref (G.1 p1), .ref (G.1 p2), .ref (G.1 p3)]) ++ List.replicate (10 - (lg_sl ([.ref (G.1 b), .ref (G.1 p1), .ref (G.1 p2), .ref (G.1 p3)])).length) Slot.unset).toArray = ls at hl ⊢
  have hl : lv_has ls 10 [(0, .ref (G.1 b)), (1, .ref (G.1 p1)), (2, .ref (G.1 p2)), (3, .ref (G.1 p3))] := hl
  unfold DX2_draw at h
  refine lv_aload_n hx hb0 dX2_draw_0 rfl (lv_at hl 1 rfl) ?_
  refine lv_iconst (v := gI (1 : Int)) hx hb0 dX2_draw_1 (by decide) ?_
  obtain ⟨q2, e2, h⟩ := gBind_some h
  refine g_callVi (k := p1) (T := TX5) (N := 8) (As := [.int (gI (1 : Int))]) (rest := []) ⟨hx, hb0, hml, hown, hts⟩ (metX5_setting l D G p1 hp1 σ μ (1 : Int) q2 e2) (g_cwV (C := RX5) 1 hts q_ml_X2_43 q_im_X5_setting q_se_X5_setting q_in_X5 q_co_X5_setting ⟨rfl, rfl⟩ (by decide +kernel) ⟨Nat.le_of_ble_eq_true rfl, Nat.le_of_ble_eq_true rfl⟩) hX hH hp1.k rfl rfl hl.1 rfl (Nat.le_of_ble_eq_true rfl) dX2_draw_2 ⟨Nat.zero_le _, Nat.zero_le _⟩ (fun H locs hH => ?_)
  refine lv_istore (lv' := [(4, .int (gI q2)), (0, .ref (G.1 b)), (1, .ref (G.1 p1)), (2, .ref (G.1 p2)), (3, .ref (G.1 p3))]) hx hb0 dX2_draw_5 hl (by decide) rfl (fun ls hl => ?_)
  refine lv_aload_n hx hb0 dX2_draw_7 rfl (lv_at hl 1 rfl) ?_
  refine g_getR hx hb0 hts q_ws_X2 hown hX hH (C := RX2) (T := TX2) (N := 7) (k := b) (i := 4) (j := (b + 9)) hb.k rfl (by decide) (hts _ q_fl_X2_29) rfl rfl dX2_draw_8 ?_
  refine lv_iconst (v := gI (0 : Int)) hx hb0 dX2_draw_11 (by decide) ?_
  refine lv_aload_n hx hb0 dX2_draw_12 rfl (lv_at hl 4 rfl) ?_
  obtain ⟨q13, e13, h⟩ := gBind_some h
  refine g_callVi (k := p3) (T := TX6) (N := 5) (As := []) (rest := [.int (gI (0 : Int)), .ref (G.1 (b + 9))]) ⟨hx, hb0, hml, hown, hts⟩ (metX6_count l D G p3 hp3 σ μ q13 e13) (g_cwV (C := RX6) 0 hts q_ml_X2_48 q_im_X6_count q_se_X6_count q_in_X6 q_co_X6_count ⟨rfl, rfl⟩ (by decide +kernel) ⟨Nat.le_of_ble_eq_true rfl, Nat.le_of_ble_eq_true rfl⟩) hX hH hp3.k rfl rfl hl.1 rfl (Nat.le_of_ble_eq_true rfl) dX2_draw_13 ⟨Nat.zero_le _, Nat.zero_le _⟩ (fun H locs hH => ?_)
  refine lv_iconst (v := gI (0 : Int)) hx hb0 dX2_draw_16 (by decide) ?_
  obtain ⟨q17, e17, h⟩ := gBind_some h
  refine g_callVv (k := (b + 9)) (T := TX4) (N := 1) (As := [.int (gI (0 : Int)), .int (gI q13), .int (gI (0 : Int))]) (rest := []) ⟨hx, hb0, hml, hown, hts⟩ (metX4_fill l D G (b + 9) 312 (hb.n4) σ μ (0 : Int) q13 (0 : Int) q17 e17) (g_cwV (C := RX4) 3 hts q_ml_X2_53 q_im_X4_fill q_se_X4_fill q_in_X4 q_co_X4_fill ⟨rfl, rfl⟩ (by decide +kernel) ⟨Nat.le_of_ble_eq_true rfl, Nat.le_of_ble_eq_true rfl⟩) hX hH ((hb.n4)).1 rfl rfl hl.1 rfl (Nat.le_of_ble_eq_true rfl) dX2_draw_17 ⟨Nat.zero_le _, Nat.zero_le _⟩ (fun H locs hH => ?_)
  refine lv_aload_n hx hb0 dX2_draw_20 rfl (lv_at hl 1 rfl) ?_
  refine g_getR hx hb0 hts q_ws_X2 hown hX hH (C := RX2) (T := TX2) (N := 7) (k := b) (i := 5) (j := (b + 11)) hb.k rfl (by decide) (hts _ q_fl_X2_32) rfl rfl dX2_draw_21 ?_
  refine lv_iconst (v := gI (0 : Int)) hx hb0 dX2_draw_24 (by decide) ?_
  refine lv_aload_n hx hb0 dX2_draw_25 rfl (lv_at hl 4 rfl) ?_
  obtain ⟨q26, e26, h⟩ := gBind_some h
  refine g_callVi (k := p3) (T := TX6) (N := 5) (As := []) (rest := [.int (gI (0 : Int)), .ref (G.1 (b + 11))]) ⟨hx, hb0, hml, hown, hts⟩ (metX6_count l D G p3 hp3 q17 μ q26 e26) (g_cwV (C := RX6) 0 hts q_ml_X2_48 q_im_X6_count q_se_X6_count q_in_X6 q_co_X6_count ⟨rfl, rfl⟩ (by decide +kernel) ⟨Nat.le_of_ble_eq_true rfl, Nat.le_of_ble_eq_true rfl⟩) hX hH hp3.k rfl rfl hl.1 rfl (Nat.le_of_ble_eq_true rfl) dX2_draw_26 ⟨Nat.zero_le _, Nat.zero_le _⟩ (fun H locs hH => ?_)
  refine lv_iconst (v := gI (0 : Int)) hx hb0 dX2_draw_29 (by decide) ?_
  obtain ⟨q30, e30, h⟩ := gBind_some h
  refine g_callVv (k := (b + 11)) (T := TX4) (N := 1) (As := [.int (gI (0 : Int)), .int (gI q26), .int (gI (0 : Int))]) (rest := []) ⟨hx, hb0, hml, hown, hts⟩ (metX4_fill l D G (b + 11) 312 (hb.n5) q17 μ (0 : Int) q26 (0 : Int) q30 e30) (g_cwV (C := RX4) 3 hts q_ml_X2_53 q_im_X4_fill q_se_X4_fill q_in_X4 q_co_X4_fill ⟨rfl, rfl⟩ (by decide +kernel) ⟨Nat.le_of_ble_eq_true rfl, Nat.le_of_ble_eq_true rfl⟩) hX hH ((hb.n5)).1 rfl rfl hl.1 rfl (Nat.le_of_ble_eq_true rfl) dX2_draw_30 ⟨Nat.zero_le _, Nat.zero_le _⟩ (fun H locs hH => ?_)
  refine lv_aload_n hx hb0 dX2_draw_33 rfl (lv_at hl 1 rfl) ?_
  refine lv_iconst (v := gI (0 : Int)) hx hb0 dX2_draw_34 (by decide) ?_
  refine g_putI hx hb0 hts q_ws_X2 tyX2 tyX2_ok nmX2 hown hX hH (C := RX2) (T := TX2) (N := 7) (k := b) (i := 6) hb.k rfl (by decide) (hts _ q_fl_X2_35) rfl rfl rfl rfl dX2_draw_35 (fun H locs hH => ?_)
  refine lv_iconst (v := gI (0 : Int)) hx hb0 dX2_draw_38 (by decide) ?_
  refine lv_istore (lv' := [(5, .int (gI (0 : Int))), (4, .int (gI q2)), (0, .ref (G.1 b)), (1, .ref (G.1 p1)), (2, .ref (G.1 p2)), (3, .ref (G.1 p3))]) hx hb0 dX2_draw_39 hl (by decide) rfl (fun ls hl => ?_)
  have hL41 : ∀ (f41 : Nat) (x5_41 : Int) (σ41 : gSt) (H : Heap) (locs : List Loc) (ls : Array Slot), gH D G s H locs σ41 μ → lv_has ls 10 [(5, .int (gI x5_41)), (4, .int (gI q2)), (0, .ref (G.1 b)), (1, .ref (G.1 p1)), (2, .ref (G.1 p2)), (3, .ref (G.1 p3))] → (DX2_draw_L41 b p1 p2 p3 q2 f41 x5_41 σ41) = some σ' → W p l e (headSpec (gWs yX2_draw cX2_draw 10 none) ({ frames := 3, cells := 0, slots := 0, locals := 66 } : Room)).room s m ([.ref (G.1 b), .ref (G.1 p1), .ref (G.1 p2), .ref (G.1 p3)] : List Value).toArray below meth c H locs 0 0 (MQ below (gQv D G σ' μ) ([.ref (G.1 b), .ref (G.1 p1), .ref (G.1 p2), .ref (G.1 p3)] : List Value).toArray s 0 0 (gA G)) (F0 m 41 ls []) := by
    intro f41
    induction f41 with
    | zero => intro x5_41 σ41 H locs ls hH hl h; cases h
    | succ f41 ih41 =>
      intro x5_41 σ41 H locs ls hH hl h
      unfold DX2_draw_L41 at h
      refine lv_iload hx hb0 dX2_draw_41 (lv_at hl 0 rfl) ?_
      refine lv_aload_n hx hb0 dX2_draw_43 rfl (lv_at hl 3 rfl) ?_
      obtain ⟨q44, e44, h⟩ := gBind_some h
      refine g_callVi (k := p1) (T := TX5) (N := 8) (As := []) (rest := [.int (gI x5_41)]) ⟨hx, hb0, hml, hown, hts⟩ (metX5_arrowCount l D G p1 hp1 σ41 μ q44 e44) (g_cwV (C := RX5) 0 hts q_ml_X2_57 q_im_X5_arrowCount q_se_X5_arrowCount q_in_X5 q_co_X5_arrowCount ⟨rfl, rfl⟩ (by decide +kernel) ⟨Nat.le_of_ble_eq_true rfl, Nat.le_of_ble_eq_true rfl⟩) hX hH hp1.k rfl rfl hl.1 rfl (Nat.le_of_ble_eq_true rfl) dX2_draw_44 ⟨Nat.zero_le _, Nat.zero_le _⟩ (fun H locs hH => ?_)
      refine g_icmp_ge (tgt := 168) hx hb0 dX2_draw_47 (by decide) h (fun h => ?_) (fun h => ?_)
      · exact g_vretS hx hb0 hr hH hlocks dX2_draw_168 h
      · refine lv_aload_n hx hb0 dX2_draw_50 rfl (lv_at hl 3 rfl) ?_
        refine lv_iload hx hb0 dX2_draw_51 (lv_at hl 0 rfl) ?_
        obtain ⟨q53, e53, h⟩ := gBind_some h
        refine g_callVi (k := p1) (T := TX5) (N := 8) (As := [.int (gI x5_41)]) (rest := []) ⟨hx, hb0, hml, hown, hts⟩ (metX5_from l D G p1 hp1 σ41 μ x5_41 q53 e53) (g_cwV (C := RX5) 1 hts q_ml_X2_60 q_im_X5_from q_se_X5_from q_in_X5 q_co_X5_from ⟨rfl, rfl⟩ (by decide +kernel) ⟨Nat.le_of_ble_eq_true rfl, Nat.le_of_ble_eq_true rfl⟩) hX hH hp1.k rfl rfl hl.1 rfl (Nat.le_of_ble_eq_true rfl) dX2_draw_53 ⟨Nat.zero_le _, Nat.zero_le _⟩ (fun H locs hH => ?_)
        refine lv_istore (lv' := [(6, .int (gI q53)), (5, .int (gI x5_41)), (4, .int (gI q2)), (0, .ref (G.1 b)), (1, .ref (G.1 p1)), (2, .ref (G.1 p2)), (3, .ref (G.1 p3))]) hx hb0 dX2_draw_56 hl (by decide) rfl (fun ls hl => ?_)
        refine lv_aload_n hx hb0 dX2_draw_58 rfl (lv_at hl 4 rfl) ?_
        refine lv_iload hx hb0 dX2_draw_59 (lv_at hl 1 rfl) ?_
        obtain ⟨q61, e61, h⟩ := gBind_some h
        refine g_callVi (k := p1) (T := TX5) (N := 8) (As := [.int (gI x5_41)]) (rest := []) ⟨hx, hb0, hml, hown, hts⟩ (metX5_to l D G p1 hp1 σ41 μ x5_41 q61 e61) (g_cwV (C := RX5) 1 hts q_ml_X2_63 q_im_X5_to q_se_X5_to q_in_X5 q_co_X5_to ⟨rfl, rfl⟩ (by decide +kernel) ⟨Nat.le_of_ble_eq_true rfl, Nat.le_of_ble_eq_true rfl⟩) hX hH hp1.k rfl rfl hl.1 rfl (Nat.le_of_ble_eq_true rfl) dX2_draw_61 ⟨Nat.zero_le _, Nat.zero_le _⟩ (fun H locs hH => ?_)
        refine lv_istore (lv' := [(7, .int (gI q61)), (6, .int (gI q53)), (5, .int (gI x5_41)), (4, .int (gI q2)), (0, .ref (G.1 b)), (1, .ref (G.1 p1)), (2, .ref (G.1 p2)), (3, .ref (G.1 p3))]) hx hb0 dX2_draw_64 hl (by decide) rfl (fun ls hl => ?_)
        refine lv_aload_n hx hb0 dX2_draw_66 rfl (lv_at hl 7 rfl) ?_
        refine lv_aload_n hx hb0 dX2_draw_67 rfl (lv_at hl 6 rfl) ?_
        refine lv_iload hx hb0 dX2_draw_68 (lv_at hl 1 rfl) ?_
        obtain ⟨q70, e70, h⟩ := gBind_some h
        refine g_callVi (k := p2) (T := TX0) (N := 8) (As := [.int (gI q53)]) (rest := [.ref (G.1 p3)]) ⟨hx, hb0, hml, hown, hts⟩ (metX0_bandOf l D G p2 hp2 σ41 μ q53 q70 e70) (g_cwV (C := RX0) 1 hts q_ml_X2_66 q_im_X0_bandOf q_se_X0_bandOf q_in_X0 q_co_X0_bandOf ⟨rfl, rfl⟩ (by decide +kernel) ⟨Nat.le_of_ble_eq_true rfl, Nat.le_of_ble_eq_true rfl⟩) hX hH hp2.k rfl rfl hl.1 rfl (Nat.le_of_ble_eq_true rfl) dX2_draw_70 ⟨Nat.zero_le _, Nat.zero_le _⟩ (fun H locs hH => ?_)
        refine lv_aload_n hx hb0 dX2_draw_73 rfl (lv_at hl 5 rfl) ?_
        refine lv_iload hx hb0 dX2_draw_74 (lv_at hl 1 rfl) ?_
        obtain ⟨q76, e76, h⟩ := gBind_some h
        refine g_callVi (k := p1) (T := TX5) (N := 8) (As := [.int (gI q53)]) (rest := [.int (gI q70), .ref (G.1 p3)]) ⟨hx, hb0, hml, hown, hts⟩ (metX5_last l D G p1 hp1 σ41 μ q53 q76 e76) (g_cwV (C := RX5) 1 hts q_ml_X2_71 q_im_X5_last q_se_X5_last q_in_X5 q_co_X5_last ⟨rfl, rfl⟩ (by decide +kernel) ⟨Nat.le_of_ble_eq_true rfl, Nat.le_of_ble_eq_true rfl⟩) hX hH hp1.k rfl rfl hl.1 rfl (Nat.le_of_ble_eq_true rfl) dX2_draw_76 ⟨Nat.zero_le _, Nat.zero_le _⟩ (fun H locs hH => ?_)
        refine lv_iload hx hb0 dX2_draw_79 (lv_at hl 3 rfl) ?_
        obtain ⟨q81, e81, h⟩ := gBind_some h
        refine g_callNi (As := [.int (gI q76), .int (gI q2)]) (rest := [.int (gI q70), .ref (G.1 p3)]) ⟨hx, hb0, hml, hown, hts⟩ (metX8_stripOfDay l D G σ41 μ q76 q2 q81 e81) (g_cwN (own := RX2) (idx := 74) (y := yX8_stripOfDay) (host := RX8) 2 hts hX (by decide +kernel) q_st_X8_stripOfDay q_in_X8 q_co_X8_stripOfDay ⟨rfl, rfl⟩ (by decide +kernel) ⟨Nat.le_of_ble_eq_true rfl, Nat.le_of_ble_eq_true rfl⟩) hX hH rfl hl.1 rfl (Nat.le_of_ble_eq_true rfl) dX2_draw_81 ⟨Nat.zero_le _, Nat.zero_le _⟩ (fun H locs hH => ?_)
        obtain ⟨q84, e84, h⟩ := gBind_some h
        refine g_callVi (k := p3) (T := TX6) (N := 5) (As := [.int (gI q70), .int (gI q81)]) (rest := []) ⟨hx, hb0, hml, hown, hts⟩ (metX6_numberAt l D G p3 hp3 σ41 μ q70 q81 q84 e84) (g_cwV (C := RX6) 2 hts q_ml_X2_78 q_im_X6_numberAt q_se_X6_numberAt q_in_X6 q_co_X6_numberAt ⟨rfl, rfl⟩ (by decide +kernel) ⟨Nat.le_of_ble_eq_true rfl, Nat.le_of_ble_eq_true rfl⟩) hX hH hp3.k rfl rfl hl.1 rfl (Nat.le_of_ble_eq_true rfl) dX2_draw_84 ⟨Nat.zero_le _, Nat.zero_le _⟩ (fun H locs hH => ?_)
        refine lv_istore (lv' := [(8, .int (gI q84)), (7, .int (gI q61)), (6, .int (gI q53)), (5, .int (gI x5_41)), (4, .int (gI q2)), (0, .ref (G.1 b)), (1, .ref (G.1 p1)), (2, .ref (G.1 p2)), (3, .ref (G.1 p3))]) hx hb0 dX2_draw_87 hl (by decide) rfl (fun ls hl => ?_)
        refine lv_aload_n hx hb0 dX2_draw_89 rfl (lv_at hl 8 rfl) ?_
        refine lv_aload_n hx hb0 dX2_draw_90 rfl (lv_at hl 7 rfl) ?_
        refine lv_iload hx hb0 dX2_draw_91 (lv_at hl 1 rfl) ?_
        obtain ⟨q93, e93, h⟩ := gBind_some h
        refine g_callVi (k := p2) (T := TX0) (N := 8) (As := [.int (gI q61)]) (rest := [.ref (G.1 p3)]) ⟨hx, hb0, hml, hown, hts⟩ (metX0_bandOf l D G p2 hp2 σ41 μ q61 q93 e93) (g_cwV (C := RX0) 1 hts q_ml_X2_66 q_im_X0_bandOf q_se_X0_bandOf q_in_X0 q_co_X0_bandOf ⟨rfl, rfl⟩ (by decide +kernel) ⟨Nat.le_of_ble_eq_true rfl, Nat.le_of_ble_eq_true rfl⟩) hX hH hp2.k rfl rfl hl.1 rfl (Nat.le_of_ble_eq_true rfl) dX2_draw_93 ⟨Nat.zero_le _, Nat.zero_le _⟩ (fun H locs hH => ?_)
        refine lv_aload_n hx hb0 dX2_draw_96 rfl (lv_at hl 6 rfl) ?_
        refine lv_iload hx hb0 dX2_draw_97 (lv_at hl 1 rfl) ?_
        obtain ⟨q99, e99, h⟩ := gBind_some h
        refine g_callVi (k := p1) (T := TX5) (N := 8) (As := [.int (gI q61)]) (rest := [.int (gI q93), .ref (G.1 p3)]) ⟨hx, hb0, hml, hown, hts⟩ (metX5_first l D G p1 hp1 σ41 μ q61 q99 e99) (g_cwV (C := RX5) 1 hts q_ml_X2_81 q_im_X5_first q_se_X5_first q_in_X5 q_co_X5_first ⟨rfl, rfl⟩ (by decide +kernel) ⟨Nat.le_of_ble_eq_true rfl, Nat.le_of_ble_eq_true rfl⟩) hX hH hp1.k rfl rfl hl.1 rfl (Nat.le_of_ble_eq_true rfl) dX2_draw_99 ⟨Nat.zero_le _, Nat.zero_le _⟩ (fun H locs hH => ?_)
        refine lv_iload hx hb0 dX2_draw_102 (lv_at hl 4 rfl) ?_
        obtain ⟨q104, e104, h⟩ := gBind_some h
        refine g_callNi (As := [.int (gI q99), .int (gI q2)]) (rest := [.int (gI q93), .ref (G.1 p3)]) ⟨hx, hb0, hml, hown, hts⟩ (metX8_stripOfDay l D G σ41 μ q99 q2 q104 e104) (g_cwN (own := RX2) (idx := 74) (y := yX8_stripOfDay) (host := RX8) 2 hts hX (by decide +kernel) q_st_X8_stripOfDay q_in_X8 q_co_X8_stripOfDay ⟨rfl, rfl⟩ (by decide +kernel) ⟨Nat.le_of_ble_eq_true rfl, Nat.le_of_ble_eq_true rfl⟩) hX hH rfl hl.1 rfl (Nat.le_of_ble_eq_true rfl) dX2_draw_104 ⟨Nat.zero_le _, Nat.zero_le _⟩ (fun H locs hH => ?_)
        obtain ⟨q107, e107, h⟩ := gBind_some h
        refine g_callVi (k := p3) (T := TX6) (N := 5) (As := [.int (gI q93), .int (gI q104)]) (rest := []) ⟨hx, hb0, hml, hown, hts⟩ (metX6_numberAt l D G p3 hp3 σ41 μ q93 q104 q107 e107) (g_cwV (C := RX6) 2 hts q_ml_X2_78 q_im_X6_numberAt q_se_X6_numberAt q_in_X6 q_co_X6_numberAt ⟨rfl, rfl⟩ (by decide +kernel) ⟨Nat.le_of_ble_eq_true rfl, Nat.le_of_ble_eq_true rfl⟩) hX hH hp3.k rfl rfl hl.1 rfl (Nat.le_of_ble_eq_true rfl) dX2_draw_107 ⟨Nat.zero_le _, Nat.zero_le _⟩ (fun H locs hH => ?_)
        refine lv_istore (lv' := [(9, .int (gI q107)), (8, .int (gI q84)), (7, .int (gI q61)), (6, .int (gI q53)), (5, .int (gI x5_41)), (4, .int (gI q2)), (0, .ref (G.1 b)), (1, .ref (G.1 p1)), (2, .ref (G.1 p2)), (3, .ref (G.1 p3))]) hx hb0 dX2_draw_110 hl (by decide) rfl (fun ls hl => ?_)
        refine lv_aload_n hx hb0 dX2_draw_112 rfl (lv_at hl 6 rfl) ?_
        refine g_getR hx hb0 hts q_ws_X2 hown hX hH (C := RX2) (T := TX2) (N := 7) (k := b) (i := 0) (j := (b + 1)) hb.k rfl (by decide) (hts _ q_fl_X2_14) rfl rfl dX2_draw_113 ?_
        refine lv_iload hx hb0 dX2_draw_116 (lv_at hl 4 rfl) ?_
        refine lv_iload hx hb0 dX2_draw_118 (lv_at hl 1 rfl) ?_
        obtain ⟨q120, e120, h⟩ := gBind_some h
        refine g_callVv (k := (b + 1)) (T := TX4) (N := 1) (As := [.int (gI x5_41), .int (gI q84)]) (rest := []) ⟨hx, hb0, hml, hown, hts⟩ (metX4_put l D G (b + 1) 30 (hb.n0) σ41 μ x5_41 q84 q120 e120) (g_cwV (C := RX4) 2 hts q_ml_X2_84 q_im_X4_put q_se_X4_put q_in_X4 q_co_X4_put ⟨rfl, rfl⟩ (by decide +kernel) ⟨Nat.le_of_ble_eq_true rfl, Nat.le_of_ble_eq_true rfl⟩) hX hH ((hb.n0)).1 rfl rfl hl.1 rfl (Nat.le_of_ble_eq_true rfl) dX2_draw_120 ⟨Nat.zero_le _, Nat.zero_le _⟩ (fun H locs hH => ?_)
        refine lv_aload_n hx hb0 dX2_draw_123 rfl (lv_at hl 6 rfl) ?_
        refine g_getR hx hb0 hts q_ws_X2 hown hX hH (C := RX2) (T := TX2) (N := 7) (k := b) (i := 1) (j := (b + 3)) hb.k rfl (by decide) (hts _ q_fl_X2_20) rfl rfl dX2_draw_124 ?_
        refine lv_iload hx hb0 dX2_draw_127 (lv_at hl 4 rfl) ?_
        refine lv_iload hx hb0 dX2_draw_129 (lv_at hl 0 rfl) ?_
        obtain ⟨q131, e131, h⟩ := gBind_some h
        refine g_callVv (k := (b + 3)) (T := TX4) (N := 1) (As := [.int (gI x5_41), .int (gI q107)]) (rest := []) ⟨hx, hb0, hml, hown, hts⟩ (metX4_put l D G (b + 3) 30 (hb.n1) q120 μ x5_41 q107 q131 e131) (g_cwV (C := RX4) 2 hts q_ml_X2_84 q_im_X4_put q_se_X4_put q_in_X4 q_co_X4_put ⟨rfl, rfl⟩ (by decide +kernel) ⟨Nat.le_of_ble_eq_true rfl, Nat.le_of_ble_eq_true rfl⟩) hX hH ((hb.n1)).1 rfl rfl hl.1 rfl (Nat.le_of_ble_eq_true rfl) dX2_draw_131 ⟨Nat.zero_le _, Nat.zero_le _⟩ (fun H locs hH => ?_)
        refine lv_iload hx hb0 dX2_draw_134 (lv_at hl 1 rfl) ?_
        refine lv_iload hx hb0 dX2_draw_136 (lv_at hl 0 rfl) ?_
        have hJ162 : ∀ (σ162 : gSt) (H : Heap) (locs : List Loc) (ls : Array Slot), gH D G s H locs σ162 μ → lv_has ls 10 [(5, .int (gI x5_41)), (4, .int (gI q2)), (0, .ref (G.1 b)), (1, .ref (G.1 p1)), (2, .ref (G.1 p2)), (3, .ref (G.1 p3))] → (DX2_draw_J162 (DX2_draw_L41 b p1 p2 p3 q2 f41) x5_41 σ162) = some σ' → W p l e (headSpec (gWs yX2_draw cX2_draw 10 none) ({ frames := 3, cells := 0, slots := 0, locals := 66 } : Room)).room s m ([.ref (G.1 b), .ref (G.1 p1), .ref (G.1 p2), .ref (G.1 p3)] : List Value).toArray below meth c H locs 0 0 (MQ below (gQv D G σ' μ) ([.ref (G.1 b), .ref (G.1 p1), .ref (G.1 p2), .ref (G.1 p3)] : List Value).toArray s 0 0 (gA G)) (F0 m 162 ls []) := by
          intro σ162 H locs ls hH hl h
          unfold DX2_draw_J162 at h
          refine g_iinc (k := 0) (n := (1 : Int)) (lv' := [(5, .int (gI (x5_41 + (1 : Int)))), (4, .int (gI q2)), (0, .ref (G.1 b)), (1, .ref (G.1 p1)), (2, .ref (G.1 p2)), (3, .ref (G.1 p3))]) hx hb0 dX2_draw_162 hl rfl (by decide) rfl (fun ls hl => ?_)
          refine lv_goto (tgt := 41) hx hb0 dX2_draw_165 (by decide) ?_
          exact ih41 _ _ _ _ _ hH (lv_sub hl [0, 1, 2, 3, 4, 5] rfl) h
        refine g_icmp_ne (tgt := 152) hx hb0 dX2_draw_138 (by decide) h (fun h => ?_) (fun h => ?_)
        · refine lv_aload_n hx hb0 dX2_draw_152 rfl (lv_at hl 6 rfl) ?_
          refine lv_iload hx hb0 dX2_draw_153 (lv_at hl 4 rfl) ?_
          refine lv_iload hx hb0 dX2_draw_155 (lv_at hl 1 rfl) ?_
          refine lv_iload hx hb0 dX2_draw_157 (lv_at hl 0 rfl) ?_
          obtain ⟨q159, e159, h⟩ := gBind_some h
          refine g_callVv (k := b) (T := TX2) (N := 7) (As := [.int (gI x5_41), .int (gI q84), .int (gI q107)]) (rest := []) ⟨hx, hb0, hml, hown, hts⟩ (metX2_drawThroughExit l D G b hb q131 μ x5_41 q84 q107 q159 e159) (g_cwV (C := RX2) 3 hts q_ml_X2_91 q_im_X2_drawThroughExit q_se_X2_drawThroughExit q_in_X2 q_co_X2_drawThroughExit ⟨rfl, rfl⟩ (by decide +kernel) ⟨Nat.le_of_ble_eq_true rfl, Nat.le_of_ble_eq_true rfl⟩) hX hH hb.k rfl rfl hl.1 rfl (Nat.le_of_ble_eq_true rfl) dX2_draw_159 ⟨Nat.zero_le _, Nat.zero_le _⟩ (fun H locs hH => ?_)
          exact hJ162 _ _ _ _ hH (lv_sub hl [4, 5, 6, 7, 8, 9] rfl) h
        · refine lv_aload_n hx hb0 dX2_draw_141 rfl (lv_at hl 6 rfl) ?_
          refine lv_iload hx hb0 dX2_draw_142 (lv_at hl 4 rfl) ?_
          refine lv_iload hx hb0 dX2_draw_144 (lv_at hl 1 rfl) ?_
          obtain ⟨q146, e146, h⟩ := gBind_some h
          refine g_callVv (k := b) (T := TX2) (N := 7) (As := [.int (gI x5_41), .int (gI q84)]) (rest := []) ⟨hx, hb0, hml, hown, hts⟩ (metX2_drawInside l D G b hb q131 μ x5_41 q84 q146 e146) (g_cwV (C := RX2) 2 hts q_ml_X2_88 q_im_X2_drawInside q_se_X2_drawInside q_in_X2 q_co_X2_drawInside ⟨rfl, rfl⟩ (by decide +kernel) ⟨Nat.le_of_ble_eq_true rfl, Nat.le_of_ble_eq_true rfl⟩) hX hH hb.k rfl rfl hl.1 rfl (Nat.le_of_ble_eq_true rfl) dX2_draw_146 ⟨Nat.zero_le _, Nat.zero_le _⟩ (fun H locs hH => ?_)
          refine lv_goto (tgt := 162) hx hb0 dX2_draw_149 (by decide) ?_
          exact hJ162 _ _ _ _ hH (lv_sub hl [4, 5, 6, 7, 8, 9] rfl) h
  exact hL41 gFuel _ _ _ _ _ hH (lv_sub hl [0, 1, 2, 3, 4, 5] rfl) h
def DX8_printAnew (σ : gSt) : Option (gSt) :=
  (DX5_setting 1 σ (0 : Int)).bind fun q13 => (DX0_lay 87 1 σ q13).bind fun q16 => (DX5_setting 1 q16 (1 : Int)).bind fun q36 => (DX6_print 96 1 87 q16 q36).bind fun q39 => (DX2_draw 105 1 87 96 q39).bind fun q58 => some q58
set_option maxHeartbeats 4000000 in
set_option maxRecDepth 100000 in
theorem metX8_printAnew (l : Launch) (D : va_G) (G : gAd) (σ : gSt) (μ : gLg) (σ' : gSt) (h : DX8_printAnew σ = some σ') : Met l yX8_printAnew (gWs yX8_printAnew cX8_printAnew 1 none) ({ frames := 5, cells := 0, slots := 0, locals := 111 } : Room) (gPc D G [.ref (G.1 0)] σ μ) (gQv D G σ' μ) 0 0 (gA G) := by
  refine Met.ofW (cc := cX8_printAnew) (maxL := 1) (ret := none) (by decide) rfl ?_
  intro p e s m args below meth c s₁ B hml hv
  obtain ⟨rfl, hP, hX⟩ := hv
  have hx := B.exec
  have hb0 := B.bytes
  have hr := B.returns
  have hts0 := atoms_spec (ws := (gWs yX8_printAnew cX8_printAnew 1 none)) B.pre
  have hts : ∀ w ∈ gLW, w.before _ s = true := fun w hw => hts0 w (List.mem_cons_of_mem _ hw)
  have hown : s.vm.findClass RX8 = some m.cls := findClass_of_methodNamed B.named
  have hlocks := B.notSynchronized
  have hH : gH D G s s.heap [] σ μ := ⟨hP, va_S.rf⟩
  have hl := lv_entry ([.ref (G.1 0)]) (n := 1) (Nat.le_of_ble_eq_true rfl)
  rw [lg_entry_eq]
  generalize (lg_sl ([.ref (G.1 0)]) ++ List.replicate (1 - (lg_sl ([.ref (G.1 0)])).length) Slot.unset).toArray = ls at hl ⊢
  have hl : lv_has ls 1 [(0, .ref (G.1 0))] := hl
  unfold DX8_printAnew at h
  refine lv_aload_n hx hb0 dX8_printAnew_0 rfl (lv_at hl 0 rfl) ?_
  refine g_getR hx hb0 hts q_ws_X8 hown hX hH (C := RX8) (T := TX8) (N := 10) (k := 0) (i := 5) (j := 87) (rfl : gKinds[0]? = _) rfl (by decide) (hts _ q_fl_X8_43) rfl rfl dX8_printAnew_1 ?_
  refine lv_aload_n hx hb0 dX8_printAnew_4 rfl (lv_at hl 0 rfl) ?_
  refine g_getR hx hb0 hts q_ws_X8 hown hX hH (C := RX8) (T := TX8) (N := 10) (k := 0) (i := 0) (j := 1) (rfl : gKinds[0]? = _) rfl (by decide) (hts _ q_fl_X8_12) rfl rfl dX8_printAnew_5 ?_
  refine lv_aload_n hx hb0 dX8_printAnew_8 rfl (lv_at hl 0 rfl) ?_
  refine g_getR hx hb0 hts q_ws_X8 hown hX hH (C := RX8) (T := TX8) (N := 10) (k := 0) (i := 0) (j := 1) (rfl : gKinds[0]? = _) rfl (by decide) (hts _ q_fl_X8_12) rfl rfl dX8_printAnew_9 ?_
  refine lv_iconst (v := gI (0 : Int)) hx hb0 dX8_printAnew_12 (by decide) ?_
  obtain ⟨q13, e13, h⟩ := gBind_some h
  refine g_callVi (k := 1) (T := TX5) (N := 8) (As := [.int (gI (0 : Int))]) (rest := [.ref (G.1 1), .ref (G.1 87)]) ⟨hx, hb0, hml, hown, hts⟩ (metX5_setting l D G 1 gPlan_1 σ μ (0 : Int) q13 e13) (g_cwV (C := RX5) 1 hts q_ml_X8_82 q_im_X5_setting q_se_X5_setting q_in_X5 q_co_X5_setting ⟨rfl, rfl⟩ (by decide +kernel) ⟨Nat.le_of_ble_eq_true rfl, Nat.le_of_ble_eq_true rfl⟩) hX hH gPlan_1.k rfl rfl hl.1 rfl (Nat.le_of_ble_eq_true rfl) dX8_printAnew_13 ⟨Nat.zero_le _, Nat.zero_le _⟩ (fun H locs hH => ?_)
  obtain ⟨q16, e16, h⟩ := gBind_some h
  refine g_callVv (k := 87) (T := TX0) (N := 8) (As := [.ref (G.1 1), .int (gI q13)]) (rest := []) ⟨hx, hb0, hml, hown, hts⟩ (metX0_lay l D G 87 1 gBands_87 gPlan_1 σ μ q13 q16 e16) (g_cwV (C := RX0) 2 hts q_ml_X8_223 q_im_X0_lay q_se_X0_lay q_in_X0 q_co_X0_lay ⟨rfl, rfl⟩ (by decide +kernel) ⟨Nat.le_of_ble_eq_true rfl, Nat.le_of_ble_eq_true rfl⟩) hX hH gBands_87.k rfl rfl hl.1 rfl (Nat.le_of_ble_eq_true rfl) dX8_printAnew_16 ⟨Nat.zero_le _, Nat.zero_le _⟩ (fun H locs hH => ?_)
  refine lv_aload_n hx hb0 dX8_printAnew_19 rfl (lv_at hl 0 rfl) ?_
  refine g_getR hx hb0 hts q_ws_X8 hown hX hH (C := RX8) (T := TX8) (N := 10) (k := 0) (i := 6) (j := 96) (rfl : gKinds[0]? = _) rfl (by decide) (hts _ q_fl_X8_50) rfl rfl dX8_printAnew_20 ?_
  refine lv_aload_n hx hb0 dX8_printAnew_23 rfl (lv_at hl 0 rfl) ?_
  refine g_getR hx hb0 hts q_ws_X8 hown hX hH (C := RX8) (T := TX8) (N := 10) (k := 0) (i := 0) (j := 1) (rfl : gKinds[0]? = _) rfl (by decide) (hts _ q_fl_X8_12) rfl rfl dX8_printAnew_24 ?_
  refine lv_aload_n hx hb0 dX8_printAnew_27 rfl (lv_at hl 0 rfl) ?_
  refine g_getR hx hb0 hts q_ws_X8 hown hX hH (C := RX8) (T := TX8) (N := 10) (k := 0) (i := 5) (j := 87) (rfl : gKinds[0]? = _) rfl (by decide) (hts _ q_fl_X8_43) rfl rfl dX8_printAnew_28 ?_
  refine lv_aload_n hx hb0 dX8_printAnew_31 rfl (lv_at hl 0 rfl) ?_
  refine g_getR hx hb0 hts q_ws_X8 hown hX hH (C := RX8) (T := TX8) (N := 10) (k := 0) (i := 0) (j := 1) (rfl : gKinds[0]? = _) rfl (by decide) (hts _ q_fl_X8_12) rfl rfl dX8_printAnew_32 ?_
  refine lv_iconst (v := gI (1 : Int)) hx hb0 dX8_printAnew_35 (by decide) ?_
  obtain ⟨q36, e36, h⟩ := gBind_some h
  refine g_callVi (k := 1) (T := TX5) (N := 8) (As := [.int (gI (1 : Int))]) (rest := [.ref (G.1 87), .ref (G.1 1), .ref (G.1 96)]) ⟨hx, hb0, hml, hown, hts⟩ (metX5_setting l D G 1 gPlan_1 q16 μ (1 : Int) q36 e36) (g_cwV (C := RX5) 1 hts q_ml_X8_82 q_im_X5_setting q_se_X5_setting q_in_X5 q_co_X5_setting ⟨rfl, rfl⟩ (by decide +kernel) ⟨Nat.le_of_ble_eq_true rfl, Nat.le_of_ble_eq_true rfl⟩) hX hH gPlan_1.k rfl rfl hl.1 rfl (Nat.le_of_ble_eq_true rfl) dX8_printAnew_36 ⟨Nat.zero_le _, Nat.zero_le _⟩ (fun H locs hH => ?_)
  obtain ⟨q39, e39, h⟩ := gBind_some h
  refine g_callVv (k := 96) (T := TX6) (N := 5) (As := [.ref (G.1 1), .ref (G.1 87), .int (gI q36)]) (rest := []) ⟨hx, hb0, hml, hown, hts⟩ (metX6_print l D G 96 1 87 gSheets_96 gPlan_1 gBands_87 q16 μ q36 q39 e39) (g_cwV (C := RX6) 3 hts q_ml_X8_227 q_im_X6_print q_se_X6_print q_in_X6 q_co_X6_print ⟨rfl, rfl⟩ (by decide +kernel) ⟨Nat.le_of_ble_eq_true rfl, Nat.le_of_ble_eq_true rfl⟩) hX hH gSheets_96.k rfl rfl hl.1 rfl (Nat.le_of_ble_eq_true rfl) dX8_printAnew_39 ⟨Nat.zero_le _, Nat.zero_le _⟩ (fun H locs hH => ?_)
  refine lv_aload_n hx hb0 dX8_printAnew_42 rfl (lv_at hl 0 rfl) ?_
  refine g_getR hx hb0 hts q_ws_X8 hown hX hH (C := RX8) (T := TX8) (N := 10) (k := 0) (i := 7) (j := 105) (rfl : gKinds[0]? = _) rfl (by decide) (hts _ q_fl_X8_57) rfl rfl dX8_printAnew_43 ?_
  refine lv_aload_n hx hb0 dX8_printAnew_46 rfl (lv_at hl 0 rfl) ?_
  refine g_getR hx hb0 hts q_ws_X8 hown hX hH (C := RX8) (T := TX8) (N := 10) (k := 0) (i := 0) (j := 1) (rfl : gKinds[0]? = _) rfl (by decide) (hts _ q_fl_X8_12) rfl rfl dX8_printAnew_47 ?_
  refine lv_aload_n hx hb0 dX8_printAnew_50 rfl (lv_at hl 0 rfl) ?_
  refine g_getR hx hb0 hts q_ws_X8 hown hX hH (C := RX8) (T := TX8) (N := 10) (k := 0) (i := 5) (j := 87) (rfl : gKinds[0]? = _) rfl (by decide) (hts _ q_fl_X8_43) rfl rfl dX8_printAnew_51 ?_
  refine lv_aload_n hx hb0 dX8_printAnew_54 rfl (lv_at hl 0 rfl) ?_
  refine g_getR hx hb0 hts q_ws_X8 hown hX hH (C := RX8) (T := TX8) (N := 10) (k := 0) (i := 6) (j := 96) (rfl : gKinds[0]? = _) rfl (by decide) (hts _ q_fl_X8_50) rfl rfl dX8_printAnew_55 ?_
  obtain ⟨q58, e58, h⟩ := gBind_some h
  refine g_callVv (k := 105) (T := TX2) (N := 7) (As := [.ref (G.1 1), .ref (G.1 87), .ref (G.1 96)]) (rest := []) ⟨hx, hb0, hml, hown, hts⟩ (metX2_draw l D G 105 1 87 96 gExits_105 gPlan_1 gBands_87 gSheets_96 q39 μ q58 e58) (g_cwV (C := RX2) 3 hts q_ml_X8_294 q_im_X2_draw q_se_X2_draw q_in_X2 q_co_X2_draw ⟨rfl, rfl⟩ (by decide +kernel) ⟨Nat.le_of_ble_eq_true rfl, Nat.le_of_ble_eq_true rfl⟩) hX hH gExits_105.k rfl rfl hl.1 rfl (Nat.le_of_ble_eq_true rfl) dX8_printAnew_58 ⟨Nat.zero_le _, Nat.zero_le _⟩ (fun H locs hH => ?_)
  exact g_vretS hx hb0 hr hH hlocks dX8_printAnew_61 h
def DX8_set (σ : gSt) (a1 : Int) (a2 : Int) : Option (Nat ⊕ (Int × gSt)) :=
  (DX8_isSetting σ a1 a2).bind fun q2 => gIf (q2 = (0 : Int)) q2 (0 : Int) (some (.inl 1)) ((DX3_save 1 σ).bind fun q26 => (DX5_setting 1 q26 a1).bind fun q34 => (DX5_putSetting 1 q26 a1 a2).bind fun q44 => (DX8_printAnew q44).bind fun q48 => some (.inr (q34, q48)))
set_option maxHeartbeats 4000000 in
set_option maxRecDepth 100000 in
theorem metX8_set (l : Launch) (hlt : l.stackTraces = false) (D : va_G) (G : gAd) (σ : gSt) (μ : gLg) (a1 : Int) (a2 : Int) (r : Nat ⊕ (Int × gSt)) (h : DX8_set σ a1 a2 = some r) : vx_Met l yX8_set (gWs yX8_set cX8_set 4 (some (Jvm.ClassFile.FieldType.int))) ({ frames := 6, cells := 1, slots := 6, locals := 131 } : Room) (gPc D G [.ref (G.1 0), .int (gI a1), .int (gI a2)] σ μ) (gXs D G r μ) (gXC D G r σ μ) 1 6 (gA G) := by
  refine vx_ofW (cc := cX8_set) (maxL := 4) (ret := (some (Jvm.ClassFile.FieldType.int))) (by decide) rfl ?_
  intro p e s m args below meth c s₁ B hml hxt hv
  obtain ⟨rfl, hP, hX⟩ := hv
  have hx := B.exec
  have hb0 := B.bytes
  have hr := B.returns
  have hts0 := atoms_spec (ws := (gWs yX8_set cX8_set 4 (some (Jvm.ClassFile.FieldType.int)))) B.pre
  have hts : ∀ w ∈ gLW, w.before _ s = true := fun w hw => hts0 w (List.mem_cons_of_mem _ hw)
  have hown : s.vm.findClass RX8 = some m.cls := findClass_of_methodNamed B.named
  have hlocks := B.notSynchronized
  have hH : gH D G s s.heap [] σ μ := ⟨hP, va_S.rf⟩
  have hl := lv_entry ([.ref (G.1 0), .int (gI a1), .int (gI a2)]) (n := 4) (Nat.le_of_ble_eq_true rfl)
  rw [lg_entry_eq]
  generalize (lg_sl ([.ref (G.1 0), .int (gI a1), .int (gI a2)]) ++ List.replicate (4 - (lg_sl ([.ref (G.1 0), .int (gI a1), .int (gI a2)])).length) Slot.unset).toArray = ls at hl ⊢
  have hl : lv_has ls 4 [(0, .ref (G.1 0)), (1, .int (gI a1)), (2, .int (gI a2))] := hl
  unfold DX8_set at h
  refine lv_iload_n hx hb0 dX8_set_0 rfl (lv_at hl 1 rfl) ?_
  refine lv_iload_n hx hb0 dX8_set_1 rfl (lv_at hl 2 rfl) ?_
  obtain ⟨q2, e2, h⟩ := gBind_some h
  refine g_callSi (As := [.int (gI a1), .int (gI a2)]) (rest := []) ⟨hx, hb0, hml, hown, hts⟩ (metX8_isSetting l D G σ μ a1 a2 q2 e2) (g_cwS 2 hts q_ml_X8_67 q_st_X8_isSetting q_in_X8 q_co_X8_isSetting ⟨rfl, rfl⟩ (by decide +kernel) ⟨Nat.le_of_ble_eq_true rfl, Nat.le_of_ble_eq_true rfl⟩) hX hH rfl hl.1 rfl (Nat.le_of_ble_eq_true rfl) dX8_set_2 ⟨Nat.le_of_ble_eq_true rfl, Nat.le_of_ble_eq_true rfl⟩ (fun H locs hH => ?_)
  refine g_if_ne (tgt := 18) hx hb0 dX8_set_5 (by decide) h (fun h => ?_) (fun h => ?_)
  · refine lv_aload_n hx hb0 dX8_set_18 rfl (lv_at hl 0 rfl) ?_
    refine g_getR hx hb0 hts q_ws_X8 hown hX hH (C := RX8) (T := TX8) (N := 10) (k := 0) (i := 2) (j := 27) (rfl : gKinds[0]? = _) rfl (by decide) (hts _ q_fl_X8_22) rfl rfl dX8_set_19 ?_
    refine lv_aload_n hx hb0 dX8_set_22 rfl (lv_at hl 0 rfl) ?_
    refine g_getR hx hb0 hts q_ws_X8 hown hX hH (C := RX8) (T := TX8) (N := 10) (k := 0) (i := 0) (j := 1) (rfl : gKinds[0]? = _) rfl (by decide) (hts _ q_fl_X8_12) rfl rfl dX8_set_23 ?_
    obtain ⟨q26, e26, h⟩ := gBind_some h
    refine g_callVv (k := 27) (T := TX3) (N := 3) (As := [.ref (G.1 1)]) (rest := []) ⟨hx, hb0, hml, hown, hts⟩ (metX3_save l D G 1 gPlan_1 σ μ q26 e26) (g_cwV (C := RX3) 1 hts q_ml_X8_78 q_im_X3_save q_se_X3_save q_in_X3 q_co_X3_save ⟨rfl, rfl⟩ (by decide +kernel) ⟨Nat.le_of_ble_eq_true rfl, Nat.le_of_ble_eq_true rfl⟩) hX hH (rfl : gKinds[27]? = _) rfl rfl hl.1 rfl (Nat.le_of_ble_eq_true rfl) dX8_set_26 ⟨Nat.le_of_ble_eq_true rfl, Nat.le_of_ble_eq_true rfl⟩ (fun H locs hH => ?_)
    refine lv_aload_n hx hb0 dX8_set_29 rfl (lv_at hl 0 rfl) ?_
    refine g_getR hx hb0 hts q_ws_X8 hown hX hH (C := RX8) (T := TX8) (N := 10) (k := 0) (i := 0) (j := 1) (rfl : gKinds[0]? = _) rfl (by decide) (hts _ q_fl_X8_12) rfl rfl dX8_set_30 ?_
    refine lv_iload_n hx hb0 dX8_set_33 rfl (lv_at hl 1 rfl) ?_
    obtain ⟨q34, e34, h⟩ := gBind_some h
    refine g_callVi (k := 1) (T := TX5) (N := 8) (As := [.int (gI a1)]) (rest := []) ⟨hx, hb0, hml, hown, hts⟩ (metX5_setting l D G 1 gPlan_1 q26 μ a1 q34 e34) (g_cwV (C := RX5) 1 hts q_ml_X8_82 q_im_X5_setting q_se_X5_setting q_in_X5 q_co_X5_setting ⟨rfl, rfl⟩ (by decide +kernel) ⟨Nat.le_of_ble_eq_true rfl, Nat.le_of_ble_eq_true rfl⟩) hX hH gPlan_1.k rfl rfl hl.1 rfl (Nat.le_of_ble_eq_true rfl) dX8_set_34 ⟨Nat.le_of_ble_eq_true rfl, Nat.le_of_ble_eq_true rfl⟩ (fun H locs hH => ?_)
    refine lv_istore_n (lv' := [(3, .int (gI q34)), (0, .ref (G.1 0)), (1, .int (gI a1)), (2, .int (gI a2))]) hx hb0 dX8_set_37 rfl hl (by decide) rfl (fun ls hl => ?_)
    refine lv_aload_n hx hb0 dX8_set_38 rfl (lv_at hl 1 rfl) ?_
    refine g_getR hx hb0 hts q_ws_X8 hown hX hH (C := RX8) (T := TX8) (N := 10) (k := 0) (i := 0) (j := 1) (rfl : gKinds[0]? = _) rfl (by decide) (hts _ q_fl_X8_12) rfl rfl dX8_set_39 ?_
    refine lv_iload_n hx hb0 dX8_set_42 rfl (lv_at hl 2 rfl) ?_
    refine lv_iload_n hx hb0 dX8_set_43 rfl (lv_at hl 3 rfl) ?_
    obtain ⟨q44, e44, h⟩ := gBind_some h
    refine g_callVv (k := 1) (T := TX5) (N := 8) (As := [.int (gI a1), .int (gI a2)]) (rest := []) ⟨hx, hb0, hml, hown, hts⟩ (metX5_putSetting l D G 1 gPlan_1 q26 μ a1 a2 q44 e44) (g_cwV (C := RX5) 2 hts q_ml_X8_86 q_im_X5_putSetting q_se_X5_putSetting q_in_X5 q_co_X5_putSetting ⟨rfl, rfl⟩ (by decide +kernel) ⟨Nat.le_of_ble_eq_true rfl, Nat.le_of_ble_eq_true rfl⟩) hX hH gPlan_1.k rfl rfl hl.1 rfl (Nat.le_of_ble_eq_true rfl) dX8_set_44 ⟨Nat.le_of_ble_eq_true rfl, Nat.le_of_ble_eq_true rfl⟩ (fun H locs hH => ?_)
    refine lv_aload_n hx hb0 dX8_set_47 rfl (lv_at hl 1 rfl) ?_
    obtain ⟨q48, e48, h⟩ := gBind_some h
    refine g_callVv (k := 0) (T := TX8) (N := 10) (As := []) (rest := []) ⟨hx, hb0, hml, hown, hts⟩ (metX8_printAnew l D G q44 μ q48 e48) (g_cwV (C := RX8) 0 hts q_ml_X8_90 q_im_X8_printAnew q_se_X8_printAnew q_in_X8 q_co_X8_printAnew ⟨rfl, rfl⟩ (by decide +kernel) ⟨Nat.le_of_ble_eq_true rfl, Nat.le_of_ble_eq_true rfl⟩) hX hH (rfl : gKinds[0]? = _) rfl rfl hl.1 rfl (Nat.le_of_ble_eq_true rfl) dX8_set_48 ⟨Nat.le_of_ble_eq_true rfl, Nat.le_of_ble_eq_true rfl⟩ (fun H locs hH => ?_)
    refine lv_iload_n hx hb0 dX8_set_51 rfl (lv_at hl 0 rfl) ?_
    exact g_xsret hx hb0 hr hH hlocks (Nat.le_of_ble_eq_true rfl) (Nat.le_of_ble_eq_true rfl) dX8_set_52 h
  · exact g_throwS (text := "no such setting, or a value out of its range") (k := 1) hx hb0 hlt hown hts hX hH rfl q_cl_X8_71 q_in_java_lang_IllegalArgumentException g_bad1 g_ok1 g_ot1 (by decide +kernel) (by decide +kernel) (hl.1.trans hml.symm) dX8_set_8 dX8_set_11 dX8_set_12 dX8_set_14 dX8_set_17 hxt ⟨⟨Nat.le_of_ble_eq_true rfl, Nat.le_of_ble_eq_true rfl⟩, Nat.le_of_ble_eq_true rfl, Nat.le_of_ble_eq_true rfl⟩ hlocks ⟨Nat.le_of_ble_eq_true rfl, Nat.le_of_ble_eq_true rfl⟩ h
def DX8_numberOfPlan (σ : gSt) (a1 : Int) : Option (Int) :=
  gIf (a1 = (4 : Int)) a1 (4 : Int) ((DX5_taskCount 1 σ).bind fun q32 => some q32) (gIf (a1 = (5 : Int)) a1 (5 : Int) ((DX5_arrowCount 1 σ).bind fun q40 => some q40) ((DX5_setting 1 σ a1).bind fun q49 => some q49))
set_option maxHeartbeats 4000000 in
set_option maxRecDepth 100000 in
theorem metX8_numberOfPlan (l : Launch) (D : va_G) (G : gAd) (σ : gSt) (μ : gLg) (a1 : Int) (r : Int) (h : DX8_numberOfPlan σ a1 = some r) : Met l yX8_numberOfPlan (gWs yX8_numberOfPlan cX8_numberOfPlan 2 (some (Jvm.ClassFile.FieldType.int))) ({ frames := 2, cells := 0, slots := 0, locals := 42 } : Room) (gPc D G [.ref (G.1 0), .int (gI a1)] σ μ) (gQi D G r σ μ) 0 0 (gA G) := by
  refine Met.ofW (cc := cX8_numberOfPlan) (maxL := 2) (ret := (some (Jvm.ClassFile.FieldType.int))) (by decide) rfl ?_
  intro p e s m args below meth c s₁ B hml hv
  obtain ⟨rfl, hP, hX⟩ := hv
  have hx := B.exec
  have hb0 := B.bytes
  have hr := B.returns
  have hts0 := atoms_spec (ws := (gWs yX8_numberOfPlan cX8_numberOfPlan 2 (some (Jvm.ClassFile.FieldType.int)))) B.pre
  have hts : ∀ w ∈ gLW, w.before _ s = true := fun w hw => hts0 w (List.mem_cons_of_mem _ hw)
  have hown : s.vm.findClass RX8 = some m.cls := findClass_of_methodNamed B.named
  have hlocks := B.notSynchronized
  have hH : gH D G s s.heap [] σ μ := ⟨hP, va_S.rf⟩
  have hl := lv_entry ([.ref (G.1 0), .int (gI a1)]) (n := 2) (Nat.le_of_ble_eq_true rfl)
  rw [lg_entry_eq]
  generalize (lg_sl ([.ref (G.1 0), .int (gI a1)]) ++ List.replicate (2 - (lg_sl ([.ref (G.1 0), .int (gI a1)])).length) Slot.unset).toArray = ls at hl ⊢
  have hl : lv_has ls 2 [(0, .ref (G.1 0)), (1, .int (gI a1))] := hl
  unfold DX8_numberOfPlan at h
  refine lv_iload_n hx hb0 dX8_numberOfPlan_0 rfl (lv_at hl 1 rfl) ?_
  obtain ⟨hgr, -, h⟩ := gIf_some h
  rcases h with ⟨hc4, h⟩ | ⟨hc4, h⟩
  · refine g_lookIn (i := (4 : Int)) (off := 27) (tgt := 28) hx hb0 dX8_numberOfPlan_1 (by decide) hc4 (by decide) rfl (by decide) ?_
    refine lv_aload_n hx hb0 dX8_numberOfPlan_28 rfl (lv_at hl 0 rfl) ?_
    refine g_getR hx hb0 hts q_ws_X8 hown hX hH (C := RX8) (T := TX8) (N := 10) (k := 0) (i := 0) (j := 1) (rfl : gKinds[0]? = _) rfl (by decide) (hts _ q_fl_X8_12) rfl rfl dX8_numberOfPlan_29 ?_
    obtain ⟨q32, e32, h⟩ := gBind_some h
    refine g_callVi (k := 1) (T := TX5) (N := 8) (As := []) (rest := []) ⟨hx, hb0, hml, hown, hts⟩ (metX5_taskCount l D G 1 gPlan_1 σ μ q32 e32) (g_cwV (C := RX5) 0 hts q_ml_X8_103 q_im_X5_taskCount q_se_X5_taskCount q_in_X5 q_co_X5_taskCount ⟨rfl, rfl⟩ (by decide +kernel) ⟨Nat.le_of_ble_eq_true rfl, Nat.le_of_ble_eq_true rfl⟩) hX hH gPlan_1.k rfl rfl hl.1 rfl (Nat.le_of_ble_eq_true rfl) dX8_numberOfPlan_32 ⟨Nat.zero_le _, Nat.zero_le _⟩ (fun H locs hH => ?_)
    exact g_iretP hx hb0 hr hH hlocks dX8_numberOfPlan_35 h
  · obtain ⟨hgr, -, h⟩ := gIf_some h
    rcases h with ⟨hc5, h⟩ | ⟨hc5, h⟩
    · refine g_lookIn (i := (5 : Int)) (off := 35) (tgt := 36) hx hb0 dX8_numberOfPlan_1 (by decide) hc5 (by decide) rfl (by decide) ?_
      refine lv_aload_n hx hb0 dX8_numberOfPlan_36 rfl (lv_at hl 0 rfl) ?_
      refine g_getR hx hb0 hts q_ws_X8 hown hX hH (C := RX8) (T := TX8) (N := 10) (k := 0) (i := 0) (j := 1) (rfl : gKinds[0]? = _) rfl (by decide) (hts _ q_fl_X8_12) rfl rfl dX8_numberOfPlan_37 ?_
      obtain ⟨q40, e40, h⟩ := gBind_some h
      refine g_callVi (k := 1) (T := TX5) (N := 8) (As := []) (rest := []) ⟨hx, hb0, hml, hown, hts⟩ (metX5_arrowCount l D G 1 gPlan_1 σ μ q40 e40) (g_cwV (C := RX5) 0 hts q_ml_X8_137 q_im_X5_arrowCount q_se_X5_arrowCount q_in_X5 q_co_X5_arrowCount ⟨rfl, rfl⟩ (by decide +kernel) ⟨Nat.le_of_ble_eq_true rfl, Nat.le_of_ble_eq_true rfl⟩) hX hH gPlan_1.k rfl rfl hl.1 rfl (Nat.le_of_ble_eq_true rfl) dX8_numberOfPlan_40 ⟨Nat.zero_le _, Nat.zero_le _⟩ (fun H locs hH => ?_)
      exact g_iretP hx hb0 hr hH hlocks dX8_numberOfPlan_43 h
    · refine g_lookOut2 (a := (4 : Int)) (b := (5 : Int)) (oa := 27) (ob := 35) (tgt := 44) hx hb0 dX8_numberOfPlan_1 (by decide) rfl hgr hc4 hc5 (by decide) ?_
      refine lv_aload_n hx hb0 dX8_numberOfPlan_44 rfl (lv_at hl 0 rfl) ?_
      refine g_getR hx hb0 hts q_ws_X8 hown hX hH (C := RX8) (T := TX8) (N := 10) (k := 0) (i := 0) (j := 1) (rfl : gKinds[0]? = _) rfl (by decide) (hts _ q_fl_X8_12) rfl rfl dX8_numberOfPlan_45 ?_
      refine lv_iload_n hx hb0 dX8_numberOfPlan_48 rfl (lv_at hl 1 rfl) ?_
      obtain ⟨q49, e49, h⟩ := gBind_some h
      refine g_callVi (k := 1) (T := TX5) (N := 8) (As := [.int (gI a1)]) (rest := []) ⟨hx, hb0, hml, hown, hts⟩ (metX5_setting l D G 1 gPlan_1 σ μ a1 q49 e49) (g_cwV (C := RX5) 1 hts q_ml_X8_82 q_im_X5_setting q_se_X5_setting q_in_X5 q_co_X5_setting ⟨rfl, rfl⟩ (by decide +kernel) ⟨Nat.le_of_ble_eq_true rfl, Nat.le_of_ble_eq_true rfl⟩) hX hH gPlan_1.k rfl rfl hl.1 rfl (Nat.le_of_ble_eq_true rfl) dX8_numberOfPlan_49 ⟨Nat.zero_le _, Nat.zero_le _⟩ (fun H locs hH => ?_)
      exact g_iretP hx hb0 hr hH hlocks dX8_numberOfPlan_52 h
def DX8_value_J10  : Option (Nat ⊕ Int) :=
  some (.inl 1)
def DX8_value (σ : gSt) (a1 : Int) : Option (Nat ⊕ Int) :=
  gIf (a1 < (0 : Int)) a1 (0 : Int) ((DX8_value_J10)) (gIf (a1 < (6 : Int)) a1 (6 : Int) ((DX8_numberOfPlan σ a1).bind fun q22 => some (.inr q22)) ((DX8_value_J10)))
set_option maxHeartbeats 4000000 in
set_option maxRecDepth 100000 in
theorem metX8_value (l : Launch) (hlt : l.stackTraces = false) (D : va_G) (G : gAd) (σ : gSt) (μ : gLg) (a1 : Int) (r : Nat ⊕ Int) (h : DX8_value σ a1 = some r) : vx_Met l yX8_value (gWs yX8_value cX8_value 2 (some (Jvm.ClassFile.FieldType.int))) ({ frames := 6, cells := 1, slots := 6, locals := 82 } : Room) (gPc D G [.ref (G.1 0), .int (gI a1)] σ μ) (gXp D G r σ μ) (gXC D G r σ μ) 1 6 (gA G) := by
  refine vx_ofW (cc := cX8_value) (maxL := 2) (ret := (some (Jvm.ClassFile.FieldType.int))) (by decide) rfl ?_
  intro p e s m args below meth c s₁ B hml hxt hv
  obtain ⟨rfl, hP, hX⟩ := hv
  have hx := B.exec
  have hb0 := B.bytes
  have hr := B.returns
  have hts0 := atoms_spec (ws := (gWs yX8_value cX8_value 2 (some (Jvm.ClassFile.FieldType.int)))) B.pre
  have hts : ∀ w ∈ gLW, w.before _ s = true := fun w hw => hts0 w (List.mem_cons_of_mem _ hw)
  have hown : s.vm.findClass RX8 = some m.cls := findClass_of_methodNamed B.named
  have hlocks := B.notSynchronized
  have hH : gH D G s s.heap [] σ μ := ⟨hP, va_S.rf⟩
  have hl := lv_entry ([.ref (G.1 0), .int (gI a1)]) (n := 2) (Nat.le_of_ble_eq_true rfl)
  rw [lg_entry_eq]
  generalize (lg_sl ([.ref (G.1 0), .int (gI a1)]) ++ List.replicate (2 - (lg_sl ([.ref (G.1 0), .int (gI a1)])).length) Slot.unset).toArray = ls at hl ⊢
  have hl : lv_has ls 2 [(0, .ref (G.1 0)), (1, .int (gI a1))] := hl
  unfold DX8_value at h
  refine lv_iload_n hx hb0 dX8_value_0 rfl (lv_at hl 1 rfl) ?_
  have hJ10 : ∀  (H : Heap) (locs : List Loc) (ls : Array Slot), gH D G s H locs σ μ → lv_has ls 2 [] → (DX8_value_J10) = some r → W p l e (headSpec (gWs yX8_value cX8_value 2 (some (Jvm.ClassFile.FieldType.int))) ({ frames := 6, cells := 1, slots := 6, locals := 82 } : Room)).room s m ([.ref (G.1 0), .int (gI a1)] : List Value).toArray below meth c H locs 0 0 (vx_MQ below (gXp D G r σ μ) (gXC D G r σ μ) ([.ref (G.1 0), .int (gI a1)] : List Value).toArray s 1 6 (gA G)) (F0 m 10 ls []) := by
    intro H locs ls hH hl h
    unfold DX8_value_J10 at h
    exact g_throwS (text := "no such value") (k := 1) hx hb0 hlt hown hts hX hH rfl q_cl_X8_71 q_in_java_lang_IllegalArgumentException g_bad1 g_ok1 g_ot1 (by decide +kernel) (by decide +kernel) (hl.1.trans hml.symm) dX8_value_10 dX8_value_13 dX8_value_14 dX8_value_16 dX8_value_19 hxt ⟨⟨Nat.le_of_ble_eq_true rfl, Nat.le_of_ble_eq_true rfl⟩, Nat.le_of_ble_eq_true rfl, Nat.le_of_ble_eq_true rfl⟩ hlocks ⟨Nat.le_of_ble_eq_true rfl, Nat.le_of_ble_eq_true rfl⟩ h
  refine g_if_lt (tgt := 10) hx hb0 dX8_value_1 (by decide) h (fun h => ?_) (fun h => ?_)
  · exact hJ10  _ _ _ hH (lv_sub hl [] rfl) h
  · refine lv_iload_n hx hb0 dX8_value_4 rfl (lv_at hl 1 rfl) ?_
    refine lv_bipush (v := gI (6 : Int)) hx hb0 dX8_value_5 (by decide) ?_
    refine g_icmp_lt (tgt := 20) hx hb0 dX8_value_7 (by decide) h (fun h => ?_) (fun h => ?_)
    · refine lv_aload_n hx hb0 dX8_value_20 rfl (lv_at hl 0 rfl) ?_
      refine lv_iload_n hx hb0 dX8_value_21 rfl (lv_at hl 1 rfl) ?_
      obtain ⟨q22, e22, h⟩ := gBind_some h
      refine g_callVi (k := 0) (T := TX8) (N := 10) (As := [.int (gI a1)]) (rest := []) ⟨hx, hb0, hml, hown, hts⟩ (metX8_numberOfPlan l D G σ μ a1 q22 e22) (g_cwV (C := RX8) 1 hts q_ml_X8_95 q_im_X8_numberOfPlan q_se_X8_numberOfPlan q_in_X8 q_co_X8_numberOfPlan ⟨rfl, rfl⟩ (by decide +kernel) ⟨Nat.le_of_ble_eq_true rfl, Nat.le_of_ble_eq_true rfl⟩) hX hH (rfl : gKinds[0]? = _) rfl rfl hl.1 rfl (Nat.le_of_ble_eq_true rfl) dX8_value_22 ⟨Nat.le_of_ble_eq_true rfl, Nat.le_of_ble_eq_true rfl⟩ (fun H locs hH => ?_)
      exact g_xpret hx hb0 hr hH hlocks (Nat.le_of_ble_eq_true rfl) (Nat.le_of_ble_eq_true rfl) dX8_value_25 h
    · exact hJ10  _ _ _ hH (lv_sub hl [] rfl) h
def DX8_isBar (σ : gSt) (a0 : Int) (a1 : Int) : Option (Int) :=
  gIf (a0 < (0 : Int)) a0 (0 : Int) (gBo (0 : Int) (some (0 : Int))) (gIf ((199 : Int) < a0) a0 (199 : Int) (gBo (0 : Int) (some (0 : Int))) (gIf (a1 < (1 : Int)) a1 (1 : Int) (gBo (0 : Int) (some (0 : Int))) (gIf ((60 : Int) < a1) a1 (60 : Int) (gBo (0 : Int) (some (0 : Int))) (gBo (1 : Int) (some (1 : Int))))))
set_option maxHeartbeats 4000000 in
set_option maxRecDepth 100000 in
theorem metX8_isBar (l : Launch) (D : va_G) (G : gAd) (σ : gSt) (μ : gLg) (a0 : Int) (a1 : Int) (r : Int) (h : DX8_isBar σ a0 a1 = some r) : Met l yX8_isBar (gWs yX8_isBar cX8_isBar 2 (some (Jvm.ClassFile.FieldType.boolean))) ({ frames := 0, cells := 0, slots := 0, locals := 0 } : Room) (gPc D G [.int (gI a0), .int (gI a1)] σ μ) (gQi D G r σ μ) 0 0 (gA G) := by
  refine Met.ofW (cc := cX8_isBar) (maxL := 2) (ret := (some (Jvm.ClassFile.FieldType.boolean))) (by decide) rfl ?_
  intro p e s m args below meth c s₁ B hml hv
  obtain ⟨rfl, hP, hX⟩ := hv
  have hx := B.exec
  have hb0 := B.bytes
  have hr := B.returns
  have hts0 := atoms_spec (ws := (gWs yX8_isBar cX8_isBar 2 (some (Jvm.ClassFile.FieldType.boolean)))) B.pre
  have hts : ∀ w ∈ gLW, w.before _ s = true := fun w hw => hts0 w (List.mem_cons_of_mem _ hw)
  have hown : s.vm.findClass RX8 = some m.cls := findClass_of_methodNamed B.named
  have hlocks := B.notSynchronized
  have hH : gH D G s s.heap [] σ μ := ⟨hP, va_S.rf⟩
  have hl := lv_entry ([.int (gI a0), .int (gI a1)]) (n := 2) (Nat.le_of_ble_eq_true rfl)
  rw [lg_entry_eq]
  generalize (lg_sl ([.int (gI a0), .int (gI a1)]) ++ List.replicate (2 - (lg_sl ([.int (gI a0), .int (gI a1)])).length) Slot.unset).toArray = ls at hl ⊢
  have hl : lv_has ls 2 [(0, .int (gI a0)), (1, .int (gI a1))] := hl
  unfold DX8_isBar at h
  refine lv_iload_n hx hb0 dX8_isBar_0 rfl (lv_at hl 0 rfl) ?_
  refine g_if_lt (tgt := 26) hx hb0 dX8_isBar_1 (by decide) h (fun h => ?_) (fun h => ?_)
  · refine lv_iconst (v := gI (0 : Int)) hx hb0 dX8_isBar_26 (by decide) ?_
    exact g_zretP hx hb0 hr hH hlocks dX8_isBar_27 h
  · refine lv_iload_n hx hb0 dX8_isBar_4 rfl (lv_at hl 0 rfl) ?_
    refine lv_sipush (v := gI (199 : Int)) hx hb0 dX8_isBar_5 (by decide) ?_
    refine g_icmp_gt (tgt := 26) hx hb0 dX8_isBar_8 (by decide) h (fun h => ?_) (fun h => ?_)
    · refine lv_iconst (v := gI (0 : Int)) hx hb0 dX8_isBar_26 (by decide) ?_
      exact g_zretP hx hb0 hr hH hlocks dX8_isBar_27 h
    · refine lv_iload_n hx hb0 dX8_isBar_11 rfl (lv_at hl 1 rfl) ?_
      refine lv_iconst (v := gI (1 : Int)) hx hb0 dX8_isBar_12 (by decide) ?_
      refine g_icmp_lt (tgt := 26) hx hb0 dX8_isBar_13 (by decide) h (fun h => ?_) (fun h => ?_)
      · refine lv_iconst (v := gI (0 : Int)) hx hb0 dX8_isBar_26 (by decide) ?_
        exact g_zretP hx hb0 hr hH hlocks dX8_isBar_27 h
      · refine lv_iload_n hx hb0 dX8_isBar_16 rfl (lv_at hl 1 rfl) ?_
        refine lv_bipush (v := gI (60 : Int)) hx hb0 dX8_isBar_17 (by decide) ?_
        refine g_icmp_gt (tgt := 26) hx hb0 dX8_isBar_19 (by decide) h (fun h => ?_) (fun h => ?_)
        · refine lv_iconst (v := gI (0 : Int)) hx hb0 dX8_isBar_26 (by decide) ?_
          exact g_zretP hx hb0 hr hH hlocks dX8_isBar_27 h
        · refine lv_iconst (v := gI (1 : Int)) hx hb0 dX8_isBar_22 (by decide) ?_
          refine lv_goto (tgt := 27) hx hb0 dX8_isBar_23 (by decide) ?_
          exact g_zretP hx hb0 hr hH hlocks dX8_isBar_27 h
def DX5_putBar (b : Nat) (σ : gSt) (a1 : Int) (a2 : Int) (a3 : Int) : Option (gSt) :=
  (DX4_put (b + 5) 24 σ a1 a2).bind fun q6 => (DX4_put (b + 7) 24 q6 a1 a3).bind fun q15 => some q15
set_option maxHeartbeats 4000000 in
set_option maxRecDepth 100000 in
theorem metX5_putBar (l : Launch) (D : va_G) (G : gAd) (b : Nat) (hb : gPlan b) (σ : gSt) (μ : gLg) (a1 : Int) (a2 : Int) (a3 : Int) (σ' : gSt) (h : DX5_putBar b σ a1 a2 a3 = some σ') : Met l yX5_putBar (gWs yX5_putBar cX5_putBar 4 none) ({ frames := 1, cells := 0, slots := 0, locals := 22 } : Room) (gPc D G [.ref (G.1 b), .int (gI a1), .int (gI a2), .int (gI a3)] σ μ) (gQv D G σ' μ) 0 0 (gA G) := by
  refine Met.ofW (cc := cX5_putBar) (maxL := 4) (ret := none) (by decide) rfl ?_
  intro p e s m args below meth c s₁ B hml hv
  obtain ⟨rfl, hP, hX⟩ := hv
  have hx := B.exec
  have hb0 := B.bytes
  have hr := B.returns
  have hts0 := atoms_spec (ws := (gWs yX5_putBar cX5_putBar 4 none)) B.pre
  have hts : ∀ w ∈ gLW, w.before _ s = true := fun w hw => hts0 w (List.mem_cons_of_mem _ hw)
  have hown : s.vm.findClass RX5 = some m.cls := findClass_of_methodNamed B.named
  have hlocks := B.notSynchronized
  have hH : gH D G s s.heap [] σ μ := ⟨hP, va_S.rf⟩
  have hl := lv_entry ([.ref (G.1 b), .int (gI a1), .int (gI a2), .int (gI a3)]) (n := 4) (Nat.le_of_ble_eq_true rfl)
  rw [lg_entry_eq]
  generalize (lg_sl ([.ref (G.1 b), .int (gI a1), .int (gI a2), .int (gI a3)]) ++ List.replicate (4 - (lg_sl ([.ref (G.1 b), .int (gI a1), .int (gI a2), .int (gI a3)])).length) Slot.unset).toArray = ls at hl ⊢
  have hl : lv_has ls 4 [(0, .ref (G.1 b)), (1, .int (gI a1)), (2, .int (gI a2)), (3, .int (gI a3))] := hl
  unfold DX5_putBar at h
  refine lv_aload_n hx hb0 dX5_putBar_0 rfl (lv_at hl 0 rfl) ?_
  refine g_getR hx hb0 hts q_ws_X5 hown hX hH (C := RX5) (T := TX5) (N := 8) (k := b) (i := 2) (j := (b + 5)) hb.k rfl (by decide) (hts _ q_fl_X5_23) rfl rfl dX5_putBar_1 ?_
  refine lv_iload_n hx hb0 dX5_putBar_4 rfl (lv_at hl 1 rfl) ?_
  refine lv_iload_n hx hb0 dX5_putBar_5 rfl (lv_at hl 2 rfl) ?_
  obtain ⟨q6, e6, h⟩ := gBind_some h
  refine g_callVv (k := (b + 5)) (T := TX4) (N := 1) (As := [.int (gI a1), .int (gI a2)]) (rest := []) ⟨hx, hb0, hml, hown, hts⟩ (metX4_put l D G (b + 5) 24 (hb.n2) σ μ a1 a2 q6 e6) (g_cwV (C := RX4) 2 hts q_ml_X5_39 q_im_X4_put q_se_X4_put q_in_X4 q_co_X4_put ⟨rfl, rfl⟩ (by decide +kernel) ⟨Nat.le_of_ble_eq_true rfl, Nat.le_of_ble_eq_true rfl⟩) hX hH ((hb.n2)).1 rfl rfl hl.1 rfl (Nat.le_of_ble_eq_true rfl) dX5_putBar_6 ⟨Nat.zero_le _, Nat.zero_le _⟩ (fun H locs hH => ?_)
  refine lv_aload_n hx hb0 dX5_putBar_9 rfl (lv_at hl 0 rfl) ?_
  refine g_getR hx hb0 hts q_ws_X5 hown hX hH (C := RX5) (T := TX5) (N := 8) (k := b) (i := 3) (j := (b + 7)) hb.k rfl (by decide) (hts _ q_fl_X5_26) rfl rfl dX5_putBar_10 ?_
  refine lv_iload_n hx hb0 dX5_putBar_13 rfl (lv_at hl 1 rfl) ?_
  refine lv_iload_n hx hb0 dX5_putBar_14 rfl (lv_at hl 3 rfl) ?_
  obtain ⟨q15, e15, h⟩ := gBind_some h
  refine g_callVv (k := (b + 7)) (T := TX4) (N := 1) (As := [.int (gI a1), .int (gI a3)]) (rest := []) ⟨hx, hb0, hml, hown, hts⟩ (metX4_put l D G (b + 7) 24 (hb.n3) q6 μ a1 a3 q15 e15) (g_cwV (C := RX4) 2 hts q_ml_X5_39 q_im_X4_put q_se_X4_put q_in_X4 q_co_X4_put ⟨rfl, rfl⟩ (by decide +kernel) ⟨Nat.le_of_ble_eq_true rfl, Nat.le_of_ble_eq_true rfl⟩) hX hH ((hb.n3)).1 rfl rfl hl.1 rfl (Nat.le_of_ble_eq_true rfl) dX5_putBar_15 ⟨Nat.zero_le _, Nat.zero_le _⟩ (fun H locs hH => ?_)
  exact g_vretS hx hb0 hr hH hlocks dX5_putBar_18 h
def DX5_tellTask (b : Nat) (σ : gSt) (a1 : Int) (a2 : Int) (a3 : Int) : Option (Int × gSt) :=
  gIf ((σ b 6) < (24 : Int)) (σ b 6) (24 : Int) ((DX4_put (b + 3) 24 σ (σ b 6) a1).bind fun q20 => (DX5_putBar b q20 (q20 b 6) a2 a3).bind fun q30 => some ((((gUp q30 b 6 ((q30 b 6) + (1 : Int))) b 6) - (1 : Int)), (gUp q30 b 6 ((q30 b 6) + (1 : Int))))) (some ((-1 : Int), σ))
set_option maxHeartbeats 4000000 in
set_option maxRecDepth 100000 in
theorem metX5_tellTask (l : Launch) (D : va_G) (G : gAd) (b : Nat) (hb : gPlan b) (σ : gSt) (μ : gLg) (a1 : Int) (a2 : Int) (a3 : Int) (r : Int) (σ' : gSt) (h : DX5_tellTask b σ a1 a2 a3 = some (r, σ')) : Met l yX5_tellTask (gWs yX5_tellTask cX5_tellTask 4 (some (Jvm.ClassFile.FieldType.int))) ({ frames := 2, cells := 0, slots := 0, locals := 45 } : Room) (gPc D G [.ref (G.1 b), .int (gI a1), .int (gI a2), .int (gI a3)] σ μ) (gQi D G r σ' μ) 0 0 (gA G) := by
  refine Met.ofW (cc := cX5_tellTask) (maxL := 4) (ret := (some (Jvm.ClassFile.FieldType.int))) (by decide) rfl ?_
  intro p e s m args below meth c s₁ B hml hv
  obtain ⟨rfl, hP, hX⟩ := hv
  have hx := B.exec
  have hb0 := B.bytes
  have hr := B.returns
  have hts0 := atoms_spec (ws := (gWs yX5_tellTask cX5_tellTask 4 (some (Jvm.ClassFile.FieldType.int)))) B.pre
  have hts : ∀ w ∈ gLW, w.before _ s = true := fun w hw => hts0 w (List.mem_cons_of_mem _ hw)
  have hown : s.vm.findClass RX5 = some m.cls := findClass_of_methodNamed B.named
  have hlocks := B.notSynchronized
  have hH : gH D G s s.heap [] σ μ := ⟨hP, va_S.rf⟩
  have hl := lv_entry ([.ref (G.1 b), .int (gI a1), .int (gI a2), .int (gI a3)]) (n := 4) (Nat.le_of_ble_eq_true rfl)
  rw [lg_entry_eq]
  generalize (lg_sl ([.ref (G.1 b), .int (gI a1), .int (gI a2), .int (gI a3)]) ++ List.replicate (4 - (lg_sl ([.ref (G.1 b), .int (gI a1), .int (gI a2), .int (gI a3)])).length) Slot.unset).toArray = ls at hl ⊢
  have hl : lv_has ls 4 [(0, .ref (G.1 b)), (1, .int (gI a1)), (2, .int (gI a2)), (3, .int (gI a3))] := hl
  unfold DX5_tellTask at h
  refine lv_aload_n hx hb0 dX5_tellTask_0 rfl (lv_at hl 0 rfl) ?_
  refine g_getI hx hb0 hts q_ws_X5 hown hX hH (C := RX5) (T := TX5) (N := 8) (k := b) (i := 6) hb.k rfl (by decide) (hts _ q_fl_X5_47) rfl rfl dX5_tellTask_1 ?_
  refine lv_bipush (v := gI (24 : Int)) hx hb0 dX5_tellTask_4 (by decide) ?_
  refine g_icmp_lt (tgt := 11) hx hb0 dX5_tellTask_6 (by decide) h (fun h => ?_) (fun h => ?_)
  · refine lv_aload_n hx hb0 dX5_tellTask_11 rfl (lv_at hl 0 rfl) ?_
    refine g_getR hx hb0 hts q_ws_X5 hown hX hH (C := RX5) (T := TX5) (N := 8) (k := b) (i := 1) (j := (b + 3)) hb.k rfl (by decide) (hts _ q_fl_X5_20) rfl rfl dX5_tellTask_12 ?_
    refine lv_aload_n hx hb0 dX5_tellTask_15 rfl (lv_at hl 0 rfl) ?_
    refine g_getI hx hb0 hts q_ws_X5 hown hX hH (C := RX5) (T := TX5) (N := 8) (k := b) (i := 6) hb.k rfl (by decide) (hts _ q_fl_X5_47) rfl rfl dX5_tellTask_16 ?_
    refine lv_iload_n hx hb0 dX5_tellTask_19 rfl (lv_at hl 1 rfl) ?_
    obtain ⟨q20, e20, h⟩ := gBind_some h
    refine g_callVv (k := (b + 3)) (T := TX4) (N := 1) (As := [.int (gI (σ b 6)), .int (gI a1)]) (rest := []) ⟨hx, hb0, hml, hown, hts⟩ (metX4_put l D G (b + 3) 24 (hb.n1) σ μ (σ b 6) a1 q20 e20) (g_cwV (C := RX4) 2 hts q_ml_X5_39 q_im_X4_put q_se_X4_put q_in_X4 q_co_X4_put ⟨rfl, rfl⟩ (by decide +kernel) ⟨Nat.le_of_ble_eq_true rfl, Nat.le_of_ble_eq_true rfl⟩) hX hH ((hb.n1)).1 rfl rfl hl.1 rfl (Nat.le_of_ble_eq_true rfl) dX5_tellTask_20 ⟨Nat.zero_le _, Nat.zero_le _⟩ (fun H locs hH => ?_)
    refine lv_aload_n hx hb0 dX5_tellTask_23 rfl (lv_at hl 0 rfl) ?_
    refine lv_aload_n hx hb0 dX5_tellTask_24 rfl (lv_at hl 0 rfl) ?_
    refine g_getI hx hb0 hts q_ws_X5 hown hX hH (C := RX5) (T := TX5) (N := 8) (k := b) (i := 6) hb.k rfl (by decide) (hts _ q_fl_X5_47) rfl rfl dX5_tellTask_25 ?_
    refine lv_iload_n hx hb0 dX5_tellTask_28 rfl (lv_at hl 2 rfl) ?_
    refine lv_iload_n hx hb0 dX5_tellTask_29 rfl (lv_at hl 3 rfl) ?_
    obtain ⟨q30, e30, h⟩ := gBind_some h
    refine g_callVv (k := b) (T := TX5) (N := 8) (As := [.int (gI (q20 b 6)), .int (gI a2), .int (gI a3)]) (rest := []) ⟨hx, hb0, hml, hown, hts⟩ (metX5_putBar l D G b hb q20 μ (q20 b 6) a2 a3 q30 e30) (g_cwV (C := RX5) 3 hts q_ml_X5_73 q_im_X5_putBar q_se_X5_putBar q_in_X5 q_co_X5_putBar ⟨rfl, rfl⟩ (by decide +kernel) ⟨Nat.le_of_ble_eq_true rfl, Nat.le_of_ble_eq_true rfl⟩) hX hH hb.k rfl rfl hl.1 rfl (Nat.le_of_ble_eq_true rfl) dX5_tellTask_30 ⟨Nat.zero_le _, Nat.zero_le _⟩ (fun H locs hH => ?_)
    refine lv_aload_n hx hb0 dX5_tellTask_33 rfl (lv_at hl 0 rfl) ?_
    refine lv_dup hx hb0 dX5_tellTask_34 rfl ?_
    refine g_getI hx hb0 hts q_ws_X5 hown hX hH (C := RX5) (T := TX5) (N := 8) (k := b) (i := 6) hb.k rfl (by decide) (hts _ q_fl_X5_47) rfl rfl dX5_tellTask_35 ?_
    refine lv_iconst (v := gI (1 : Int)) hx hb0 dX5_tellTask_38 (by decide) ?_
    refine g_iadd hx hb0 dX5_tellTask_39 ?_
    refine g_putI hx hb0 hts q_ws_X5 tyX5 tyX5_ok nmX5 hown hX hH (C := RX5) (T := TX5) (N := 8) (k := b) (i := 6) hb.k rfl (by decide) (hts _ q_fl_X5_47) rfl rfl rfl rfl dX5_tellTask_40 (fun H locs hH => ?_)
    refine lv_aload_n hx hb0 dX5_tellTask_43 rfl (lv_at hl 0 rfl) ?_
    refine g_getI hx hb0 hts q_ws_X5 hown hX hH (C := RX5) (T := TX5) (N := 8) (k := b) (i := 6) hb.k rfl (by decide) (hts _ q_fl_X5_47) rfl rfl dX5_tellTask_44 ?_
    refine lv_iconst (v := gI (1 : Int)) hx hb0 dX5_tellTask_47 (by decide) ?_
    refine g_isub hx hb0 dX5_tellTask_48 ?_
    exact g_iretS hx hb0 hr hH hlocks dX5_tellTask_49 h
  · refine lv_iconst (v := gI (-1 : Int)) hx hb0 dX5_tellTask_9 (by decide) ?_
    exact g_iretS hx hb0 hr hH hlocks dX5_tellTask_10 h
def DX8_addTask_J18  : Option (Nat ⊕ (Int × gSt)) :=
  some (.inl 1)
def DX8_addTask (σ : gSt) (a1 : Int) (a2 : Int) (a3 : Int) : Option (Nat ⊕ (Int × gSt)) :=
  gIf (a1 < (0 : Int)) a1 (0 : Int) ((DX8_addTask_J18)) (gIf (a1 < (6 : Int)) a1 (6 : Int) ((DX8_isBar σ a2 a3).bind fun q12 => gIf (q12 = (0 : Int)) q12 (0 : Int) ((DX8_addTask_J18)) ((DX5_taskCount 1 σ).bind fun q32 => gIf (q32 < (24 : Int)) q32 (24 : Int) ((DX3_save 1 σ).bind fun q58 => (DX5_tellTask 1 q58 a1 a2 a3).bind fun q68 => (DX8_printAnew q68.2).bind fun q74 => some (.inr (q68.1, q74))) (some (.inl 2)))) ((DX8_addTask_J18)))
set_option maxHeartbeats 4000000 in
set_option maxRecDepth 100000 in
theorem metX8_addTask (l : Launch) (hlt : l.stackTraces = false) (D : va_G) (G : gAd) (σ : gSt) (μ : gLg) (a1 : Int) (a2 : Int) (a3 : Int) (r : Nat ⊕ (Int × gSt)) (h : DX8_addTask σ a1 a2 a3 = some r) : vx_Met l yX8_addTask (gWs yX8_addTask cX8_addTask 5 (some (Jvm.ClassFile.FieldType.int))) ({ frames := 6, cells := 1, slots := 6, locals := 131 } : Room) (gPc D G [.ref (G.1 0), .int (gI a1), .int (gI a2), .int (gI a3)] σ μ) (gXs D G r μ) (gXC D G r σ μ) 1 6 (gA G) := by
  refine vx_ofW (cc := cX8_addTask) (maxL := 5) (ret := (some (Jvm.ClassFile.FieldType.int))) (by decide) rfl ?_
  intro p e s m args below meth c s₁ B hml hxt hv
  obtain ⟨rfl, hP, hX⟩ := hv
  have hx := B.exec
  have hb0 := B.bytes
  have hr := B.returns
  have hts0 := atoms_spec (ws := (gWs yX8_addTask cX8_addTask 5 (some (Jvm.ClassFile.FieldType.int)))) B.pre
  have hts : ∀ w ∈ gLW, w.before _ s = true := fun w hw => hts0 w (List.mem_cons_of_mem _ hw)
  have hown : s.vm.findClass RX8 = some m.cls := findClass_of_methodNamed B.named
  have hlocks := B.notSynchronized
  have hH : gH D G s s.heap [] σ μ := ⟨hP, va_S.rf⟩
  have hl := lv_entry ([.ref (G.1 0), .int (gI a1), .int (gI a2), .int (gI a3)]) (n := 5) (Nat.le_of_ble_eq_true rfl)
  rw [lg_entry_eq]
  generalize (lg_sl ([.ref (G.1 0), .int (gI a1), .int (gI a2), .int (gI a3)]) ++ List.replicate (5 - (lg_sl ([.ref (G.1 0), .int (gI a1), .int (gI a2), .int (gI a3)])).length) Slot.unset).toArray = ls at hl ⊢
  have hl : lv_has ls 5 [(0, .ref (G.1 0)), (1, .int (gI a1)), (2, .int (gI a2)), (3, .int (gI a3))] := hl
  unfold DX8_addTask at h
  refine lv_iload_n hx hb0 dX8_addTask_0 rfl (lv_at hl 1 rfl) ?_
  have hJ18 : ∀  (H : Heap) (locs : List Loc) (ls : Array Slot), gH D G s H locs σ μ → lv_has ls 5 [] → (DX8_addTask_J18) = some r → W p l e (headSpec (gWs yX8_addTask cX8_addTask 5 (some (Jvm.ClassFile.FieldType.int))) ({ frames := 6, cells := 1, slots := 6, locals := 131 } : Room)).room s m ([.ref (G.1 0), .int (gI a1), .int (gI a2), .int (gI a3)] : List Value).toArray below meth c H locs 0 0 (vx_MQ below (gXs D G r μ) (gXC D G r σ μ) ([.ref (G.1 0), .int (gI a1), .int (gI a2), .int (gI a3)] : List Value).toArray s 1 6 (gA G)) (F0 m 18 ls []) := by
    intro H locs ls hH hl h
    unfold DX8_addTask_J18 at h
    exact g_throwS (text := "group, first day or length out of range") (k := 1) hx hb0 hlt hown hts hX hH rfl q_cl_X8_71 q_in_java_lang_IllegalArgumentException g_bad1 g_ok1 g_ot1 (by decide +kernel) (by decide +kernel) (hl.1.trans hml.symm) dX8_addTask_18 dX8_addTask_21 dX8_addTask_22 dX8_addTask_24 dX8_addTask_27 hxt ⟨⟨Nat.le_of_ble_eq_true rfl, Nat.le_of_ble_eq_true rfl⟩, Nat.le_of_ble_eq_true rfl, Nat.le_of_ble_eq_true rfl⟩ hlocks ⟨Nat.le_of_ble_eq_true rfl, Nat.le_of_ble_eq_true rfl⟩ h
  refine g_if_lt (tgt := 18) hx hb0 dX8_addTask_1 (by decide) h (fun h => ?_) (fun h => ?_)
  · exact hJ18  _ _ _ hH (lv_sub hl [] rfl) h
  · refine lv_iload_n hx hb0 dX8_addTask_4 rfl (lv_at hl 1 rfl) ?_
    refine lv_bipush (v := gI (6 : Int)) hx hb0 dX8_addTask_5 (by decide) ?_
    refine g_icmp_ge (tgt := 18) hx hb0 dX8_addTask_7 (by decide) h (fun h => ?_) (fun h => ?_)
    · exact hJ18  _ _ _ hH (lv_sub hl [] rfl) h
    · refine lv_iload_n hx hb0 dX8_addTask_10 rfl (lv_at hl 2 rfl) ?_
      refine lv_iload_n hx hb0 dX8_addTask_11 rfl (lv_at hl 3 rfl) ?_
      obtain ⟨q12, e12, h⟩ := gBind_some h
      refine g_callSi (As := [.int (gI a2), .int (gI a3)]) (rest := []) ⟨hx, hb0, hml, hown, hts⟩ (metX8_isBar l D G σ μ a2 a3 q12 e12) (g_cwS 2 hts q_ml_X8_98 q_st_X8_isBar q_in_X8 q_co_X8_isBar ⟨rfl, rfl⟩ (by decide +kernel) ⟨Nat.le_of_ble_eq_true rfl, Nat.le_of_ble_eq_true rfl⟩) hX hH rfl hl.1 rfl (Nat.le_of_ble_eq_true rfl) dX8_addTask_12 ⟨Nat.le_of_ble_eq_true rfl, Nat.le_of_ble_eq_true rfl⟩ (fun H locs hH => ?_)
      refine g_if_ne (tgt := 28) hx hb0 dX8_addTask_15 (by decide) h (fun h => ?_) (fun h => ?_)
      · refine lv_aload_n hx hb0 dX8_addTask_28 rfl (lv_at hl 0 rfl) ?_
        refine g_getR hx hb0 hts q_ws_X8 hown hX hH (C := RX8) (T := TX8) (N := 10) (k := 0) (i := 0) (j := 1) (rfl : gKinds[0]? = _) rfl (by decide) (hts _ q_fl_X8_12) rfl rfl dX8_addTask_29 ?_
        obtain ⟨q32, e32, h⟩ := gBind_some h
        refine g_callVi (k := 1) (T := TX5) (N := 8) (As := []) (rest := []) ⟨hx, hb0, hml, hown, hts⟩ (metX5_taskCount l D G 1 gPlan_1 σ μ q32 e32) (g_cwV (C := RX5) 0 hts q_ml_X8_103 q_im_X5_taskCount q_se_X5_taskCount q_in_X5 q_co_X5_taskCount ⟨rfl, rfl⟩ (by decide +kernel) ⟨Nat.le_of_ble_eq_true rfl, Nat.le_of_ble_eq_true rfl⟩) hX hH gPlan_1.k rfl rfl hl.1 rfl (Nat.le_of_ble_eq_true rfl) dX8_addTask_32 ⟨Nat.le_of_ble_eq_true rfl, Nat.le_of_ble_eq_true rfl⟩ (fun H locs hH => ?_)
        refine lv_bipush (v := gI (24 : Int)) hx hb0 dX8_addTask_35 (by decide) ?_
        refine g_icmp_lt (tgt := 50) hx hb0 dX8_addTask_37 (by decide) h (fun h => ?_) (fun h => ?_)
        · refine lv_aload_n hx hb0 dX8_addTask_50 rfl (lv_at hl 0 rfl) ?_
          refine g_getR hx hb0 hts q_ws_X8 hown hX hH (C := RX8) (T := TX8) (N := 10) (k := 0) (i := 2) (j := 27) (rfl : gKinds[0]? = _) rfl (by decide) (hts _ q_fl_X8_22) rfl rfl dX8_addTask_51 ?_
          refine lv_aload_n hx hb0 dX8_addTask_54 rfl (lv_at hl 0 rfl) ?_
          refine g_getR hx hb0 hts q_ws_X8 hown hX hH (C := RX8) (T := TX8) (N := 10) (k := 0) (i := 0) (j := 1) (rfl : gKinds[0]? = _) rfl (by decide) (hts _ q_fl_X8_12) rfl rfl dX8_addTask_55 ?_
          obtain ⟨q58, e58, h⟩ := gBind_some h
          refine g_callVv (k := 27) (T := TX3) (N := 3) (As := [.ref (G.1 1)]) (rest := []) ⟨hx, hb0, hml, hown, hts⟩ (metX3_save l D G 1 gPlan_1 σ μ q58 e58) (g_cwV (C := RX3) 1 hts q_ml_X8_78 q_im_X3_save q_se_X3_save q_in_X3 q_co_X3_save ⟨rfl, rfl⟩ (by decide +kernel) ⟨Nat.le_of_ble_eq_true rfl, Nat.le_of_ble_eq_true rfl⟩) hX hH (rfl : gKinds[27]? = _) rfl rfl hl.1 rfl (Nat.le_of_ble_eq_true rfl) dX8_addTask_58 ⟨Nat.le_of_ble_eq_true rfl, Nat.le_of_ble_eq_true rfl⟩ (fun H locs hH => ?_)
          refine lv_aload_n hx hb0 dX8_addTask_61 rfl (lv_at hl 0 rfl) ?_
          refine g_getR hx hb0 hts q_ws_X8 hown hX hH (C := RX8) (T := TX8) (N := 10) (k := 0) (i := 0) (j := 1) (rfl : gKinds[0]? = _) rfl (by decide) (hts _ q_fl_X8_12) rfl rfl dX8_addTask_62 ?_
          refine lv_iload_n hx hb0 dX8_addTask_65 rfl (lv_at hl 1 rfl) ?_
          refine lv_iload_n hx hb0 dX8_addTask_66 rfl (lv_at hl 2 rfl) ?_
          refine lv_iload_n hx hb0 dX8_addTask_67 rfl (lv_at hl 3 rfl) ?_
          obtain ⟨q68, e68, h⟩ := gBind_some h
          refine g_callVi (k := 1) (T := TX5) (N := 8) (As := [.int (gI a1), .int (gI a2), .int (gI a3)]) (rest := []) ⟨hx, hb0, hml, hown, hts⟩ (metX5_tellTask l D G 1 gPlan_1 q58 μ a1 a2 a3 q68.1 q68.2 e68) (g_cwV (C := RX5) 3 hts q_ml_X8_112 q_im_X5_tellTask q_se_X5_tellTask q_in_X5 q_co_X5_tellTask ⟨rfl, rfl⟩ (by decide +kernel) ⟨Nat.le_of_ble_eq_true rfl, Nat.le_of_ble_eq_true rfl⟩) hX hH gPlan_1.k rfl rfl hl.1 rfl (Nat.le_of_ble_eq_true rfl) dX8_addTask_68 ⟨Nat.le_of_ble_eq_true rfl, Nat.le_of_ble_eq_true rfl⟩ (fun H locs hH => ?_)
          refine lv_istore (lv' := [(4, .int (gI q68.1)), (0, .ref (G.1 0)), (1, .int (gI a1)), (2, .int (gI a2)), (3, .int (gI a3))]) hx hb0 dX8_addTask_71 hl (by decide) rfl (fun ls hl => ?_)
          refine lv_aload_n hx hb0 dX8_addTask_73 rfl (lv_at hl 1 rfl) ?_
          obtain ⟨q74, e74, h⟩ := gBind_some h
          refine g_callVv (k := 0) (T := TX8) (N := 10) (As := []) (rest := []) ⟨hx, hb0, hml, hown, hts⟩ (metX8_printAnew l D G q68.2 μ q74 e74) (g_cwV (C := RX8) 0 hts q_ml_X8_90 q_im_X8_printAnew q_se_X8_printAnew q_in_X8 q_co_X8_printAnew ⟨rfl, rfl⟩ (by decide +kernel) ⟨Nat.le_of_ble_eq_true rfl, Nat.le_of_ble_eq_true rfl⟩) hX hH (rfl : gKinds[0]? = _) rfl rfl hl.1 rfl (Nat.le_of_ble_eq_true rfl) dX8_addTask_74 ⟨Nat.le_of_ble_eq_true rfl, Nat.le_of_ble_eq_true rfl⟩ (fun H locs hH => ?_)
          refine lv_iload hx hb0 dX8_addTask_77 (lv_at hl 0 rfl) ?_
          exact g_xsret hx hb0 hr hH hlocks (Nat.le_of_ble_eq_true rfl) (Nat.le_of_ble_eq_true rfl) dX8_addTask_79 h
        · exact g_throwS (text := "there are 24 tasks") (k := 2) hx hb0 hlt hown hts hX hH rfl q_cl_X8_107 q_in_java_lang_IllegalStateException g_bad2 g_ok2 g_ot2 (by decide +kernel) (by decide +kernel) (hl.1.trans hml.symm) dX8_addTask_40 dX8_addTask_43 dX8_addTask_44 dX8_addTask_46 dX8_addTask_49 hxt ⟨⟨Nat.le_of_ble_eq_true rfl, Nat.le_of_ble_eq_true rfl⟩, Nat.le_of_ble_eq_true rfl, Nat.le_of_ble_eq_true rfl⟩ hlocks ⟨Nat.le_of_ble_eq_true rfl, Nat.le_of_ble_eq_true rfl⟩ h
      · exact hJ18  _ _ _ hH (lv_sub hl [] rfl) h
def DX5_hasTask (b : Nat) (σ : gSt) (a1 : Int) : Option (Int) :=
  gIf (a1 < (0 : Int)) a1 (0 : Int) (gBo (0 : Int) (some (0 : Int))) (gIf (a1 < (σ b 6)) a1 (σ b 6) (gBo (1 : Int) (some (1 : Int))) (gBo (0 : Int) (some (0 : Int))))
set_option maxHeartbeats 4000000 in
set_option maxRecDepth 100000 in
theorem metX5_hasTask (l : Launch) (D : va_G) (G : gAd) (b : Nat) (hb : gPlan b) (σ : gSt) (μ : gLg) (a1 : Int) (r : Int) (h : DX5_hasTask b σ a1 = some r) : Met l yX5_hasTask (gWs yX5_hasTask cX5_hasTask 2 (some (Jvm.ClassFile.FieldType.boolean))) ({ frames := 0, cells := 0, slots := 0, locals := 0 } : Room) (gPc D G [.ref (G.1 b), .int (gI a1)] σ μ) (gQi D G r σ μ) 0 0 (gA G) := by
  refine Met.ofW (cc := cX5_hasTask) (maxL := 2) (ret := (some (Jvm.ClassFile.FieldType.boolean))) (by decide) rfl ?_
  intro p e s m args below meth c s₁ B hml hv
  obtain ⟨rfl, hP, hX⟩ := hv
  have hx := B.exec
  have hb0 := B.bytes
  have hr := B.returns
  have hts0 := atoms_spec (ws := (gWs yX5_hasTask cX5_hasTask 2 (some (Jvm.ClassFile.FieldType.boolean)))) B.pre
  have hts : ∀ w ∈ gLW, w.before _ s = true := fun w hw => hts0 w (List.mem_cons_of_mem _ hw)
  have hown : s.vm.findClass RX5 = some m.cls := findClass_of_methodNamed B.named
  have hlocks := B.notSynchronized
  have hH : gH D G s s.heap [] σ μ := ⟨hP, va_S.rf⟩
  have hl := lv_entry ([.ref (G.1 b), .int (gI a1)]) (n := 2) (Nat.le_of_ble_eq_true rfl)
  rw [lg_entry_eq]
  generalize (lg_sl ([.ref (G.1 b), .int (gI a1)]) ++ List.replicate (2 - (lg_sl ([.ref (G.1 b), .int (gI a1)])).length) Slot.unset).toArray = ls at hl ⊢
  have hl : lv_has ls 2 [(0, .ref (G.1 b)), (1, .int (gI a1))] := hl
  unfold DX5_hasTask at h
  refine lv_iload_n hx hb0 dX5_hasTask_0 rfl (lv_at hl 1 rfl) ?_
  refine g_if_lt (tgt := 16) hx hb0 dX5_hasTask_1 (by decide) h (fun h => ?_) (fun h => ?_)
  · refine lv_iconst (v := gI (0 : Int)) hx hb0 dX5_hasTask_16 (by decide) ?_
    exact g_zretP hx hb0 hr hH hlocks dX5_hasTask_17 h
  · refine lv_iload_n hx hb0 dX5_hasTask_4 rfl (lv_at hl 1 rfl) ?_
    refine lv_aload_n hx hb0 dX5_hasTask_5 rfl (lv_at hl 0 rfl) ?_
    refine g_getI hx hb0 hts q_ws_X5 hown hX hH (C := RX5) (T := TX5) (N := 8) (k := b) (i := 6) hb.k rfl (by decide) (hts _ q_fl_X5_47) rfl rfl dX5_hasTask_6 ?_
    refine g_icmp_ge (tgt := 16) hx hb0 dX5_hasTask_9 (by decide) h (fun h => ?_) (fun h => ?_)
    · refine lv_iconst (v := gI (0 : Int)) hx hb0 dX5_hasTask_16 (by decide) ?_
      exact g_zretP hx hb0 hr hH hlocks dX5_hasTask_17 h
    · refine lv_iconst (v := gI (1 : Int)) hx hb0 dX5_hasTask_12 (by decide) ?_
      refine lv_goto (tgt := 17) hx hb0 dX5_hasTask_13 (by decide) ?_
      exact g_zretP hx hb0 hr hH hlocks dX5_hasTask_17 h
def DX8_requireTask (σ : gSt) (a1 : Int) : Option (Nat ⊕ Unit) :=
  (DX5_hasTask 1 σ a1).bind fun q5 => gIf (q5 = (0 : Int)) q5 (0 : Int) (some (.inl 3)) (some (.inr ()))
set_option maxHeartbeats 4000000 in
set_option maxRecDepth 100000 in
theorem metX8_requireTask (l : Launch) (hlt : l.stackTraces = false) (D : va_G) (G : gAd) (σ : gSt) (μ : gLg) (a1 : Int) (r : Nat ⊕ Unit) (h : DX8_requireTask σ a1 = some r) : vx_Met l yX8_requireTask (gWs yX8_requireTask cX8_requireTask 2 none) ({ frames := 6, cells := 1, slots := 6, locals := 82 } : Room) (gPc D G [.ref (G.1 0), .int (gI a1)] σ μ) (gXv D G r σ μ) (gXC D G r σ μ) 1 6 (gA G) := by
  refine vx_ofW (cc := cX8_requireTask) (maxL := 2) (ret := none) (by decide) rfl ?_
  intro p e s m args below meth c s₁ B hml hxt hv
  obtain ⟨rfl, hP, hX⟩ := hv
  have hx := B.exec
  have hb0 := B.bytes
  have hr := B.returns
  have hts0 := atoms_spec (ws := (gWs yX8_requireTask cX8_requireTask 2 none)) B.pre
  have hts : ∀ w ∈ gLW, w.before _ s = true := fun w hw => hts0 w (List.mem_cons_of_mem _ hw)
  have hown : s.vm.findClass RX8 = some m.cls := findClass_of_methodNamed B.named
  have hlocks := B.notSynchronized
  have hH : gH D G s s.heap [] σ μ := ⟨hP, va_S.rf⟩
  have hl := lv_entry ([.ref (G.1 0), .int (gI a1)]) (n := 2) (Nat.le_of_ble_eq_true rfl)
  rw [lg_entry_eq]
  generalize (lg_sl ([.ref (G.1 0), .int (gI a1)]) ++ List.replicate (2 - (lg_sl ([.ref (G.1 0), .int (gI a1)])).length) Slot.unset).toArray = ls at hl ⊢
  have hl : lv_has ls 2 [(0, .ref (G.1 0)), (1, .int (gI a1))] := hl
  unfold DX8_requireTask at h
  refine lv_aload_n hx hb0 dX8_requireTask_0 rfl (lv_at hl 0 rfl) ?_
  refine g_getR hx hb0 hts q_ws_X8 hown hX hH (C := RX8) (T := TX8) (N := 10) (k := 0) (i := 0) (j := 1) (rfl : gKinds[0]? = _) rfl (by decide) (hts _ q_fl_X8_12) rfl rfl dX8_requireTask_1 ?_
  refine lv_iload_n hx hb0 dX8_requireTask_4 rfl (lv_at hl 1 rfl) ?_
  obtain ⟨q5, e5, h⟩ := gBind_some h
  refine g_callVi (k := 1) (T := TX5) (N := 8) (As := [.int (gI a1)]) (rest := []) ⟨hx, hb0, hml, hown, hts⟩ (metX5_hasTask l D G 1 gPlan_1 σ μ a1 q5 e5) (g_cwV (C := RX5) 1 hts q_ml_X8_298 q_im_X5_hasTask q_se_X5_hasTask q_in_X5 q_co_X5_hasTask ⟨rfl, rfl⟩ (by decide +kernel) ⟨Nat.le_of_ble_eq_true rfl, Nat.le_of_ble_eq_true rfl⟩) hX hH gPlan_1.k rfl rfl hl.1 rfl (Nat.le_of_ble_eq_true rfl) dX8_requireTask_5 ⟨Nat.le_of_ble_eq_true rfl, Nat.le_of_ble_eq_true rfl⟩ (fun H locs hH => ?_)
  refine g_if_ne (tgt := 22) hx hb0 dX8_requireTask_8 (by decide) h (fun h => ?_) (fun h => ?_)
  · exact g_xvret hx hb0 hr hH hlocks (Nat.le_of_ble_eq_true rfl) (Nat.le_of_ble_eq_true rfl) dX8_requireTask_22 h
  · exact g_throwSW (text := "no such task") (k := 3) hx hb0 hlt hown hts hX hH rfl q_cl_X8_186 q_in_java_lang_IndexOutOfBoundsException g_bad3 g_ok3 g_ot3 (by decide +kernel) (by decide +kernel) (hl.1.trans hml.symm) dX8_requireTask_11 dX8_requireTask_14 dX8_requireTask_15 dX8_requireTask_18 dX8_requireTask_21 hxt ⟨⟨Nat.le_of_ble_eq_true rfl, Nat.le_of_ble_eq_true rfl⟩, Nat.le_of_ble_eq_true rfl, Nat.le_of_ble_eq_true rfl⟩ hlocks ⟨Nat.le_of_ble_eq_true rfl, Nat.le_of_ble_eq_true rfl⟩ h
def DX8_move (σ : gSt) (a1 : Int) (a2 : Int) (a3 : Int) : Option (Nat ⊕ (Int × gSt)) :=
  gXb (DX8_requireTask σ a1) fun _ => (DX8_isBar σ a2 a3).bind fun q7 => gIf (q7 = (0 : Int)) q7 (0 : Int) (some (.inl 1)) ((DX3_save 1 σ).bind fun q31 => (DX5_first 1 q31 a1).bind fun q39 => (DX5_putBar 1 q31 a1 a2 a3).bind fun q51 => (DX8_printAnew q51).bind fun q55 => some (.inr (q39, q55)))
set_option maxHeartbeats 4000000 in
set_option maxRecDepth 100000 in
theorem metX8_move (l : Launch) (hlt : l.stackTraces = false) (D : va_G) (G : gAd) (σ : gSt) (μ : gLg) (a1 : Int) (a2 : Int) (a3 : Int) (r : Nat ⊕ (Int × gSt)) (h : DX8_move σ a1 a2 a3 = some r) : vx_Met l yX8_move (gWs yX8_move cX8_move 5 (some (Jvm.ClassFile.FieldType.int))) ({ frames := 7, cells := 2, slots := 12, locals := 131 } : Room) (gPc D G [.ref (G.1 0), .int (gI a1), .int (gI a2), .int (gI a3)] σ μ) (gXs D G r μ) (gXC D G r σ μ) 2 12 (gA G) := by
  refine vx_ofW (cc := cX8_move) (maxL := 5) (ret := (some (Jvm.ClassFile.FieldType.int))) (by decide) rfl ?_
  intro p e s m args below meth c s₁ B hml hxt hv
  obtain ⟨rfl, hP, hX⟩ := hv
  have hx := B.exec
  have hb0 := B.bytes
  have hr := B.returns
  have hts0 := atoms_spec (ws := (gWs yX8_move cX8_move 5 (some (Jvm.ClassFile.FieldType.int)))) B.pre
  have hts : ∀ w ∈ gLW, w.before _ s = true := fun w hw => hts0 w (List.mem_cons_of_mem _ hw)
  have hown : s.vm.findClass RX8 = some m.cls := findClass_of_methodNamed B.named
  have hlocks := B.notSynchronized
  have hH : gH D G s s.heap [] σ μ := ⟨hP, va_S.rf⟩
  have hl := lv_entry ([.ref (G.1 0), .int (gI a1), .int (gI a2), .int (gI a3)]) (n := 5) (Nat.le_of_ble_eq_true rfl)
  rw [lg_entry_eq]
  generalize (lg_sl ([.ref (G.1 0), .int (gI a1), .int (gI a2), .int (gI a3)]) ++ List.replicate (5 - (lg_sl ([.ref (G.1 0), .int (gI a1), .int (gI a2), .int (gI a3)])).length) Slot.unset).toArray = ls at hl ⊢
  have hl : lv_has ls 5 [(0, .ref (G.1 0)), (1, .int (gI a1)), (2, .int (gI a2)), (3, .int (gI a3))] := hl
  unfold DX8_move at h
  refine lv_aload_n hx hb0 dX8_move_0 rfl (lv_at hl 0 rfl) ?_
  refine lv_iload_n hx hb0 dX8_move_1 rfl (lv_at hl 1 rfl) ?_
  obtain ⟨q2, e2, h⟩ := gXb_some h
  refine g_xcallVv (k := 0) (T := TX8) (N := 10) (As := [.int (gI a1)]) (rest := []) (x := q2) ⟨hx, hb0, hml, hown, hts⟩ (metX8_requireTask l hlt D G σ μ a1 q2 e2) (g_cwX (C := RX8) 1 hts q_ml_X8_116 q_im_X8_requireTask q_se_X8_requireTask q_in_X8 q_co_X8_requireTask ⟨rfl, rfl⟩ (by decide +kernel) ⟨Nat.le_of_ble_eq_true rfl, Nat.le_of_ble_eq_true rfl⟩) hX hH (rfl : gKinds[0]? = _) rfl rfl hl.1 rfl (Nat.le_of_ble_eq_true rfl) dX8_move_2 ⟨Nat.le_of_ble_eq_true rfl, Nat.le_of_ble_eq_true rfl⟩ (fun k9 E9 ce9 q9 H locs hk9 hE9 hH h1 h2 h3 => ?_) (fun hk9 H locs hH => ?_)
  · rcases h with ⟨k8, h8, h⟩ | ⟨a8, h8, h⟩
    · rw [h8] at hk9
      cases hk9
      exact g_xout hxt hlocks hE9 hH h1 h2 h3 (Nat.le_of_ble_eq_true rfl) (Nat.le_of_ble_eq_true rfl) h
    · rw [h8] at hk9
      cases hk9
  · rcases h with ⟨k8, h8, h⟩ | ⟨a8, h8, h⟩
    · rw [h8] at hk9
      cases hk9
    · refine lv_iload_n hx hb0 dX8_move_5 rfl (lv_at hl 2 rfl) ?_
      refine lv_iload_n hx hb0 dX8_move_6 rfl (lv_at hl 3 rfl) ?_
      obtain ⟨q7, e7, h⟩ := gBind_some h
      refine g_callSi (As := [.int (gI a2), .int (gI a3)]) (rest := []) ⟨hx, hb0, hml, hown, hts⟩ (metX8_isBar l D G σ μ a2 a3 q7 e7) (g_cwS 2 hts q_ml_X8_98 q_st_X8_isBar q_in_X8 q_co_X8_isBar ⟨rfl, rfl⟩ (by decide +kernel) ⟨Nat.le_of_ble_eq_true rfl, Nat.le_of_ble_eq_true rfl⟩) hX hH rfl hl.1 rfl (Nat.le_of_ble_eq_true rfl) dX8_move_7 ⟨Nat.le_of_ble_eq_true rfl, Nat.le_of_ble_eq_true rfl⟩ (fun H locs hH => ?_)
      refine g_if_ne (tgt := 23) hx hb0 dX8_move_10 (by decide) h (fun h => ?_) (fun h => ?_)
      · refine lv_aload_n hx hb0 dX8_move_23 rfl (lv_at hl 0 rfl) ?_
        refine g_getR hx hb0 hts q_ws_X8 hown hX hH (C := RX8) (T := TX8) (N := 10) (k := 0) (i := 2) (j := 27) (rfl : gKinds[0]? = _) rfl (by decide) (hts _ q_fl_X8_22) rfl rfl dX8_move_24 ?_
        refine lv_aload_n hx hb0 dX8_move_27 rfl (lv_at hl 0 rfl) ?_
        refine g_getR hx hb0 hts q_ws_X8 hown hX hH (C := RX8) (T := TX8) (N := 10) (k := 0) (i := 0) (j := 1) (rfl : gKinds[0]? = _) rfl (by decide) (hts _ q_fl_X8_12) rfl rfl dX8_move_28 ?_
        obtain ⟨q31, e31, h⟩ := gBind_some h
        refine g_callVv (k := 27) (T := TX3) (N := 3) (As := [.ref (G.1 1)]) (rest := []) ⟨hx, hb0, hml, hown, hts⟩ (metX3_save l D G 1 gPlan_1 σ μ q31 e31) (g_cwV (C := RX3) 1 hts q_ml_X8_78 q_im_X3_save q_se_X3_save q_in_X3 q_co_X3_save ⟨rfl, rfl⟩ (by decide +kernel) ⟨Nat.le_of_ble_eq_true rfl, Nat.le_of_ble_eq_true rfl⟩) hX hH (rfl : gKinds[27]? = _) rfl rfl hl.1 rfl (Nat.le_of_ble_eq_true rfl) dX8_move_31 ⟨Nat.le_of_ble_eq_true rfl, Nat.le_of_ble_eq_true rfl⟩ (fun H locs hH => ?_)
        refine lv_aload_n hx hb0 dX8_move_34 rfl (lv_at hl 0 rfl) ?_
        refine g_getR hx hb0 hts q_ws_X8 hown hX hH (C := RX8) (T := TX8) (N := 10) (k := 0) (i := 0) (j := 1) (rfl : gKinds[0]? = _) rfl (by decide) (hts _ q_fl_X8_12) rfl rfl dX8_move_35 ?_
        refine lv_iload_n hx hb0 dX8_move_38 rfl (lv_at hl 1 rfl) ?_
        obtain ⟨q39, e39, h⟩ := gBind_some h
        refine g_callVi (k := 1) (T := TX5) (N := 8) (As := [.int (gI a1)]) (rest := []) ⟨hx, hb0, hml, hown, hts⟩ (metX5_first l D G 1 gPlan_1 q31 μ a1 q39 e39) (g_cwV (C := RX5) 1 hts q_ml_X8_122 q_im_X5_first q_se_X5_first q_in_X5 q_co_X5_first ⟨rfl, rfl⟩ (by decide +kernel) ⟨Nat.le_of_ble_eq_true rfl, Nat.le_of_ble_eq_true rfl⟩) hX hH gPlan_1.k rfl rfl hl.1 rfl (Nat.le_of_ble_eq_true rfl) dX8_move_39 ⟨Nat.le_of_ble_eq_true rfl, Nat.le_of_ble_eq_true rfl⟩ (fun H locs hH => ?_)
        refine lv_istore (lv' := [(4, .int (gI q39)), (0, .ref (G.1 0)), (1, .int (gI a1)), (2, .int (gI a2)), (3, .int (gI a3))]) hx hb0 dX8_move_42 hl (by decide) rfl (fun ls hl => ?_)
        refine lv_aload_n hx hb0 dX8_move_44 rfl (lv_at hl 1 rfl) ?_
        refine g_getR hx hb0 hts q_ws_X8 hown hX hH (C := RX8) (T := TX8) (N := 10) (k := 0) (i := 0) (j := 1) (rfl : gKinds[0]? = _) rfl (by decide) (hts _ q_fl_X8_12) rfl rfl dX8_move_45 ?_
        refine lv_iload_n hx hb0 dX8_move_48 rfl (lv_at hl 2 rfl) ?_
        refine lv_iload_n hx hb0 dX8_move_49 rfl (lv_at hl 3 rfl) ?_
        refine lv_iload_n hx hb0 dX8_move_50 rfl (lv_at hl 4 rfl) ?_
        obtain ⟨q51, e51, h⟩ := gBind_some h
        refine g_callVv (k := 1) (T := TX5) (N := 8) (As := [.int (gI a1), .int (gI a2), .int (gI a3)]) (rest := []) ⟨hx, hb0, hml, hown, hts⟩ (metX5_putBar l D G 1 gPlan_1 q31 μ a1 a2 a3 q51 e51) (g_cwV (C := RX5) 3 hts q_ml_X8_125 q_im_X5_putBar q_se_X5_putBar q_in_X5 q_co_X5_putBar ⟨rfl, rfl⟩ (by decide +kernel) ⟨Nat.le_of_ble_eq_true rfl, Nat.le_of_ble_eq_true rfl⟩) hX hH gPlan_1.k rfl rfl hl.1 rfl (Nat.le_of_ble_eq_true rfl) dX8_move_51 ⟨Nat.le_of_ble_eq_true rfl, Nat.le_of_ble_eq_true rfl⟩ (fun H locs hH => ?_)
        refine lv_aload_n hx hb0 dX8_move_54 rfl (lv_at hl 1 rfl) ?_
        obtain ⟨q55, e55, h⟩ := gBind_some h
        refine g_callVv (k := 0) (T := TX8) (N := 10) (As := []) (rest := []) ⟨hx, hb0, hml, hown, hts⟩ (metX8_printAnew l D G q51 μ q55 e55) (g_cwV (C := RX8) 0 hts q_ml_X8_90 q_im_X8_printAnew q_se_X8_printAnew q_in_X8 q_co_X8_printAnew ⟨rfl, rfl⟩ (by decide +kernel) ⟨Nat.le_of_ble_eq_true rfl, Nat.le_of_ble_eq_true rfl⟩) hX hH (rfl : gKinds[0]? = _) rfl rfl hl.1 rfl (Nat.le_of_ble_eq_true rfl) dX8_move_55 ⟨Nat.le_of_ble_eq_true rfl, Nat.le_of_ble_eq_true rfl⟩ (fun H locs hH => ?_)
        refine lv_iload hx hb0 dX8_move_58 (lv_at hl 0 rfl) ?_
        exact g_xsret hx hb0 hr hH hlocks (Nat.le_of_ble_eq_true rfl) (Nat.le_of_ble_eq_true rfl) dX8_move_60 h
      · exact g_throwS (text := "first day or length out of range") (k := 1) hx hb0 hlt hown hts hX hH rfl q_cl_X8_71 q_in_java_lang_IllegalArgumentException g_bad1 g_ok1 g_ot1 (by decide +kernel) (by decide +kernel) (hl.1.trans hml.symm) dX8_move_13 dX8_move_16 dX8_move_17 dX8_move_19 dX8_move_22 hxt ⟨⟨Nat.le_of_ble_eq_true rfl, Nat.le_of_ble_eq_true rfl⟩, Nat.le_of_ble_eq_true rfl, Nat.le_of_ble_eq_true rfl⟩ hlocks ⟨Nat.le_of_ble_eq_true rfl, Nat.le_of_ble_eq_true rfl⟩ h
def DX4_closeGap_L2 (n : Nat) (len : Nat) : Nat → Int → gSt → Option (gSt)
  | 0, _, _ => none
  | f2 + 1, x2_2, σ2 => gIf (x2_2 < (0 : Int)) x2_2 (0 : Int) (some σ2) (gIf (x2_2 < (((len : Nat) : Int) - (1 : Int))) x2_2 (((len : Nat) : Int) - (1 : Int)) (gAt (x2_2 + (1 : Int)) len (gAt x2_2 len (((DX4_closeGap_L2 n len f2) (x2_2 + (1 : Int)) (gUp σ2 (n + 1) (Int.toNat x2_2) (σ2 (n + 1) (Int.toNat (x2_2 + (1 : Int))))))))) (some σ2))
def DX4_closeGap (n : Nat) (len : Nat) (σ : gSt) (a1 : Int) : Option (gSt) :=
  (DX4_closeGap_L2 n len gFuel a1 σ)
set_option maxHeartbeats 4000000 in
set_option maxRecDepth 100000 in
theorem metX4_closeGap (l : Launch) (D : va_G) (G : gAd) (n : Nat) (len : Nat) (hk : gNum n len) (σ : gSt) (μ : gLg) (a1 : Int) (σ' : gSt) (h : DX4_closeGap n len σ a1 = some σ') : Met l yX4_closeGap (gWs yX4_closeGap cX4_closeGap 3 none) ({ frames := 0, cells := 0, slots := 0, locals := 0 } : Room) (gPc D G [.ref (G.1 n), .int (gI a1)] σ μ) (gQv D G σ' μ) 0 0 (gA G) := by
  refine Met.ofW (cc := cX4_closeGap) (maxL := 3) (ret := none) (by decide) rfl ?_
  intro p e s m args below meth c s₁ B hml hv
  obtain ⟨rfl, hP, hX⟩ := hv
  have hx := B.exec
  have hb0 := B.bytes
  have hr := B.returns
  have hts0 := atoms_spec (ws := (gWs yX4_closeGap cX4_closeGap 3 none)) B.pre
  have hts : ∀ w ∈ gLW, w.before _ s = true := fun w hw => hts0 w (List.mem_cons_of_mem _ hw)
  have hown : s.vm.findClass RX4 = some m.cls := findClass_of_methodNamed B.named
  have hlocks := B.notSynchronized
  have hH : gH D G s s.heap [] σ μ := ⟨hP, va_S.rf⟩
  have hl := lv_entry ([.ref (G.1 n), .int (gI a1)]) (n := 3) (Nat.le_of_ble_eq_true rfl)
  rw [lg_entry_eq]
  generalize (lg_sl ([.ref (G.1 n), .int (gI a1)]) ++ List.replicate (3 - (lg_sl ([.ref (G.1 n), .int (gI a1)])).length) Slot.unset).toArray = ls at hl ⊢
  have hl : lv_has ls 3 [(0, .ref (G.1 n)), (1, .int (gI a1))] := hl
  unfold DX4_closeGap at h
  refine lv_iload_n hx hb0 dX4_closeGap_0 rfl (lv_at hl 1 rfl) ?_
  refine lv_istore_n (lv' := [(2, .int (gI a1)), (0, .ref (G.1 n)), (1, .int (gI a1))]) hx hb0 dX4_closeGap_1 rfl hl (by decide) rfl (fun ls hl => ?_)
  have hL2 : ∀ (f2 : Nat) (x2_2 : Int) (σ2 : gSt) (H : Heap) (locs : List Loc) (ls : Array Slot), gH D G s H locs σ2 μ → lv_has ls 3 [(2, .int (gI x2_2)), (0, .ref (G.1 n))] → (DX4_closeGap_L2 n len f2 x2_2 σ2) = some σ' → W p l e (headSpec (gWs yX4_closeGap cX4_closeGap 3 none) ({ frames := 0, cells := 0, slots := 0, locals := 0 } : Room)).room s m ([.ref (G.1 n), .int (gI a1)] : List Value).toArray below meth c H locs 0 0 (MQ below (gQv D G σ' μ) ([.ref (G.1 n), .int (gI a1)] : List Value).toArray s 0 0 (gA G)) (F0 m 2 ls []) := by
    intro f2
    induction f2 with
    | zero => intro x2_2 σ2 H locs ls hH hl h; cases h
    | succ f2 ih2 =>
      intro x2_2 σ2 H locs ls hH hl h
      unfold DX4_closeGap_L2 at h
      refine lv_iload_n hx hb0 dX4_closeGap_2 rfl (lv_at hl 0 rfl) ?_
      refine g_if_lt (tgt := 37) hx hb0 dX4_closeGap_3 (by decide) h (fun h => ?_) (fun h => ?_)
      · exact g_vretS hx hb0 hr hH hlocks dX4_closeGap_37 h
      · refine lv_iload_n hx hb0 dX4_closeGap_6 rfl (lv_at hl 0 rfl) ?_
        refine lv_aload_n hx hb0 dX4_closeGap_7 rfl (lv_at hl 1 rfl) ?_
        refine g_getR hx hb0 hts q_ws_X4 hown hX hH (C := RX4) (T := TX4) (N := 1) (k := n) (i := 0) (j := (n + 1)) (hk).1 rfl (by decide) (hts _ q_fl_X4_9) rfl rfl dX4_closeGap_8 ?_
        refine g_alen hx hb0 hX hH (k := (n + 1)) (hk).2.1 dX4_closeGap_11 ?_
        refine lv_iconst (v := gI (1 : Int)) hx hb0 dX4_closeGap_12 (by decide) ?_
        refine g_isub hx hb0 dX4_closeGap_13 ?_
        refine g_icmp_ge (tgt := 37) hx hb0 dX4_closeGap_14 (by decide) h (fun h => ?_) (fun h => ?_)
        · exact g_vretS hx hb0 hr hH hlocks dX4_closeGap_37 h
        · refine lv_aload_n hx hb0 dX4_closeGap_17 rfl (lv_at hl 1 rfl) ?_
          refine g_getR hx hb0 hts q_ws_X4 hown hX hH (C := RX4) (T := TX4) (N := 1) (k := n) (i := 0) (j := (n + 1)) (hk).1 rfl (by decide) (hts _ q_fl_X4_9) rfl rfl dX4_closeGap_18 ?_
          refine lv_iload_n hx hb0 dX4_closeGap_21 rfl (lv_at hl 0 rfl) ?_
          refine lv_aload_n hx hb0 dX4_closeGap_22 rfl (lv_at hl 1 rfl) ?_
          refine g_getR hx hb0 hts q_ws_X4 hown hX hH (C := RX4) (T := TX4) (N := 1) (k := n) (i := 0) (j := (n + 1)) (hk).1 rfl (by decide) (hts _ q_fl_X4_9) rfl rfl dX4_closeGap_23 ?_
          refine lv_iload_n hx hb0 dX4_closeGap_26 rfl (lv_at hl 0 rfl) ?_
          refine lv_iconst (v := gI (1 : Int)) hx hb0 dX4_closeGap_27 (by decide) ?_
          refine g_iadd hx hb0 dX4_closeGap_28 ?_
          refine g_iald hx hb0 hX hH (k := (n + 1)) (hk).2.1 (Nat.le_trans (hk).2.2 (by decide)) dX4_closeGap_29 h (fun h => ?_)
          refine g_iast hx hb0 hX hH (k := (n + 1)) (hk).2.1 (Nat.le_trans (hk).2.2 (by decide)) dX4_closeGap_30 h (fun h H locs hH => ?_)
          refine g_iinc (k := 0) (n := (1 : Int)) (lv' := [(2, .int (gI (x2_2 + (1 : Int)))), (0, .ref (G.1 n))]) hx hb0 dX4_closeGap_31 hl rfl (by decide) rfl (fun ls hl => ?_)
          refine lv_goto (tgt := 2) hx hb0 dX4_closeGap_34 (by decide) ?_
          exact ih2 _ _ _ _ _ hH (lv_sub hl [0, 1] rfl) h
  exact hL2 gFuel _ _ _ _ _ hH (lv_sub hl [0, 1] rfl) h
def DX5_dropArrowsOf_K93 (b : Nat) (x2_93 : Int) (σ93 : gSt) : Option (Int × gSt) :=
  some (((σ93 b 7) - x2_93), (gUp σ93 b 7 x2_93))
def DX5_dropArrowsOf_J87 (R4 : Int → Int → gSt → Option (Int × gSt)) (x3_4 : Int) (x2_87 : Int) (σ87 : gSt) : Option (Int × gSt) :=
  (R4 (x3_4 + (1 : Int)) x2_87 σ87)
def DX5_dropArrowsOf_J81 (b : Nat) (R4 : Int → Int → gSt → Option (Int × gSt)) (x3_4 : Int) (x2_4 : Int) (q58 : gSt) (t0_81 : Int) : Option (Int × gSt) :=
  (DX4_put (b + 11) 30 q58 x2_4 t0_81).bind fun q81 => (DX5_dropArrowsOf_J87 R4 x3_4 (x2_4 + (1 : Int)) q81)
def DX5_dropArrowsOf_J58 (b : Nat) (a1 : Int) (R4 : Int → Int → gSt → Option (Int × gSt)) (x3_4 : Int) (x2_4 : Int) (σ4 : gSt) (q21 : Int) (t0_58 : Int) : Option (Int × gSt) :=
  (DX4_put (b + 9) 30 σ4 x2_4 t0_58).bind fun q58 => gIf (a1 < q21) q21 a1 ((DX5_dropArrowsOf_J81 b R4 x3_4 x2_4 q58 (q21 - (1 : Int)))) ((DX5_dropArrowsOf_J81 b R4 x3_4 x2_4 q58 q21))
def DX5_dropArrowsOf_L4 (K93 : Int → gSt → Option (Int × gSt)) (b : Nat) (a1 : Int) : Nat → Int → Int → gSt → Option (Int × gSt)
  | 0, _, _, _ => none
  | f4 + 1, x3_4, x2_4, σ4 => gIf (x3_4 < (σ4 b 7)) x3_4 (σ4 b 7) ((DX5_from b σ4 x3_4).bind fun q14 => (DX5_to b σ4 x3_4).bind fun q21 => gIf (q14 = a1) q14 a1 ((DX5_dropArrowsOf_J87 (DX5_dropArrowsOf_L4 K93 b a1 f4) x3_4 x2_4 σ4)) (gIf (q21 = a1) q21 a1 ((DX5_dropArrowsOf_J87 (DX5_dropArrowsOf_L4 K93 b a1 f4) x3_4 x2_4 σ4)) (gIf (a1 < q14) q14 a1 ((DX5_dropArrowsOf_J58 b a1 (DX5_dropArrowsOf_L4 K93 b a1 f4) x3_4 x2_4 σ4 q21 (q14 - (1 : Int)))) ((DX5_dropArrowsOf_J58 b a1 (DX5_dropArrowsOf_L4 K93 b a1 f4) x3_4 x2_4 σ4 q21 q14))))) ((K93 x2_4 σ4))
def DX5_dropArrowsOf (b : Nat) (σ : gSt) (a1 : Int) : Option (Int × gSt) :=
  (DX5_dropArrowsOf_L4 (DX5_dropArrowsOf_K93 b) b a1 gFuel (0 : Int) (0 : Int) σ)
set_option maxHeartbeats 4000000 in
set_option maxRecDepth 100000 in
theorem metX5_dropArrowsOf (l : Launch) (D : va_G) (G : gAd) (b : Nat) (hb : gPlan b) (σ : gSt) (μ : gLg) (a1 : Int) (r : Int) (σ' : gSt) (h : DX5_dropArrowsOf b σ a1 = some (r, σ')) : Met l yX5_dropArrowsOf (gWs yX5_dropArrowsOf cX5_dropArrowsOf 6 (some (Jvm.ClassFile.FieldType.int))) ({ frames := 2, cells := 0, slots := 0, locals := 42 } : Room) (gPc D G [.ref (G.1 b), .int (gI a1)] σ μ) (gQi D G r σ' μ) 0 0 (gA G) := by
  refine Met.ofW (cc := cX5_dropArrowsOf) (maxL := 6) (ret := (some (Jvm.ClassFile.FieldType.int))) (by decide) rfl ?_
  intro p e s m args below meth c s₁ B hml hv
  obtain ⟨rfl, hP, hX⟩ := hv
  have hx := B.exec
  have hb0 := B.bytes
  have hr := B.returns
  have hts0 := atoms_spec (ws := (gWs yX5_dropArrowsOf cX5_dropArrowsOf 6 (some (Jvm.ClassFile.FieldType.int)))) B.pre
  have hts : ∀ w ∈ gLW, w.before _ s = true := fun w hw => hts0 w (List.mem_cons_of_mem _ hw)
  have hown : s.vm.findClass RX5 = some m.cls := findClass_of_methodNamed B.named
  have hlocks := B.notSynchronized
  have hH : gH D G s s.heap [] σ μ := ⟨hP, va_S.rf⟩
  have hl := lv_entry ([.ref (G.1 b), .int (gI a1)]) (n := 6) (Nat.le_of_ble_eq_true rfl)
  rw [lg_entry_eq]
  generalize (lg_sl ([.ref (G.1 b), .int (gI a1)]) ++ List.replicate (6 - (lg_sl ([.ref (G.1 b), .int (gI a1)])).length) Slot.unset).toArray = ls at hl ⊢
  have hl : lv_has ls 6 [(0, .ref (G.1 b)), (1, .int (gI a1))] := hl
  unfold DX5_dropArrowsOf at h
  refine lv_iconst (v := gI (0 : Int)) hx hb0 dX5_dropArrowsOf_0 (by decide) ?_
  refine lv_istore_n (lv' := [(2, .int (gI (0 : Int))), (0, .ref (G.1 b)), (1, .int (gI a1))]) hx hb0 dX5_dropArrowsOf_1 rfl hl (by decide) rfl (fun ls hl => ?_)
  refine lv_iconst (v := gI (0 : Int)) hx hb0 dX5_dropArrowsOf_2 (by decide) ?_
  refine lv_istore_n (lv' := [(3, .int (gI (0 : Int))), (2, .int (gI (0 : Int))), (0, .ref (G.1 b)), (1, .int (gI a1))]) hx hb0 dX5_dropArrowsOf_3 rfl hl (by decide) rfl (fun ls hl => ?_)
  have hK93 : ∀ (x2_93 : Int) (σ93 : gSt) (H : Heap) (locs : List Loc) (ls : Array Slot), gH D G s H locs σ93 μ → lv_has ls 6 [(2, .int (gI x2_93)), (0, .ref (G.1 b))] → (DX5_dropArrowsOf_K93 b x2_93 σ93) = some (r, σ') → W p l e (headSpec (gWs yX5_dropArrowsOf cX5_dropArrowsOf 6 (some (Jvm.ClassFile.FieldType.int))) ({ frames := 2, cells := 0, slots := 0, locals := 42 } : Room)).room s m ([.ref (G.1 b), .int (gI a1)] : List Value).toArray below meth c H locs 0 0 (MQ below (gQi D G r σ' μ) ([.ref (G.1 b), .int (gI a1)] : List Value).toArray s 0 0 (gA G)) (F0 m 93 ls []) := by
    intro x2_93 σ93 H locs ls hH hl h
    unfold DX5_dropArrowsOf_K93 at h
    refine lv_aload_n hx hb0 dX5_dropArrowsOf_93 rfl (lv_at hl 1 rfl) ?_
    refine g_getI hx hb0 hts q_ws_X5 hown hX hH (C := RX5) (T := TX5) (N := 8) (k := b) (i := 7) hb.k rfl (by decide) (hts _ q_fl_X5_51) rfl rfl dX5_dropArrowsOf_94 ?_
    refine lv_iload_n hx hb0 dX5_dropArrowsOf_97 rfl (lv_at hl 0 rfl) ?_
    refine g_isub hx hb0 dX5_dropArrowsOf_98 ?_
    refine lv_istore_n (lv' := [(3, .int (gI ((σ93 b 7) - x2_93))), (2, .int (gI x2_93)), (0, .ref (G.1 b))]) hx hb0 dX5_dropArrowsOf_99 rfl hl (by decide) rfl (fun ls hl => ?_)
    refine lv_aload_n hx hb0 dX5_dropArrowsOf_100 rfl (lv_at hl 2 rfl) ?_
    refine lv_iload_n hx hb0 dX5_dropArrowsOf_101 rfl (lv_at hl 1 rfl) ?_
    refine g_putI hx hb0 hts q_ws_X5 tyX5 tyX5_ok nmX5 hown hX hH (C := RX5) (T := TX5) (N := 8) (k := b) (i := 7) hb.k rfl (by decide) (hts _ q_fl_X5_51) rfl rfl rfl rfl dX5_dropArrowsOf_102 (fun H locs hH => ?_)
    refine lv_iload_n hx hb0 dX5_dropArrowsOf_105 rfl (lv_at hl 0 rfl) ?_
    exact g_iretS hx hb0 hr hH hlocks dX5_dropArrowsOf_106 h
  have hL4 : ∀ (f4 : Nat) (x3_4 : Int) (x2_4 : Int) (σ4 : gSt) (H : Heap) (locs : List Loc) (ls : Array Slot), gH D G s H locs σ4 μ → lv_has ls 6 [(3, .int (gI x3_4)), (2, .int (gI x2_4)), (0, .ref (G.1 b)), (1, .int (gI a1))] → (DX5_dropArrowsOf_L4 (DX5_dropArrowsOf_K93 b) b a1 f4 x3_4 x2_4 σ4) = some (r, σ') → W p l e (headSpec (gWs yX5_dropArrowsOf cX5_dropArrowsOf 6 (some (Jvm.ClassFile.FieldType.int))) ({ frames := 2, cells := 0, slots := 0, locals := 42 } : Room)).room s m ([.ref (G.1 b), .int (gI a1)] : List Value).toArray below meth c H locs 0 0 (MQ below (gQi D G r σ' μ) ([.ref (G.1 b), .int (gI a1)] : List Value).toArray s 0 0 (gA G)) (F0 m 4 ls []) := by
    intro f4
    induction f4 with
    | zero => intro x3_4 x2_4 σ4 H locs ls hH hl h; cases h
    | succ f4 ih4 =>
      intro x3_4 x2_4 σ4 H locs ls hH hl h
      unfold DX5_dropArrowsOf_L4 at h
      refine lv_iload_n hx hb0 dX5_dropArrowsOf_4 rfl (lv_at hl 0 rfl) ?_
      refine lv_aload_n hx hb0 dX5_dropArrowsOf_5 rfl (lv_at hl 2 rfl) ?_
      refine g_getI hx hb0 hts q_ws_X5 hown hX hH (C := RX5) (T := TX5) (N := 8) (k := b) (i := 7) hb.k rfl (by decide) (hts _ q_fl_X5_51) rfl rfl dX5_dropArrowsOf_6 ?_
      refine g_icmp_ge (tgt := 93) hx hb0 dX5_dropArrowsOf_9 (by decide) h (fun h => ?_) (fun h => ?_)
      · exact hK93 _ _ _ _ _ hH (lv_sub hl [1, 2] rfl) h
      · refine lv_aload_n hx hb0 dX5_dropArrowsOf_12 rfl (lv_at hl 2 rfl) ?_
        refine lv_iload_n hx hb0 dX5_dropArrowsOf_13 rfl (lv_at hl 0 rfl) ?_
        obtain ⟨q14, e14, h⟩ := gBind_some h
        refine g_callVi (k := b) (T := TX5) (N := 8) (As := [.int (gI x3_4)]) (rest := []) ⟨hx, hb0, hml, hown, hts⟩ (metX5_from l D G b hb σ4 μ x3_4 q14 e14) (g_cwV (C := RX5) 1 hts q_ml_X5_60 q_im_X5_from q_se_X5_from q_in_X5 q_co_X5_from ⟨rfl, rfl⟩ (by decide +kernel) ⟨Nat.le_of_ble_eq_true rfl, Nat.le_of_ble_eq_true rfl⟩) hX hH hb.k rfl rfl hl.1 rfl (Nat.le_of_ble_eq_true rfl) dX5_dropArrowsOf_14 ⟨Nat.zero_le _, Nat.zero_le _⟩ (fun H locs hH => ?_)
        refine lv_istore (lv' := [(4, .int (gI q14)), (3, .int (gI x3_4)), (2, .int (gI x2_4)), (0, .ref (G.1 b)), (1, .int (gI a1))]) hx hb0 dX5_dropArrowsOf_17 hl (by decide) rfl (fun ls hl => ?_)
        refine lv_aload_n hx hb0 dX5_dropArrowsOf_19 rfl (lv_at hl 3 rfl) ?_
        refine lv_iload_n hx hb0 dX5_dropArrowsOf_20 rfl (lv_at hl 1 rfl) ?_
        obtain ⟨q21, e21, h⟩ := gBind_some h
        refine g_callVi (k := b) (T := TX5) (N := 8) (As := [.int (gI x3_4)]) (rest := []) ⟨hx, hb0, hml, hown, hts⟩ (metX5_to l D G b hb σ4 μ x3_4 q21 e21) (g_cwV (C := RX5) 1 hts q_ml_X5_54 q_im_X5_to q_se_X5_to q_in_X5 q_co_X5_to ⟨rfl, rfl⟩ (by decide +kernel) ⟨Nat.le_of_ble_eq_true rfl, Nat.le_of_ble_eq_true rfl⟩) hX hH hb.k rfl rfl hl.1 rfl (Nat.le_of_ble_eq_true rfl) dX5_dropArrowsOf_21 ⟨Nat.zero_le _, Nat.zero_le _⟩ (fun H locs hH => ?_)
        refine lv_istore (lv' := [(5, .int (gI q21)), (4, .int (gI q14)), (3, .int (gI x3_4)), (2, .int (gI x2_4)), (0, .ref (G.1 b)), (1, .int (gI a1))]) hx hb0 dX5_dropArrowsOf_24 hl (by decide) rfl (fun ls hl => ?_)
        refine lv_iload hx hb0 dX5_dropArrowsOf_26 (lv_at hl 1 rfl) ?_
        refine lv_iload_n hx hb0 dX5_dropArrowsOf_28 rfl (lv_at hl 5 rfl) ?_
        have hJ87 : ∀ (x2_87 : Int) (σ87 : gSt) (H : Heap) (locs : List Loc) (ls : Array Slot), gH D G s H locs σ87 μ → lv_has ls 6 [(3, .int (gI x3_4)), (2, .int (gI x2_87)), (0, .ref (G.1 b)), (1, .int (gI a1))] → (DX5_dropArrowsOf_J87 (DX5_dropArrowsOf_L4 (DX5_dropArrowsOf_K93 b) b a1 f4) x3_4 x2_87 σ87) = some (r, σ') → W p l e (headSpec (gWs yX5_dropArrowsOf cX5_dropArrowsOf 6 (some (Jvm.ClassFile.FieldType.int))) ({ frames := 2, cells := 0, slots := 0, locals := 42 } : Room)).room s m ([.ref (G.1 b), .int (gI a1)] : List Value).toArray below meth c H locs 0 0 (MQ below (gQi D G r σ' μ) ([.ref (G.1 b), .int (gI a1)] : List Value).toArray s 0 0 (gA G)) (F0 m 87 ls []) := by
          intro x2_87 σ87 H locs ls hH hl h
          unfold DX5_dropArrowsOf_J87 at h
          refine g_iinc (k := 0) (n := (1 : Int)) (lv' := [(3, .int (gI (x3_4 + (1 : Int)))), (2, .int (gI x2_87)), (0, .ref (G.1 b)), (1, .int (gI a1))]) hx hb0 dX5_dropArrowsOf_87 hl rfl (by decide) rfl (fun ls hl => ?_)
          refine lv_goto (tgt := 4) hx hb0 dX5_dropArrowsOf_90 (by decide) ?_
          exact ih4 _ _ _ _ _ _ hH (lv_sub hl [0, 1, 2, 3] rfl) h
        refine g_icmp_eq (tgt := 87) hx hb0 dX5_dropArrowsOf_29 (by decide) h (fun h => ?_) (fun h => ?_)
        · exact hJ87 _ _ _ _ _ hH (lv_sub hl [2, 3, 4, 5] rfl) h
        · refine lv_iload hx hb0 dX5_dropArrowsOf_32 (lv_at hl 0 rfl) ?_
          refine lv_iload_n hx hb0 dX5_dropArrowsOf_34 rfl (lv_at hl 5 rfl) ?_
          refine g_icmp_eq (tgt := 87) hx hb0 dX5_dropArrowsOf_35 (by decide) h (fun h => ?_) (fun h => ?_)
          · exact hJ87 _ _ _ _ _ hH (lv_sub hl [2, 3, 4, 5] rfl) h
          · refine lv_aload_n hx hb0 dX5_dropArrowsOf_38 rfl (lv_at hl 4 rfl) ?_
            refine g_getR hx hb0 hts q_ws_X5 hown hX hH (C := RX5) (T := TX5) (N := 8) (k := b) (i := 4) (j := (b + 9)) hb.k rfl (by decide) (hts _ q_fl_X5_29) rfl rfl dX5_dropArrowsOf_39 ?_
            refine lv_iload_n hx hb0 dX5_dropArrowsOf_42 rfl (lv_at hl 3 rfl) ?_
            refine lv_iload hx hb0 dX5_dropArrowsOf_43 (lv_at hl 1 rfl) ?_
            refine lv_iload_n hx hb0 dX5_dropArrowsOf_45 rfl (lv_at hl 5 rfl) ?_
            have hJ58 : ∀ (t0_58 : Int) (H : Heap) (locs : List Loc) (ls : Array Slot), gH D G s H locs σ4 μ → lv_has ls 6 [(5, .int (gI q21)), (3, .int (gI x3_4)), (2, .int (gI x2_4)), (0, .ref (G.1 b)), (1, .int (gI a1))] → (DX5_dropArrowsOf_J58 b a1 (DX5_dropArrowsOf_L4 (DX5_dropArrowsOf_K93 b) b a1 f4) x3_4 x2_4 σ4 q21 t0_58) = some (r, σ') → W p l e (headSpec (gWs yX5_dropArrowsOf cX5_dropArrowsOf 6 (some (Jvm.ClassFile.FieldType.int))) ({ frames := 2, cells := 0, slots := 0, locals := 42 } : Room)).room s m ([.ref (G.1 b), .int (gI a1)] : List Value).toArray below meth c H locs 0 0 (MQ below (gQi D G r σ' μ) ([.ref (G.1 b), .int (gI a1)] : List Value).toArray s 0 0 (gA G)) (F0 m 58 ls [.int (gI t0_58), .int (gI x2_4), .ref (G.1 (b + 9))]) := by
              intro t0_58 H locs ls hH hl h
              unfold DX5_dropArrowsOf_J58 at h
              obtain ⟨q58, e58, h⟩ := gBind_some h
              refine g_callVv (k := (b + 9)) (T := TX4) (N := 1) (As := [.int (gI x2_4), .int (gI t0_58)]) (rest := []) ⟨hx, hb0, hml, hown, hts⟩ (metX4_put l D G (b + 9) 30 (hb.n4) σ4 μ x2_4 t0_58 q58 e58) (g_cwV (C := RX4) 2 hts q_ml_X5_39 q_im_X4_put q_se_X4_put q_in_X4 q_co_X4_put ⟨rfl, rfl⟩ (by decide +kernel) ⟨Nat.le_of_ble_eq_true rfl, Nat.le_of_ble_eq_true rfl⟩) hX hH ((hb.n4)).1 rfl rfl hl.1 rfl (Nat.le_of_ble_eq_true rfl) dX5_dropArrowsOf_58 ⟨Nat.zero_le _, Nat.zero_le _⟩ (fun H locs hH => ?_)
              refine lv_aload_n hx hb0 dX5_dropArrowsOf_61 rfl (lv_at hl 3 rfl) ?_
              refine g_getR hx hb0 hts q_ws_X5 hown hX hH (C := RX5) (T := TX5) (N := 8) (k := b) (i := 5) (j := (b + 11)) hb.k rfl (by decide) (hts _ q_fl_X5_32) rfl rfl dX5_dropArrowsOf_62 ?_
              refine lv_iload_n hx hb0 dX5_dropArrowsOf_65 rfl (lv_at hl 2 rfl) ?_
              refine lv_iload hx hb0 dX5_dropArrowsOf_66 (lv_at hl 0 rfl) ?_
              refine lv_iload_n hx hb0 dX5_dropArrowsOf_68 rfl (lv_at hl 4 rfl) ?_
              have hJ81 : ∀ (t0_81 : Int) (H : Heap) (locs : List Loc) (ls : Array Slot), gH D G s H locs q58 μ → lv_has ls 6 [(3, .int (gI x3_4)), (2, .int (gI x2_4)), (0, .ref (G.1 b)), (1, .int (gI a1))] → (DX5_dropArrowsOf_J81 b (DX5_dropArrowsOf_L4 (DX5_dropArrowsOf_K93 b) b a1 f4) x3_4 x2_4 q58 t0_81) = some (r, σ') → W p l e (headSpec (gWs yX5_dropArrowsOf cX5_dropArrowsOf 6 (some (Jvm.ClassFile.FieldType.int))) ({ frames := 2, cells := 0, slots := 0, locals := 42 } : Room)).room s m ([.ref (G.1 b), .int (gI a1)] : List Value).toArray below meth c H locs 0 0 (MQ below (gQi D G r σ' μ) ([.ref (G.1 b), .int (gI a1)] : List Value).toArray s 0 0 (gA G)) (F0 m 81 ls [.int (gI t0_81), .int (gI x2_4), .ref (G.1 (b + 11))]) := by
                intro t0_81 H locs ls hH hl h
                unfold DX5_dropArrowsOf_J81 at h
                obtain ⟨q81, e81, h⟩ := gBind_some h
                refine g_callVv (k := (b + 11)) (T := TX4) (N := 1) (As := [.int (gI x2_4), .int (gI t0_81)]) (rest := []) ⟨hx, hb0, hml, hown, hts⟩ (metX4_put l D G (b + 11) 30 (hb.n5) q58 μ x2_4 t0_81 q81 e81) (g_cwV (C := RX4) 2 hts q_ml_X5_39 q_im_X4_put q_se_X4_put q_in_X4 q_co_X4_put ⟨rfl, rfl⟩ (by decide +kernel) ⟨Nat.le_of_ble_eq_true rfl, Nat.le_of_ble_eq_true rfl⟩) hX hH ((hb.n5)).1 rfl rfl hl.1 rfl (Nat.le_of_ble_eq_true rfl) dX5_dropArrowsOf_81 ⟨Nat.zero_le _, Nat.zero_le _⟩ (fun H locs hH => ?_)
                refine g_iinc (k := 1) (n := (1 : Int)) (lv' := [(2, .int (gI (x2_4 + (1 : Int)))), (3, .int (gI x3_4)), (0, .ref (G.1 b)), (1, .int (gI a1))]) hx hb0 dX5_dropArrowsOf_84 hl rfl (by decide) rfl (fun ls hl => ?_)
                exact hJ87 _ _ _ _ _ hH (lv_sub hl [1, 0, 2, 3] rfl) h
              refine g_icmp_le (tgt := 79) hx hb0 dX5_dropArrowsOf_69 (by decide) h (fun h => ?_) (fun h => ?_)
              · refine lv_iload hx hb0 dX5_dropArrowsOf_79 (lv_at hl 0 rfl) ?_
                exact hJ81 _ _ _ _ hH (lv_sub hl [1, 2, 3, 4] rfl) h
              · refine lv_iload hx hb0 dX5_dropArrowsOf_72 (lv_at hl 0 rfl) ?_
                refine lv_iconst (v := gI (1 : Int)) hx hb0 dX5_dropArrowsOf_74 (by decide) ?_
                refine g_isub hx hb0 dX5_dropArrowsOf_75 ?_
                refine lv_goto (tgt := 81) hx hb0 dX5_dropArrowsOf_76 (by decide) ?_
                exact hJ81 _ _ _ _ hH (lv_sub hl [1, 2, 3, 4] rfl) h
            refine g_icmp_le (tgt := 56) hx hb0 dX5_dropArrowsOf_46 (by decide) h (fun h => ?_) (fun h => ?_)
            · refine lv_iload hx hb0 dX5_dropArrowsOf_56 (lv_at hl 1 rfl) ?_
              exact hJ58 _ _ _ _ hH (lv_sub hl [0, 2, 3, 4, 5] rfl) h
            · refine lv_iload hx hb0 dX5_dropArrowsOf_49 (lv_at hl 1 rfl) ?_
              refine lv_iconst (v := gI (1 : Int)) hx hb0 dX5_dropArrowsOf_51 (by decide) ?_
              refine g_isub hx hb0 dX5_dropArrowsOf_52 ?_
              refine lv_goto (tgt := 58) hx hb0 dX5_dropArrowsOf_53 (by decide) ?_
              exact hJ58 _ _ _ _ hH (lv_sub hl [0, 2, 3, 4, 5] rfl) h
  exact hL4 gFuel _ _ _ _ _ _ hH (lv_sub hl [0, 1, 2, 3] rfl) h
def DX5_dropTask (b : Nat) (σ : gSt) (a1 : Int) : Option (Int × gSt) :=
  (DX5_hasTask b σ a1).bind fun q2 => gIf (q2 = (0 : Int)) q2 (0 : Int) (some ((0 : Int), σ)) ((DX4_closeGap (b + 3) 24 σ a1).bind fun q15 => (DX4_closeGap (b + 5) 24 q15 a1).bind fun q23 => (DX4_closeGap (b + 7) 24 q23 a1).bind fun q31 => (DX5_dropArrowsOf b (gUp q31 b 6 ((q31 b 6) - (1 : Int))) a1).bind fun q46 => some (q46.1, q46.2))
set_option maxHeartbeats 4000000 in
set_option maxRecDepth 100000 in
theorem metX5_dropTask (l : Launch) (D : va_G) (G : gAd) (b : Nat) (hb : gPlan b) (σ : gSt) (μ : gLg) (a1 : Int) (r : Int) (σ' : gSt) (h : DX5_dropTask b σ a1 = some (r, σ')) : Met l yX5_dropTask (gWs yX5_dropTask cX5_dropTask 2 (some (Jvm.ClassFile.FieldType.int))) ({ frames := 3, cells := 0, slots := 0, locals := 67 } : Room) (gPc D G [.ref (G.1 b), .int (gI a1)] σ μ) (gQi D G r σ' μ) 0 0 (gA G) := by
  refine Met.ofW (cc := cX5_dropTask) (maxL := 2) (ret := (some (Jvm.ClassFile.FieldType.int))) (by decide) rfl ?_
  intro p e s m args below meth c s₁ B hml hv
  obtain ⟨rfl, hP, hX⟩ := hv
  have hx := B.exec
  have hb0 := B.bytes
  have hr := B.returns
  have hts0 := atoms_spec (ws := (gWs yX5_dropTask cX5_dropTask 2 (some (Jvm.ClassFile.FieldType.int)))) B.pre
  have hts : ∀ w ∈ gLW, w.before _ s = true := fun w hw => hts0 w (List.mem_cons_of_mem _ hw)
  have hown : s.vm.findClass RX5 = some m.cls := findClass_of_methodNamed B.named
  have hlocks := B.notSynchronized
  have hH : gH D G s s.heap [] σ μ := ⟨hP, va_S.rf⟩
  have hl := lv_entry ([.ref (G.1 b), .int (gI a1)]) (n := 2) (Nat.le_of_ble_eq_true rfl)
  rw [lg_entry_eq]
  generalize (lg_sl ([.ref (G.1 b), .int (gI a1)]) ++ List.replicate (2 - (lg_sl ([.ref (G.1 b), .int (gI a1)])).length) Slot.unset).toArray = ls at hl ⊢
  have hl : lv_has ls 2 [(0, .ref (G.1 b)), (1, .int (gI a1))] := hl
  unfold DX5_dropTask at h
  refine lv_aload_n hx hb0 dX5_dropTask_0 rfl (lv_at hl 0 rfl) ?_
  refine lv_iload_n hx hb0 dX5_dropTask_1 rfl (lv_at hl 1 rfl) ?_
  obtain ⟨q2, e2, h⟩ := gBind_some h
  refine g_callVi (k := b) (T := TX5) (N := 8) (As := [.int (gI a1)]) (rest := []) ⟨hx, hb0, hml, hown, hts⟩ (metX5_hasTask l D G b hb σ μ a1 q2 e2) (g_cwV (C := RX5) 1 hts q_ml_X5_66 q_im_X5_hasTask q_se_X5_hasTask q_in_X5 q_co_X5_hasTask ⟨rfl, rfl⟩ (by decide +kernel) ⟨Nat.le_of_ble_eq_true rfl, Nat.le_of_ble_eq_true rfl⟩) hX hH hb.k rfl rfl hl.1 rfl (Nat.le_of_ble_eq_true rfl) dX5_dropTask_2 ⟨Nat.zero_le _, Nat.zero_le _⟩ (fun H locs hH => ?_)
  refine g_if_ne (tgt := 10) hx hb0 dX5_dropTask_5 (by decide) h (fun h => ?_) (fun h => ?_)
  · refine lv_aload_n hx hb0 dX5_dropTask_10 rfl (lv_at hl 0 rfl) ?_
    refine g_getR hx hb0 hts q_ws_X5 hown hX hH (C := RX5) (T := TX5) (N := 8) (k := b) (i := 1) (j := (b + 3)) hb.k rfl (by decide) (hts _ q_fl_X5_20) rfl rfl dX5_dropTask_11 ?_
    refine lv_iload_n hx hb0 dX5_dropTask_14 rfl (lv_at hl 1 rfl) ?_
    obtain ⟨q15, e15, h⟩ := gBind_some h
    refine g_callVv (k := (b + 3)) (T := TX4) (N := 1) (As := [.int (gI a1)]) (rest := []) ⟨hx, hb0, hml, hown, hts⟩ (metX4_closeGap l D G (b + 3) 24 (hb.n1) σ μ a1 q15 e15) (g_cwV (C := RX4) 1 hts q_ml_X5_80 q_im_X4_closeGap q_se_X4_closeGap q_in_X4 q_co_X4_closeGap ⟨rfl, rfl⟩ (by decide +kernel) ⟨Nat.le_of_ble_eq_true rfl, Nat.le_of_ble_eq_true rfl⟩) hX hH ((hb.n1)).1 rfl rfl hl.1 rfl (Nat.le_of_ble_eq_true rfl) dX5_dropTask_15 ⟨Nat.zero_le _, Nat.zero_le _⟩ (fun H locs hH => ?_)
    refine lv_aload_n hx hb0 dX5_dropTask_18 rfl (lv_at hl 0 rfl) ?_
    refine g_getR hx hb0 hts q_ws_X5 hown hX hH (C := RX5) (T := TX5) (N := 8) (k := b) (i := 2) (j := (b + 5)) hb.k rfl (by decide) (hts _ q_fl_X5_23) rfl rfl dX5_dropTask_19 ?_
    refine lv_iload_n hx hb0 dX5_dropTask_22 rfl (lv_at hl 1 rfl) ?_
    obtain ⟨q23, e23, h⟩ := gBind_some h
    refine g_callVv (k := (b + 5)) (T := TX4) (N := 1) (As := [.int (gI a1)]) (rest := []) ⟨hx, hb0, hml, hown, hts⟩ (metX4_closeGap l D G (b + 5) 24 (hb.n2) q15 μ a1 q23 e23) (g_cwV (C := RX4) 1 hts q_ml_X5_80 q_im_X4_closeGap q_se_X4_closeGap q_in_X4 q_co_X4_closeGap ⟨rfl, rfl⟩ (by decide +kernel) ⟨Nat.le_of_ble_eq_true rfl, Nat.le_of_ble_eq_true rfl⟩) hX hH ((hb.n2)).1 rfl rfl hl.1 rfl (Nat.le_of_ble_eq_true rfl) dX5_dropTask_23 ⟨Nat.zero_le _, Nat.zero_le _⟩ (fun H locs hH => ?_)
    refine lv_aload_n hx hb0 dX5_dropTask_26 rfl (lv_at hl 0 rfl) ?_
    refine g_getR hx hb0 hts q_ws_X5 hown hX hH (C := RX5) (T := TX5) (N := 8) (k := b) (i := 3) (j := (b + 7)) hb.k rfl (by decide) (hts _ q_fl_X5_26) rfl rfl dX5_dropTask_27 ?_
    refine lv_iload_n hx hb0 dX5_dropTask_30 rfl (lv_at hl 1 rfl) ?_
    obtain ⟨q31, e31, h⟩ := gBind_some h
    refine g_callVv (k := (b + 7)) (T := TX4) (N := 1) (As := [.int (gI a1)]) (rest := []) ⟨hx, hb0, hml, hown, hts⟩ (metX4_closeGap l D G (b + 7) 24 (hb.n3) q23 μ a1 q31 e31) (g_cwV (C := RX4) 1 hts q_ml_X5_80 q_im_X4_closeGap q_se_X4_closeGap q_in_X4 q_co_X4_closeGap ⟨rfl, rfl⟩ (by decide +kernel) ⟨Nat.le_of_ble_eq_true rfl, Nat.le_of_ble_eq_true rfl⟩) hX hH ((hb.n3)).1 rfl rfl hl.1 rfl (Nat.le_of_ble_eq_true rfl) dX5_dropTask_31 ⟨Nat.zero_le _, Nat.zero_le _⟩ (fun H locs hH => ?_)
    refine lv_aload_n hx hb0 dX5_dropTask_34 rfl (lv_at hl 0 rfl) ?_
    refine lv_dup hx hb0 dX5_dropTask_35 rfl ?_
    refine g_getI hx hb0 hts q_ws_X5 hown hX hH (C := RX5) (T := TX5) (N := 8) (k := b) (i := 6) hb.k rfl (by decide) (hts _ q_fl_X5_47) rfl rfl dX5_dropTask_36 ?_
    refine lv_iconst (v := gI (1 : Int)) hx hb0 dX5_dropTask_39 (by decide) ?_
    refine g_isub hx hb0 dX5_dropTask_40 ?_
    refine g_putI hx hb0 hts q_ws_X5 tyX5 tyX5_ok nmX5 hown hX hH (C := RX5) (T := TX5) (N := 8) (k := b) (i := 6) hb.k rfl (by decide) (hts _ q_fl_X5_47) rfl rfl rfl rfl dX5_dropTask_41 (fun H locs hH => ?_)
    refine lv_aload_n hx hb0 dX5_dropTask_44 rfl (lv_at hl 0 rfl) ?_
    refine lv_iload_n hx hb0 dX5_dropTask_45 rfl (lv_at hl 1 rfl) ?_
    obtain ⟨q46, e46, h⟩ := gBind_some h
    refine g_callVi (k := b) (T := TX5) (N := 8) (As := [.int (gI a1)]) (rest := []) ⟨hx, hb0, hml, hown, hts⟩ (metX5_dropArrowsOf l D G b hb (gUp q31 b 6 ((q31 b 6) - (1 : Int))) μ a1 q46.1 q46.2 e46) (g_cwV (C := RX5) 1 hts q_ml_X5_83 q_im_X5_dropArrowsOf q_se_X5_dropArrowsOf q_in_X5 q_co_X5_dropArrowsOf ⟨rfl, rfl⟩ (by decide +kernel) ⟨Nat.le_of_ble_eq_true rfl, Nat.le_of_ble_eq_true rfl⟩) hX hH hb.k rfl rfl hl.1 rfl (Nat.le_of_ble_eq_true rfl) dX5_dropTask_46 ⟨Nat.zero_le _, Nat.zero_le _⟩ (fun H locs hH => ?_)
    exact g_iretS hx hb0 hr hH hlocks dX5_dropTask_49 h
  · refine lv_iconst (v := gI (0 : Int)) hx hb0 dX5_dropTask_8 (by decide) ?_
    exact g_iretS hx hb0 hr hH hlocks dX5_dropTask_9 h
def DX8_removeTask (σ : gSt) (a1 : Int) : Option (Nat ⊕ (Int × gSt)) :=
  gXb (DX8_requireTask σ a1) fun _ => (DX3_save 1 σ).bind fun q13 => (DX5_dropTask 1 q13 a1).bind fun q21 => (DX8_printAnew q21.2).bind fun q26 => some (.inr (q21.1, q26))
set_option maxHeartbeats 4000000 in
set_option maxRecDepth 100000 in
theorem metX8_removeTask (l : Launch) (hlt : l.stackTraces = false) (D : va_G) (G : gAd) (σ : gSt) (μ : gLg) (a1 : Int) (r : Nat ⊕ (Int × gSt)) (h : DX8_removeTask σ a1 = some r) : vx_Met l yX8_removeTask (gWs yX8_removeTask cX8_removeTask 3 (some (Jvm.ClassFile.FieldType.int))) ({ frames := 7, cells := 1, slots := 6, locals := 131 } : Room) (gPc D G [.ref (G.1 0), .int (gI a1)] σ μ) (gXs D G r μ) (gXC D G r σ μ) 1 6 (gA G) := by
  refine vx_ofW (cc := cX8_removeTask) (maxL := 3) (ret := (some (Jvm.ClassFile.FieldType.int))) (by decide) rfl ?_
  intro p e s m args below meth c s₁ B hml hxt hv
  obtain ⟨rfl, hP, hX⟩ := hv
  have hx := B.exec
  have hb0 := B.bytes
  have hr := B.returns
  have hts0 := atoms_spec (ws := (gWs yX8_removeTask cX8_removeTask 3 (some (Jvm.ClassFile.FieldType.int)))) B.pre
  have hts : ∀ w ∈ gLW, w.before _ s = true := fun w hw => hts0 w (List.mem_cons_of_mem _ hw)
  have hown : s.vm.findClass RX8 = some m.cls := findClass_of_methodNamed B.named
  have hlocks := B.notSynchronized
  have hH : gH D G s s.heap [] σ μ := ⟨hP, va_S.rf⟩
  have hl := lv_entry ([.ref (G.1 0), .int (gI a1)]) (n := 3) (Nat.le_of_ble_eq_true rfl)
  rw [lg_entry_eq]
  generalize (lg_sl ([.ref (G.1 0), .int (gI a1)]) ++ List.replicate (3 - (lg_sl ([.ref (G.1 0), .int (gI a1)])).length) Slot.unset).toArray = ls at hl ⊢
  have hl : lv_has ls 3 [(0, .ref (G.1 0)), (1, .int (gI a1))] := hl
  unfold DX8_removeTask at h
  refine lv_aload_n hx hb0 dX8_removeTask_0 rfl (lv_at hl 0 rfl) ?_
  refine lv_iload_n hx hb0 dX8_removeTask_1 rfl (lv_at hl 1 rfl) ?_
  obtain ⟨q2, e2, h⟩ := gXb_some h
  refine g_xcallVv (k := 0) (T := TX8) (N := 10) (As := [.int (gI a1)]) (rest := []) (x := q2) ⟨hx, hb0, hml, hown, hts⟩ (metX8_requireTask l hlt D G σ μ a1 q2 e2) (g_cwX (C := RX8) 1 hts q_ml_X8_116 q_im_X8_requireTask q_se_X8_requireTask q_in_X8 q_co_X8_requireTask ⟨rfl, rfl⟩ (by decide +kernel) ⟨Nat.le_of_ble_eq_true rfl, Nat.le_of_ble_eq_true rfl⟩) hX hH (rfl : gKinds[0]? = _) rfl rfl hl.1 rfl (Nat.le_of_ble_eq_true rfl) dX8_removeTask_2 ⟨Nat.le_of_ble_eq_true rfl, Nat.le_of_ble_eq_true rfl⟩ (fun k9 E9 ce9 q9 H locs hk9 hE9 hH h1 h2 h3 => ?_) (fun hk9 H locs hH => ?_)
  · rcases h with ⟨k8, h8, h⟩ | ⟨a8, h8, h⟩
    · rw [h8] at hk9
      cases hk9
      exact g_xout hxt hlocks hE9 hH h1 h2 h3 (Nat.le_of_ble_eq_true rfl) (Nat.le_of_ble_eq_true rfl) h
    · rw [h8] at hk9
      cases hk9
  · rcases h with ⟨k8, h8, h⟩ | ⟨a8, h8, h⟩
    · rw [h8] at hk9
      cases hk9
    · refine lv_aload_n hx hb0 dX8_removeTask_5 rfl (lv_at hl 0 rfl) ?_
      refine g_getR hx hb0 hts q_ws_X8 hown hX hH (C := RX8) (T := TX8) (N := 10) (k := 0) (i := 2) (j := 27) (rfl : gKinds[0]? = _) rfl (by decide) (hts _ q_fl_X8_22) rfl rfl dX8_removeTask_6 ?_
      refine lv_aload_n hx hb0 dX8_removeTask_9 rfl (lv_at hl 0 rfl) ?_
      refine g_getR hx hb0 hts q_ws_X8 hown hX hH (C := RX8) (T := TX8) (N := 10) (k := 0) (i := 0) (j := 1) (rfl : gKinds[0]? = _) rfl (by decide) (hts _ q_fl_X8_12) rfl rfl dX8_removeTask_10 ?_
      obtain ⟨q13, e13, h⟩ := gBind_some h
      refine g_callVv (k := 27) (T := TX3) (N := 3) (As := [.ref (G.1 1)]) (rest := []) ⟨hx, hb0, hml, hown, hts⟩ (metX3_save l D G 1 gPlan_1 σ μ q13 e13) (g_cwV (C := RX3) 1 hts q_ml_X8_78 q_im_X3_save q_se_X3_save q_in_X3 q_co_X3_save ⟨rfl, rfl⟩ (by decide +kernel) ⟨Nat.le_of_ble_eq_true rfl, Nat.le_of_ble_eq_true rfl⟩) hX hH (rfl : gKinds[27]? = _) rfl rfl hl.1 rfl (Nat.le_of_ble_eq_true rfl) dX8_removeTask_13 ⟨Nat.le_of_ble_eq_true rfl, Nat.le_of_ble_eq_true rfl⟩ (fun H locs hH => ?_)
      refine lv_aload_n hx hb0 dX8_removeTask_16 rfl (lv_at hl 0 rfl) ?_
      refine g_getR hx hb0 hts q_ws_X8 hown hX hH (C := RX8) (T := TX8) (N := 10) (k := 0) (i := 0) (j := 1) (rfl : gKinds[0]? = _) rfl (by decide) (hts _ q_fl_X8_12) rfl rfl dX8_removeTask_17 ?_
      refine lv_iload_n hx hb0 dX8_removeTask_20 rfl (lv_at hl 1 rfl) ?_
      obtain ⟨q21, e21, h⟩ := gBind_some h
      refine g_callVi (k := 1) (T := TX5) (N := 8) (As := [.int (gI a1)]) (rest := []) ⟨hx, hb0, hml, hown, hts⟩ (metX5_dropTask l D G 1 gPlan_1 q13 μ a1 q21.1 q21.2 e21) (g_cwV (C := RX5) 1 hts q_ml_X8_129 q_im_X5_dropTask q_se_X5_dropTask q_in_X5 q_co_X5_dropTask ⟨rfl, rfl⟩ (by decide +kernel) ⟨Nat.le_of_ble_eq_true rfl, Nat.le_of_ble_eq_true rfl⟩) hX hH gPlan_1.k rfl rfl hl.1 rfl (Nat.le_of_ble_eq_true rfl) dX8_removeTask_21 ⟨Nat.le_of_ble_eq_true rfl, Nat.le_of_ble_eq_true rfl⟩ (fun H locs hH => ?_)
      refine lv_istore_n (lv' := [(2, .int (gI q21.1)), (0, .ref (G.1 0)), (1, .int (gI a1))]) hx hb0 dX8_removeTask_24 rfl hl (by decide) rfl (fun ls hl => ?_)
      refine lv_aload_n hx hb0 dX8_removeTask_25 rfl (lv_at hl 1 rfl) ?_
      obtain ⟨q26, e26, h⟩ := gBind_some h
      refine g_callVv (k := 0) (T := TX8) (N := 10) (As := []) (rest := []) ⟨hx, hb0, hml, hown, hts⟩ (metX8_printAnew l D G q21.2 μ q26 e26) (g_cwV (C := RX8) 0 hts q_ml_X8_90 q_im_X8_printAnew q_se_X8_printAnew q_in_X8 q_co_X8_printAnew ⟨rfl, rfl⟩ (by decide +kernel) ⟨Nat.le_of_ble_eq_true rfl, Nat.le_of_ble_eq_true rfl⟩) hX hH (rfl : gKinds[0]? = _) rfl rfl hl.1 rfl (Nat.le_of_ble_eq_true rfl) dX8_removeTask_26 ⟨Nat.le_of_ble_eq_true rfl, Nat.le_of_ble_eq_true rfl⟩ (fun H locs hH => ?_)
      refine lv_iload_n hx hb0 dX8_removeTask_29 rfl (lv_at hl 0 rfl) ?_
      exact g_xsret hx hb0 hr hH hlocks (Nat.le_of_ble_eq_true rfl) (Nat.le_of_ble_eq_true rfl) dX8_removeTask_30 h
