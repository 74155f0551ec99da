def DX9_begins_J127 (a1 : Int) (R100 : Int → gSt → Option (gSt)) (x6_100 : Int) (σ127 : gSt) : Option (gSt) :=
  gAt x6_100 24 (gAt x6_100 24 ((DX9_takesRow (gUp (gUp σ127 142 (Int.toNat x6_100) ((σ127 136 7) - (1 : Int))) 143 (Int.toNat x6_100) ((gUp σ127 142 (Int.toNat x6_100) ((σ127 136 7) - (1 : Int))) 136 8)) x6_100).bind fun q154 => (DX9_next q154 a1 x6_100).bind fun q161 => (R100 q161 q154)))
def DX9_begins_L100 (a1 : Int) (a2 : Int) : Nat → Int → gSt → Option (gSt)
  | 0, _, _ => none
  | f100 + 1, x6_100, σ100 => gIf (x6_100 = (-1 : Int)) x6_100 (-1 : Int) (some σ100) (gIf ((σ100 136 8) = a2) (σ100 136 8) a2 ((DX9_newBand σ100).bind fun q115 => (DX9_takesRow q115 ((200 : Int) + a1)).bind fun q124 => (DX9_begins_J127 a1 (DX9_begins_L100 a1 a2 f100) x6_100 q124)) ((DX9_begins_J127 a1 (DX9_begins_L100 a1 a2 f100) x6_100 σ100)))
def DX9_begins_J84 (a1 : Int) (a2 : Int) (σ84 : gSt) : Option (gSt) :=
  (DX9_takesRow σ84 ((100 : Int) + a1)).bind fun q89 => (DX9_next q89 a1 (-1 : Int)).bind fun q95 => (DX9_begins_L100 a1 a2 gFuel q95 q89)
def DX9_begins_J80 (σ : gSt) (a1 : Int) (a2 : Int) : Option (gSt) :=
  (DX9_newBand σ).bind fun q81 => (DX9_begins_J84 a1 a2 q81)
def DX9_begins_J60 (σ : gSt) (a1 : Int) (a2 : Int) (t0_25 : Int) (t0_60 : Int) : Option (gSt) :=
  gIf ((σ 136 7) = (0 : Int)) (σ 136 7) (0 : Int) ((DX9_begins_J80 σ a1 a2)) (gIf (t0_60 = (0 : Int)) t0_60 (0 : Int) (gIf (t0_25 < (2 : Int)) t0_25 (2 : Int) ((DX9_begins_J80 σ a1 a2)) ((DX9_begins_J84 a1 a2 σ))) ((DX9_begins_J80 σ a1 a2)))
def DX9_begins_J59 (σ : gSt) (a1 : Int) (a2 : Int) (t0_25 : Int) : Option (gSt) :=
  (DX9_begins_J60 σ a1 a2 t0_25 (0 : Int))
def DX9_begins_J25 (σ : gSt) (a1 : Int) (a2 : Int) (q2 : Int) (t0_25 : Int) : Option (gSt) :=
  gAt (2 : Int) 138 (gIf ((σ 137 (Int.toNat (2 : Int))) = (1 : Int)) (σ 137 (Int.toNat (2 : Int))) (1 : Int) (gIf (t0_25 < (q2 + (1 : Int))) (q2 + (1 : Int)) t0_25 (gIf (a2 < (q2 + (1 : Int))) (q2 + (1 : Int)) a2 ((DX9_begins_J59 σ a1 a2 t0_25)) (gIf ((0 : Int) < (σ 136 8)) (σ 136 8) (0 : Int) ((DX9_begins_J60 σ a1 a2 t0_25 (1 : Int))) ((DX9_begins_J59 σ a1 a2 t0_25)))) ((DX9_begins_J59 σ a1 a2 t0_25))) ((DX9_begins_J59 σ a1 a2 t0_25)))
def DX9_begins (σ : gSt) (a1 : Int) (a2 : Int) : Option (gSt) :=
  (DX9_sizeOf σ a1).bind fun q2 => gIf ((σ 136 7) = (0 : Int)) (σ 136 7) (0 : Int) ((DX9_begins_J25 σ a1 a2 q2 (0 : Int))) ((DX9_begins_J25 σ a1 a2 q2 (a2 - (σ 136 8))))
set_option maxHeartbeats 4000000 in
set_option maxRecDepth 100000 in
theorem metX9_begins (l : Launch) (D : va_G) (G : gAd) (σ : gSt) (μ : gLg) (a1 : Int) (a2 : Int) (σ' : gSt) (h : DX9_begins σ a1 a2 = some σ') : Met l yX9_begins (gWs yX9_begins cX9_begins 7 none) ({ frames := 2, cells := 0, slots := 0, locals := 47 } : Room) (gPc D G [.ref (G.1 136), .int (gI a1), .int (gI a2)] σ μ) (gQv D G σ' μ) 0 0 (gA G) := by
  refine Met.ofW (cc := cX9_begins) (maxL := 7) (ret := none) (by decide) rfl ?_
  intro p e s m args below meth c s₁ B hml hv
  obtain ⟨rfl, hP, hX⟩ := hv
  have hx := B.exec
  have hb0 := B.bytes
  have hr := B.returns
  have hts0 := atoms_spec (ws := (gWs yX9_begins cX9_begins 7 none)) B.pre
  have hts : ∀ w ∈ gLW, w.before _ s = true := fun w hw => hts0 w (List.mem_cons_of_mem _ hw)
  have hown : s.vm.findClass RX9 = some m.cls := findClass_of_methodNamed B.named
  have hlocks := B.notSynchronized
  have hH : gH D G s s.heap [] σ μ := ⟨hP, va_S.rf⟩
  have hl := lv_entry ([.ref (G.1 136), .int (gI a1), .int (gI a2)]) (n := 7) (Nat.le_of_ble_eq_true rfl)
  rw [lg_entry_eq]
  generalize (lg_sl ([.ref (G.1 136), .int (gI a1), .int (gI a2)]) ++ List.replicate (7 - (lg_sl ([.ref (G.1 136), .int (gI a1), .int (gI a2)])).length) Slot.unset).toArray = ls at hl ⊢
  have hl : lv_has ls 7 [(0, .ref (G.1 136)), (1, .int (gI a1)), (2, .int (gI a2))] := hl
  unfold DX9_begins at h
  refine lv_aload_n hx hb0 dX9_begins_0 rfl (lv_at hl 0 rfl) ?_
  refine lv_iload_n hx hb0 dX9_begins_1 rfl (lv_at hl 1 rfl) ?_
  obtain ⟨q2, e2, h⟩ := gBind_some h
  refine g_callVi (k := 136) (T := TX9) (N := 19) (As := [.int (gI a1)]) (rest := []) ⟨hx, hb0, hml, hown, hts⟩ (metX9_sizeOf l D G σ μ a1 q2 e2) (g_cwV (C := RX9) 1 hts q_ml_X9_109 q_im_X9_sizeOf q_se_X9_sizeOf q_in_X9 q_co_X9_sizeOf ⟨rfl, rfl⟩ (by decide +kernel) ⟨Nat.le_of_ble_eq_true rfl, Nat.le_of_ble_eq_true rfl⟩) hX hH (rfl : gKinds[136]? = _) rfl rfl hl.1 rfl (Nat.le_of_ble_eq_true rfl) dX9_begins_2 ⟨Nat.zero_le _, Nat.zero_le _⟩ (fun H locs hH => ?_)
  refine lv_iconst (v := gI (1 : Int)) hx hb0 dX9_begins_5 (by decide) ?_
  refine g_iadd hx hb0 dX9_begins_6 ?_
  refine lv_istore_n (lv' := [(3, .int (gI (q2 + (1 : Int)))), (0, .ref (G.1 136)), (1, .int (gI a1)), (2, .int (gI a2))]) hx hb0 dX9_begins_7 rfl hl (by decide) rfl (fun ls hl => ?_)
  refine lv_aload_n hx hb0 dX9_begins_8 rfl (lv_at hl 1 rfl) ?_
  refine g_getI hx hb0 hts q_ws_X9 hown hX hH (C := RX9) (T := TX9) (N := 19) (k := 136) (i := 7) (rfl : gKinds[136]? = _) rfl (by decide) (hts _ q_fl_X9_103) rfl rfl dX9_begins_9 ?_
  have hJ25 : ∀ (t0_25 : Int) (H : Heap) (locs : List Loc) (ls : Array Slot), gH D G s H locs σ μ → lv_has ls 7 [(3, .int (gI (q2 + (1 : Int)))), (0, .ref (G.1 136)), (1, .int (gI a1)), (2, .int (gI a2))] → (DX9_begins_J25 σ a1 a2 q2 t0_25) = some σ' → W p l e (headSpec (gWs yX9_begins cX9_begins 7 none) ({ frames := 2, cells := 0, slots := 0, locals := 47 } : Room)).room s m ([.ref (G.1 136), .int (gI a1), .int (gI a2)] : List Value).toArray below meth c H locs 0 0 (MQ below (gQv D G σ' μ) ([.ref (G.1 136), .int (gI a1), .int (gI a2)] : List Value).toArray s 0 0 (gA G)) (F0 m 25 ls [.int (gI t0_25)]) := by
    intro t0_25 H locs ls hH hl h
    unfold DX9_begins_J25 at h
    refine lv_istore (lv' := [(4, .int (gI t0_25)), (3, .int (gI (q2 + (1 : Int)))), (0, .ref (G.1 136)), (1, .int (gI a1)), (2, .int (gI a2))]) hx hb0 dX9_begins_25 hl (by decide) rfl (fun ls hl => ?_)
    refine lv_aload_n hx hb0 dX9_begins_27 rfl (lv_at hl 2 rfl) ?_
    refine g_getR hx hb0 hts q_ws_X9 hown hX hH (C := RX9) (T := TX9) (N := 19) (k := 136) (i := 0) (j := 137) (rfl : gKinds[136]? = _) rfl (by decide) (hts _ q_fl_X9_7) rfl rfl dX9_begins_28 ?_
    refine lv_iconst (v := gI (2 : Int)) hx hb0 dX9_begins_31 (by decide) ?_
    refine g_iald hx hb0 hX hH (k := 137) (rfl : gKinds[137]? = _) (by decide) dX9_begins_32 h (fun h => ?_)
    refine lv_iconst (v := gI (1 : Int)) hx hb0 dX9_begins_33 (by decide) ?_
    have hJ60 : ∀ (t0_60 : Int) (H : Heap) (locs : List Loc) (ls : Array Slot), gH D G s H locs σ μ → lv_has ls 7 [(4, .int (gI t0_25)), (0, .ref (G.1 136)), (1, .int (gI a1)), (2, .int (gI a2))] → (DX9_begins_J60 σ a1 a2 t0_25 t0_60) = some σ' → W p l e (headSpec (gWs yX9_begins cX9_begins 7 none) ({ frames := 2, cells := 0, slots := 0, locals := 47 } : Room)).room s m ([.ref (G.1 136), .int (gI a1), .int (gI a2)] : List Value).toArray below meth c H locs 0 0 (MQ below (gQv D G σ' μ) ([.ref (G.1 136), .int (gI a1), .int (gI a2)] : List Value).toArray s 0 0 (gA G)) (F0 m 60 ls [.int (gI t0_60)]) := by
      intro t0_60 H locs ls hH hl h
      unfold DX9_begins_J60 at h
      refine lv_istore (lv' := [(5, .int (gI t0_60)), (4, .int (gI t0_25)), (0, .ref (G.1 136)), (1, .int (gI a1)), (2, .int (gI a2))]) hx hb0 dX9_begins_60 hl (by decide) rfl (fun ls hl => ?_)
      refine lv_aload_n hx hb0 dX9_begins_62 rfl (lv_at hl 2 rfl) ?_
      refine g_getI hx hb0 hts q_ws_X9 hown hX hH (C := RX9) (T := TX9) (N := 19) (k := 136) (i := 7) (rfl : gKinds[136]? = _) rfl (by decide) (hts _ q_fl_X9_103) rfl rfl dX9_begins_63 ?_
      have hJ84 : ∀ (σ84 : gSt) (H : Heap) (locs : List Loc) (ls : Array Slot), gH D G s H locs σ84 μ → lv_has ls 7 [(0, .ref (G.1 136)), (1, .int (gI a1)), (2, .int (gI a2))] → (DX9_begins_J84 a1 a2 σ84) = some σ' → W p l e (headSpec (gWs yX9_begins cX9_begins 7 none) ({ frames := 2, cells := 0, slots := 0, locals := 47 } : Room)).room s m ([.ref (G.1 136), .int (gI a1), .int (gI a2)] : List Value).toArray below meth c H locs 0 0 (MQ below (gQv D G σ' μ) ([.ref (G.1 136), .int (gI a1), .int (gI a2)] : List Value).toArray s 0 0 (gA G)) (F0 m 84 ls []) := by
        intro σ84 H locs ls hH hl h
        unfold DX9_begins_J84 at h
        refine lv_aload_n hx hb0 dX9_begins_84 rfl (lv_at hl 0 rfl) ?_
        refine lv_bipush (v := gI (100 : Int)) hx hb0 dX9_begins_85 (by decide) ?_
        refine lv_iload_n hx hb0 dX9_begins_87 rfl (lv_at hl 1 rfl) ?_
        refine g_iadd hx hb0 dX9_begins_88 ?_
        obtain ⟨q89, e89, h⟩ := gBind_some h
        refine g_callVv (k := 136) (T := TX9) (N := 19) (As := [.int (gI ((100 : Int) + a1))]) (rest := []) ⟨hx, hb0, hml, hown, hts⟩ (metX9_takesRow l D G σ84 μ ((100 : Int) + a1) q89 e89) (g_cwV (C := RX9) 1 hts q_ml_X9_115 q_im_X9_takesRow q_se_X9_takesRow q_in_X9 q_co_X9_takesRow ⟨rfl, rfl⟩ (by decide +kernel) ⟨Nat.le_of_ble_eq_true rfl, Nat.le_of_ble_eq_true rfl⟩) hX hH (rfl : gKinds[136]? = _) rfl rfl hl.1 rfl (Nat.le_of_ble_eq_true rfl) dX9_begins_89 ⟨Nat.zero_le _, Nat.zero_le _⟩ (fun H locs hH => ?_)
        refine lv_aload_n hx hb0 dX9_begins_92 rfl (lv_at hl 0 rfl) ?_
        refine lv_iload_n hx hb0 dX9_begins_93 rfl (lv_at hl 1 rfl) ?_
        refine lv_iconst (v := gI (-1 : Int)) hx hb0 dX9_begins_94 (by decide) ?_
        obtain ⟨q95, e95, h⟩ := gBind_some h
        refine g_callVi (k := 136) (T := TX9) (N := 19) (As := [.int (gI a1), .int (gI (-1 : Int))]) (rest := []) ⟨hx, hb0, hml, hown, hts⟩ (metX9_next l D G q89 μ a1 (-1 : Int) q95 e95) (g_cwV (C := RX9) 2 hts q_ml_X9_118 q_im_X9_next q_se_X9_next q_in_X9 q_co_X9_next ⟨rfl, rfl⟩ (by decide +kernel) ⟨Nat.le_of_ble_eq_true rfl, Nat.le_of_ble_eq_true rfl⟩) hX hH (rfl : gKinds[136]? = _) rfl rfl hl.1 rfl (Nat.le_of_ble_eq_true rfl) dX9_begins_95 ⟨Nat.zero_le _, Nat.zero_le _⟩ (fun H locs hH => ?_)
        refine lv_istore (lv' := [(6, .int (gI q95)), (0, .ref (G.1 136)), (1, .int (gI a1)), (2, .int (gI a2))]) hx hb0 dX9_begins_98 hl (by decide) rfl (fun ls hl => ?_)
        have hL100 : ∀ (f100 : Nat) (x6_100 : Int) (σ100 : gSt) (H : Heap) (locs : List Loc) (ls : Array Slot), gH D G s H locs σ100 μ → lv_has ls 7 [(6, .int (gI x6_100)), (0, .ref (G.1 136)), (1, .int (gI a1)), (2, .int (gI a2))] → (DX9_begins_L100 a1 a2 f100 x6_100 σ100) = some σ' → W p l e (headSpec (gWs yX9_begins cX9_begins 7 none) ({ frames := 2, cells := 0, slots := 0, locals := 47 } : Room)).room s m ([.ref (G.1 136), .int (gI a1), .int (gI a2)] : List Value).toArray below meth c H locs 0 0 (MQ below (gQv D G σ' μ) ([.ref (G.1 136), .int (gI a1), .int (gI a2)] : List Value).toArray s 0 0 (gA G)) (F0 m 100 ls []) := by
          intro f100
          induction f100 with
          | zero => intro x6_100 σ100 H locs ls hH hl h; cases h
          | succ f100 ih100 =>
            intro x6_100 σ100 H locs ls hH hl h
            unfold DX9_begins_L100 at h
            refine lv_iload hx hb0 dX9_begins_100 (lv_at hl 0 rfl) ?_
            refine lv_iconst (v := gI (-1 : Int)) hx hb0 dX9_begins_102 (by decide) ?_
            refine g_icmp_eq (tgt := 169) hx hb0 dX9_begins_103 (by decide) h (fun h => ?_) (fun h => ?_)
            · exact g_vretS hx hb0 hr hH hlocks dX9_begins_169 h
            · refine lv_aload_n hx hb0 dX9_begins_106 rfl (lv_at hl 1 rfl) ?_
              refine g_getI hx hb0 hts q_ws_X9 hown hX hH (C := RX9) (T := TX9) (N := 19) (k := 136) (i := 8) (rfl : gKinds[136]? = _) rfl (by decide) (hts _ q_fl_X9_106) rfl rfl dX9_begins_107 ?_
              refine lv_iload_n hx hb0 dX9_begins_110 rfl (lv_at hl 3 rfl) ?_
              have hJ127 : ∀ (σ127 : gSt) (H : Heap) (locs : List Loc) (ls : Array Slot), gH D G s H locs σ127 μ → lv_has ls 7 [(6, .int (gI x6_100)), (0, .ref (G.1 136)), (1, .int (gI a1)), (2, .int (gI a2))] → (DX9_begins_J127 a1 (DX9_begins_L100 a1 a2 f100) x6_100 σ127) = some σ' → W p l e (headSpec (gWs yX9_begins cX9_begins 7 none) ({ frames := 2, cells := 0, slots := 0, locals := 47 } : Room)).room s m ([.ref (G.1 136), .int (gI a1), .int (gI a2)] : List Value).toArray below meth c H locs 0 0 (MQ below (gQv D G σ' μ) ([.ref (G.1 136), .int (gI a1), .int (gI a2)] : List Value).toArray s 0 0 (gA G)) (F0 m 127 ls []) := by
                intro σ127 H locs ls hH hl h
                unfold DX9_begins_J127 at h
                refine lv_aload_n hx hb0 dX9_begins_127 rfl (lv_at hl 1 rfl) ?_
                refine g_getR hx hb0 hts q_ws_X9 hown hX hH (C := RX9) (T := TX9) (N := 19) (k := 136) (i := 10) (j := 142) (rfl : gKinds[136]? = _) rfl (by decide) (hts _ q_fl_X9_25) rfl rfl dX9_begins_128 ?_
                refine lv_iload hx hb0 dX9_begins_131 (lv_at hl 0 rfl) ?_
                refine lv_aload_n hx hb0 dX9_begins_133 rfl (lv_at hl 1 rfl) ?_
                refine g_getI hx hb0 hts q_ws_X9 hown hX hH (C := RX9) (T := TX9) (N := 19) (k := 136) (i := 7) (rfl : gKinds[136]? = _) rfl (by decide) (hts _ q_fl_X9_103) rfl rfl dX9_begins_134 ?_
                refine lv_iconst (v := gI (1 : Int)) hx hb0 dX9_begins_137 (by decide) ?_
                refine g_isub hx hb0 dX9_begins_138 ?_
                refine g_iast hx hb0 hX hH (k := 142) (rfl : gKinds[142]? = _) (by decide) dX9_begins_139 h (fun h H locs hH => ?_)
                refine lv_aload_n hx hb0 dX9_begins_140 rfl (lv_at hl 1 rfl) ?_
                refine g_getR hx hb0 hts q_ws_X9 hown hX hH (C := RX9) (T := TX9) (N := 19) (k := 136) (i := 11) (j := 143) (rfl : gKinds[136]? = _) rfl (by decide) (hts _ q_fl_X9_28) rfl rfl dX9_begins_141 ?_
                refine lv_iload hx hb0 dX9_begins_144 (lv_at hl 0 rfl) ?_
                refine lv_aload_n hx hb0 dX9_begins_146 rfl (lv_at hl 1 rfl) ?_
                refine g_getI hx hb0 hts q_ws_X9 hown hX hH (C := RX9) (T := TX9) (N := 19) (k := 136) (i := 8) (rfl : gKinds[136]? = _) rfl (by decide) (hts _ q_fl_X9_106) rfl rfl dX9_begins_147 ?_
                refine g_iast hx hb0 hX hH (k := 143) (rfl : gKinds[143]? = _) (by decide) dX9_begins_150 h (fun h H locs hH => ?_)
                refine lv_aload_n hx hb0 dX9_begins_151 rfl (lv_at hl 1 rfl) ?_
                refine lv_iload hx hb0 dX9_begins_152 (lv_at hl 0 rfl) ?_
                obtain ⟨q154, e154, h⟩ := gBind_some h
                refine g_callVv (k := 136) (T := TX9) (N := 19) (As := [.int (gI x6_100)]) (rest := []) ⟨hx, hb0, hml, hown, hts⟩ (metX9_takesRow l D G (gUp (gUp σ127 142 (Int.toNat x6_100) ((σ127 136 7) - (1 : Int))) 143 (Int.toNat x6_100) ((gUp σ127 142 (Int.toNat x6_100) ((σ127 136 7) - (1 : Int))) 136 8)) μ x6_100 q154 e154) (g_cwV (C := RX9) 1 hts q_ml_X9_115 q_im_X9_takesRow q_se_X9_takesRow q_in_X9 q_co_X9_takesRow ⟨rfl, rfl⟩ (by decide +kernel) ⟨Nat.le_of_ble_eq_true rfl, Nat.le_of_ble_eq_true rfl⟩) hX hH (rfl : gKinds[136]? = _) rfl rfl hl.1 rfl (Nat.le_of_ble_eq_true rfl) dX9_begins_154 ⟨Nat.zero_le _, Nat.zero_le _⟩ (fun H locs hH => ?_)
                refine lv_aload_n hx hb0 dX9_begins_157 rfl (lv_at hl 1 rfl) ?_
                refine lv_iload_n hx hb0 dX9_begins_158 rfl (lv_at hl 2 rfl) ?_
                refine lv_iload hx hb0 dX9_begins_159 (lv_at hl 0 rfl) ?_
                obtain ⟨q161, e161, h⟩ := gBind_some h
                refine g_callVi (k := 136) (T := TX9) (N := 19) (As := [.int (gI a1), .int (gI x6_100)]) (rest := []) ⟨hx, hb0, hml, hown, hts⟩ (metX9_next l D G q154 μ a1 x6_100 q161 e161) (g_cwV (C := RX9) 2 hts q_ml_X9_118 q_im_X9_next q_se_X9_next q_in_X9 q_co_X9_next ⟨rfl, rfl⟩ (by decide +kernel) ⟨Nat.le_of_ble_eq_true rfl, Nat.le_of_ble_eq_true rfl⟩) hX hH (rfl : gKinds[136]? = _) rfl rfl hl.1 rfl (Nat.le_of_ble_eq_true rfl) dX9_begins_161 ⟨Nat.zero_le _, Nat.zero_le _⟩ (fun H locs hH => ?_)
                refine lv_istore (lv' := [(6, .int (gI q161)), (0, .ref (G.1 136)), (1, .int (gI a1)), (2, .int (gI a2))]) hx hb0 dX9_begins_164 hl (by decide) rfl (fun ls hl => ?_)
                refine lv_goto (tgt := 100) hx hb0 dX9_begins_166 (by decide) ?_
                exact ih100 _ _ _ _ _ hH (lv_sub hl [0, 1, 2, 3] rfl) h
              refine g_icmp_ne (tgt := 127) hx hb0 dX9_begins_111 (by decide) h (fun h => ?_) (fun h => ?_)
              · exact hJ127 _ _ _ _ hH (lv_sub hl [0, 1, 2, 3] rfl) h
              · refine lv_aload_n hx hb0 dX9_begins_114 rfl (lv_at hl 1 rfl) ?_
                obtain ⟨q115, e115, h⟩ := gBind_some h
                refine g_callVv (k := 136) (T := TX9) (N := 19) (As := []) (rest := []) ⟨hx, hb0, hml, hown, hts⟩ (metX9_newBand l D G σ100 μ q115 e115) (g_cwV (C := RX9) 0 hts q_ml_X9_112 q_im_X9_newBand q_se_X9_newBand q_in_X9 q_co_X9_newBand ⟨rfl, rfl⟩ (by decide +kernel) ⟨Nat.le_of_ble_eq_true rfl, Nat.le_of_ble_eq_true rfl⟩) hX hH (rfl : gKinds[136]? = _) rfl rfl hl.1 rfl (Nat.le_of_ble_eq_true rfl) dX9_begins_115 ⟨Nat.zero_le _, Nat.zero_le _⟩ (fun H locs hH => ?_)
                refine lv_aload_n hx hb0 dX9_begins_118 rfl (lv_at hl 1 rfl) ?_
                refine lv_sipush (v := gI (200 : Int)) hx hb0 dX9_begins_119 (by decide) ?_
                refine lv_iload_n hx hb0 dX9_begins_122 rfl (lv_at hl 2 rfl) ?_
                refine g_iadd hx hb0 dX9_begins_123 ?_
                obtain ⟨q124, e124, h⟩ := gBind_some h
                refine g_callVv (k := 136) (T := TX9) (N := 19) (As := [.int (gI ((200 : Int) + a1))]) (rest := []) ⟨hx, hb0, hml, hown, hts⟩ (metX9_takesRow l D G q115 μ ((200 : Int) + a1) q124 e124) (g_cwV (C := RX9) 1 hts q_ml_X9_115 q_im_X9_takesRow q_se_X9_takesRow q_in_X9 q_co_X9_takesRow ⟨rfl, rfl⟩ (by decide +kernel) ⟨Nat.le_of_ble_eq_true rfl, Nat.le_of_ble_eq_true rfl⟩) hX hH (rfl : gKinds[136]? = _) rfl rfl hl.1 rfl (Nat.le_of_ble_eq_true rfl) dX9_begins_124 ⟨Nat.zero_le _, Nat.zero_le _⟩ (fun H locs hH => ?_)
                exact hJ127 _ _ _ _ hH (lv_sub hl [0, 1, 2, 3] rfl) h
        exact hL100 gFuel _ _ _ _ _ hH (lv_sub hl [0, 1, 2, 3] rfl) h
      have hJ80 : ∀  (H : Heap) (locs : List Loc) (ls : Array Slot), gH D G s H locs σ μ → lv_has ls 7 [(0, .ref (G.1 136)), (1, .int (gI a1)), (2, .int (gI a2))] → (DX9_begins_J80 σ a1 a2) = some σ' → W p l e (headSpec (gWs yX9_begins cX9_begins 7 none) ({ frames := 2, cells := 0, slots := 0, locals := 47 } : Room)).room s m ([.ref (G.1 136), .int (gI a1), .int (gI a2)] : List Value).toArray below meth c H locs 0 0 (MQ below (gQv D G σ' μ) ([.ref (G.1 136), .int (gI a1), .int (gI a2)] : List Value).toArray s 0 0 (gA G)) (F0 m 80 ls []) := by
        intro H locs ls hH hl h
        unfold DX9_begins_J80 at h
        refine lv_aload_n hx hb0 dX9_begins_80 rfl (lv_at hl 0 rfl) ?_
        obtain ⟨q81, e81, h⟩ := gBind_some h
        refine g_callVv (k := 136) (T := TX9) (N := 19) (As := []) (rest := []) ⟨hx, hb0, hml, hown, hts⟩ (metX9_newBand l D G σ μ q81 e81) (g_cwV (C := RX9) 0 hts q_ml_X9_112 q_im_X9_newBand q_se_X9_newBand q_in_X9 q_co_X9_newBand ⟨rfl, rfl⟩ (by decide +kernel) ⟨Nat.le_of_ble_eq_true rfl, Nat.le_of_ble_eq_true rfl⟩) hX hH (rfl : gKinds[136]? = _) rfl rfl hl.1 rfl (Nat.le_of_ble_eq_true rfl) dX9_begins_81 ⟨Nat.zero_le _, Nat.zero_le _⟩ (fun H locs hH => ?_)
        exact hJ84 _ _ _ _ hH (lv_sub hl [0, 1, 2] rfl) h
      refine g_if_eq (tgt := 80) hx hb0 dX9_begins_66 (by decide) h (fun h => ?_) (fun h => ?_)
      · exact hJ80  _ _ _ hH (lv_sub hl [2, 3, 4] rfl) h
      · refine lv_iload hx hb0 dX9_begins_69 (lv_at hl 0 rfl) ?_
        refine g_if_ne (tgt := 80) hx hb0 dX9_begins_71 (by decide) h (fun h => ?_) (fun h => ?_)
        · exact hJ80  _ _ _ hH (lv_sub hl [2, 3, 4] rfl) h
        · refine lv_iload hx hb0 dX9_begins_74 (lv_at hl 1 rfl) ?_
          refine lv_iconst (v := gI (2 : Int)) hx hb0 dX9_begins_76 (by decide) ?_
          refine g_icmp_ge (tgt := 84) hx hb0 dX9_begins_77 (by decide) h (fun h => ?_) (fun h => ?_)
          · exact hJ84 _ _ _ _ hH (lv_sub hl [2, 3, 4] rfl) h
          · exact hJ80  _ _ _ hH (lv_sub hl [2, 3, 4] rfl) h
    have hJ59 : ∀  (H : Heap) (locs : List Loc) (ls : Array Slot), gH D G s H locs σ μ → lv_has ls 7 [(4, .int (gI t0_25)), (0, .ref (G.1 136)), (1, .int (gI a1)), (2, .int (gI a2))] → (DX9_begins_J59 σ a1 a2 t0_25) = some σ' → W p l e (headSpec (gWs yX9_begins cX9_begins 7 none) ({ frames := 2, cells := 0, slots := 0, locals := 47 } : Room)).room s m ([.ref (G.1 136), .int (gI a1), .int (gI a2)] : List Value).toArray below meth c H locs 0 0 (MQ below (gQv D G σ' μ) ([.ref (G.1 136), .int (gI a1), .int (gI a2)] : List Value).toArray s 0 0 (gA G)) (F0 m 59 ls []) := by
      intro H locs ls hH hl h
      unfold DX9_begins_J59 at h
      refine lv_iconst (v := gI (0 : Int)) hx hb0 dX9_begins_59 (by decide) ?_
      exact hJ60 _ _ _ _ hH (lv_sub hl [0, 1, 2, 3] rfl) h
    refine g_icmp_ne (tgt := 59) hx hb0 dX9_begins_34 (by decide) h (fun h => ?_) (fun h => ?_)
    · exact hJ59  _ _ _ hH (lv_sub hl [0, 2, 3, 4] rfl) h
    · refine lv_iload_n hx hb0 dX9_begins_37 rfl (lv_at hl 1 rfl) ?_
      refine lv_iload hx hb0 dX9_begins_38 (lv_at hl 0 rfl) ?_
      refine g_icmp_le (tgt := 59) hx hb0 dX9_begins_40 (by decide) h (fun h => ?_) (fun h => ?_)
      · exact hJ59  _ _ _ hH (lv_sub hl [0, 2, 3, 4] rfl) h
      · refine lv_iload_n hx hb0 dX9_begins_43 rfl (lv_at hl 1 rfl) ?_
        refine lv_iload_n hx hb0 dX9_begins_44 rfl (lv_at hl 4 rfl) ?_
        refine g_icmp_gt (tgt := 59) hx hb0 dX9_begins_45 (by decide) h (fun h => ?_) (fun h => ?_)
        · exact hJ59  _ _ _ hH (lv_sub hl [0, 2, 3, 4] rfl) h
        · refine lv_aload_n hx hb0 dX9_begins_48 rfl (lv_at hl 2 rfl) ?_
          refine g_getI hx hb0 hts q_ws_X9 hown hX hH (C := RX9) (T := TX9) (N := 19) (k := 136) (i := 8) (rfl : gKinds[136]? = _) rfl (by decide) (hts _ q_fl_X9_106) rfl rfl dX9_begins_49 ?_
          refine g_if_le (tgt := 59) hx hb0 dX9_begins_52 (by decide) h (fun h => ?_) (fun h => ?_)
          · exact hJ59  _ _ _ hH (lv_sub hl [0, 2, 3, 4] rfl) h
          · refine lv_iconst (v := gI (1 : Int)) hx hb0 dX9_begins_55 (by decide) ?_
            refine lv_goto (tgt := 60) hx hb0 dX9_begins_56 (by decide) ?_
            exact hJ60 _ _ _ _ hH (lv_sub hl [0, 2, 3, 4] rfl) h
  refine g_if_ne (tgt := 19) hx hb0 dX9_begins_12 (by decide) h (fun h => ?_) (fun h => ?_)
  · refine lv_iload_n hx hb0 dX9_begins_19 rfl (lv_at hl 3 rfl) ?_
    refine lv_aload_n hx hb0 dX9_begins_20 rfl (lv_at hl 1 rfl) ?_
    refine g_getI hx hb0 hts q_ws_X9 hown hX hH (C := RX9) (T := TX9) (N := 19) (k := 136) (i := 8) (rfl : gKinds[136]? = _) rfl (by decide) (hts _ q_fl_X9_106) rfl rfl dX9_begins_21 ?_
    refine g_isub hx hb0 dX9_begins_24 ?_
    exact hJ25 _ _ _ _ hH (lv_sub hl [0, 1, 2, 3] rfl) h
  · refine lv_iconst (v := gI (0 : Int)) hx hb0 dX9_begins_15 (by decide) ?_
    refine lv_goto (tgt := 25) hx hb0 dX9_begins_16 (by decide) ?_
    exact hJ25 _ _ _ _ hH (lv_sub hl [0, 1, 2, 3] rfl) h
def DX9_bandsBy_J32 (R12 : Int → gSt → Option (gSt)) (x2_12 : Int) (σ32 : gSt) : Option (gSt) :=
  (R12 (x2_12 + (1 : Int)) σ32)
def DX9_bandsBy_L12 (a1 : Int) : Nat → Int → gSt → Option (gSt)
  | 0, _, _ => none
  | f12 + 1, x2_12, σ12 => gIf (x2_12 < (6 : Int)) x2_12 (6 : Int) ((DX9_sizeOf σ12 x2_12).bind fun q20 => gIf ((0 : Int) < q20) q20 (0 : Int) ((DX9_begins σ12 x2_12 a1).bind fun q29 => (DX9_bandsBy_J32 (DX9_bandsBy_L12 a1 f12) x2_12 q29)) ((DX9_bandsBy_J32 (DX9_bandsBy_L12 a1 f12) x2_12 σ12))) (some σ12)
def DX9_bandsBy (σ : gSt) (a1 : Int) : Option (gSt) :=
  (DX9_bandsBy_L12 a1 gFuel (0 : Int) (gUp (gUp σ 136 7 (0 : Int)) 136 8 (0 : Int)))
set_option maxHeartbeats 4000000 in
set_option maxRecDepth 100000 in
theorem metX9_bandsBy (l : Launch) (D : va_G) (G : gAd) (σ : gSt) (μ : gLg) (a1 : Int) (σ' : gSt) (h : DX9_bandsBy σ a1 = some σ') : Met l yX9_bandsBy (gWs yX9_bandsBy cX9_bandsBy 3 none) ({ frames := 3, cells := 0, slots := 0, locals := 73 } : Room) (gPc D G [.ref (G.1 136), .int (gI a1)] σ μ) (gQv D G σ' μ) 0 0 (gA G) := by
  refine Met.ofW (cc := cX9_bandsBy) (maxL := 3) (ret := none) (by decide) rfl ?_
  intro p e s m args below meth c s₁ B hml hv
  obtain ⟨rfl, hP, hX⟩ := hv
  have hx := B.exec
  have hb0 := B.bytes
  have hr := B.returns
  have hts0 := atoms_spec (ws := (gWs yX9_bandsBy cX9_bandsBy 3 none)) B.pre
  have hts : ∀ w ∈ gLW, w.before _ s = true := fun w hw => hts0 w (List.mem_cons_of_mem _ hw)
  have hown : s.vm.findClass RX9 = some m.cls := findClass_of_methodNamed B.named
  have hlocks := B.notSynchronized
  have hH : gH D G s s.heap [] σ μ := ⟨hP, va_S.rf⟩
  have hl := lv_entry ([.ref (G.1 136), .int (gI a1)]) (n := 3) (Nat.le_of_ble_eq_true rfl)
  rw [lg_entry_eq]
  generalize (lg_sl ([.ref (G.1 136), .int (gI a1)]) ++ List.replicate (3 - (lg_sl ([.ref (G.1 136), .int (gI a1)])).length) Slot.unset).toArray = ls at hl ⊢
  have hl : lv_has ls 3 [(0, .ref (G.1 136)), (1, .int (gI a1))] := hl
  unfold DX9_bandsBy at h
  refine lv_aload_n hx hb0 dX9_bandsBy_0 rfl (lv_at hl 0 rfl) ?_
  refine lv_iconst (v := gI (0 : Int)) hx hb0 dX9_bandsBy_1 (by decide) ?_
  refine g_putI hx hb0 hts q_ws_X9 tyX9 tyX9_ok nmX9 hown hX hH (C := RX9) (T := TX9) (N := 19) (k := 136) (i := 7) (rfl : gKinds[136]? = _) rfl (by decide) (hts _ q_fl_X9_103) rfl rfl rfl rfl dX9_bandsBy_2 (fun H locs hH => ?_)
  refine lv_aload_n hx hb0 dX9_bandsBy_5 rfl (lv_at hl 0 rfl) ?_
  refine lv_iconst (v := gI (0 : Int)) hx hb0 dX9_bandsBy_6 (by decide) ?_
  refine g_putI hx hb0 hts q_ws_X9 tyX9 tyX9_ok nmX9 hown hX hH (C := RX9) (T := TX9) (N := 19) (k := 136) (i := 8) (rfl : gKinds[136]? = _) rfl (by decide) (hts _ q_fl_X9_106) rfl rfl rfl rfl dX9_bandsBy_7 (fun H locs hH => ?_)
  refine lv_iconst (v := gI (0 : Int)) hx hb0 dX9_bandsBy_10 (by decide) ?_
  refine lv_istore_n (lv' := [(2, .int (gI (0 : Int))), (0, .ref (G.1 136)), (1, .int (gI a1))]) hx hb0 dX9_bandsBy_11 rfl hl (by decide) rfl (fun ls hl => ?_)
  have hL12 : ∀ (f12 : Nat) (x2_12 : Int) (σ12 : gSt) (H : Heap) (locs : List Loc) (ls : Array Slot), gH D G s H locs σ12 μ → lv_has ls 3 [(2, .int (gI x2_12)), (0, .ref (G.1 136)), (1, .int (gI a1))] → (DX9_bandsBy_L12 a1 f12 x2_12 σ12) = some σ' → W p l e (headSpec (gWs yX9_bandsBy cX9_bandsBy 3 none) ({ frames := 3, cells := 0, slots := 0, locals := 73 } : Room)).room s m ([.ref (G.1 136), .int (gI a1)] : List Value).toArray below meth c H locs 0 0 (MQ below (gQv D G σ' μ) ([.ref (G.1 136), .int (gI a1)] : List Value).toArray s 0 0 (gA G)) (F0 m 12 ls []) := by
    intro f12
    induction f12 with
    | zero => intro x2_12 σ12 H locs ls hH hl h; cases h
    | succ f12 ih12 =>
      intro x2_12 σ12 H locs ls hH hl h
      unfold DX9_bandsBy_L12 at h
      refine lv_iload_n hx hb0 dX9_bandsBy_12 rfl (lv_at hl 0 rfl) ?_
      refine lv_bipush (v := gI (6 : Int)) hx hb0 dX9_bandsBy_13 (by decide) ?_
      refine g_icmp_ge (tgt := 38) hx hb0 dX9_bandsBy_15 (by decide) h (fun h => ?_) (fun h => ?_)
      · exact g_vretS hx hb0 hr hH hlocks dX9_bandsBy_38 h
      · refine lv_aload_n hx hb0 dX9_bandsBy_18 rfl (lv_at hl 1 rfl) ?_
        refine lv_iload_n hx hb0 dX9_bandsBy_19 rfl (lv_at hl 0 rfl) ?_
        obtain ⟨q20, e20, h⟩ := gBind_some h
        refine g_callVi (k := 136) (T := TX9) (N := 19) (As := [.int (gI x2_12)]) (rest := []) ⟨hx, hb0, hml, hown, hts⟩ (metX9_sizeOf l D G σ12 μ x2_12 q20 e20) (g_cwV (C := RX9) 1 hts q_ml_X9_109 q_im_X9_sizeOf q_se_X9_sizeOf q_in_X9 q_co_X9_sizeOf ⟨rfl, rfl⟩ (by decide +kernel) ⟨Nat.le_of_ble_eq_true rfl, Nat.le_of_ble_eq_true rfl⟩) hX hH (rfl : gKinds[136]? = _) rfl rfl hl.1 rfl (Nat.le_of_ble_eq_true rfl) dX9_bandsBy_20 ⟨Nat.zero_le _, Nat.zero_le _⟩ (fun H locs hH => ?_)
        have hJ32 : ∀ (σ32 : gSt) (H : Heap) (locs : List Loc) (ls : Array Slot), gH D G s H locs σ32 μ → lv_has ls 3 [(2, .int (gI x2_12)), (0, .ref (G.1 136)), (1, .int (gI a1))] → (DX9_bandsBy_J32 (DX9_bandsBy_L12 a1 f12) x2_12 σ32) = some σ' → W p l e (headSpec (gWs yX9_bandsBy cX9_bandsBy 3 none) ({ frames := 3, cells := 0, slots := 0, locals := 73 } : Room)).room s m ([.ref (G.1 136), .int (gI a1)] : List Value).toArray below meth c H locs 0 0 (MQ below (gQv D G σ' μ) ([.ref (G.1 136), .int (gI a1)] : List Value).toArray s 0 0 (gA G)) (F0 m 32 ls []) := by
          intro σ32 H locs ls hH hl h
          unfold DX9_bandsBy_J32 at h
          refine g_iinc (k := 0) (n := (1 : Int)) (lv' := [(2, .int (gI (x2_12 + (1 : Int)))), (0, .ref (G.1 136)), (1, .int (gI a1))]) hx hb0 dX9_bandsBy_32 hl rfl (by decide) rfl (fun ls hl => ?_)
          refine lv_goto (tgt := 12) hx hb0 dX9_bandsBy_35 (by decide) ?_
          exact ih12 _ _ _ _ _ hH (lv_sub hl [0, 1, 2] rfl) h
        refine g_if_le (tgt := 32) hx hb0 dX9_bandsBy_23 (by decide) h (fun h => ?_) (fun h => ?_)
        · exact hJ32 _ _ _ _ hH (lv_sub hl [0, 1, 2] rfl) h
        · refine lv_aload_n hx hb0 dX9_bandsBy_26 rfl (lv_at hl 1 rfl) ?_
          refine lv_iload_n hx hb0 dX9_bandsBy_27 rfl (lv_at hl 0 rfl) ?_
          refine lv_iload_n hx hb0 dX9_bandsBy_28 rfl (lv_at hl 2 rfl) ?_
          obtain ⟨q29, e29, h⟩ := gBind_some h
          refine g_callVv (k := 136) (T := TX9) (N := 19) (As := [.int (gI x2_12), .int (gI a1)]) (rest := []) ⟨hx, hb0, hml, hown, hts⟩ (metX9_begins l D G σ12 μ x2_12 a1 q29 e29) (g_cwV (C := RX9) 2 hts q_ml_X9_121 q_im_X9_begins q_se_X9_begins q_in_X9 q_co_X9_begins ⟨rfl, rfl⟩ (by decide +kernel) ⟨Nat.le_of_ble_eq_true rfl, Nat.le_of_ble_eq_true rfl⟩) hX hH (rfl : gKinds[136]? = _) rfl rfl hl.1 rfl (Nat.le_of_ble_eq_true rfl) dX9_bandsBy_29 ⟨Nat.zero_le _, Nat.zero_le _⟩ (fun H locs hH => ?_)
          exact hJ32 _ _ _ _ hH (lv_sub hl [0, 1, 2] rfl) h
  exact hL12 gFuel _ _ _ _ _ hH (lv_sub hl [0, 1, 2] rfl) h
def DX9_printsBy_J175 (R98 : Int → gSt → Option (gSt)) (x3_98 : Int) (σ175 : gSt) : Option (gSt) :=
  (R98 (x3_98 + (1 : Int)) σ175)
def DX9_printsBy_J130 (R98 : Int → gSt → Option (gSt)) (x3_98 : Int) (σ98 : gSt) (t0_130 : Int) : Option (gSt) :=
  gAt t0_130 1248 (gIf ((σ98 144 (Int.toNat t0_130)) = (-1 : Int)) (σ98 144 (Int.toNat t0_130)) (-1 : Int) ((DX9_printsBy_J175 R98 x3_98 σ98)) (gAt t0_130 1248 (gAt ((gUp σ98 144 (Int.toNat t0_130) (σ98 136 12)) 136 12) 1248 ((DX9_printsBy_J175 R98 x3_98 (gUp (gUp (gUp σ98 144 (Int.toNat t0_130) (σ98 136 12)) 145 (Int.toNat ((gUp σ98 144 (Int.toNat t0_130) (σ98 136 12)) 136 12)) t0_130) 136 12 (((gUp (gUp σ98 144 (Int.toNat t0_130) (σ98 136 12)) 145 (Int.toNat ((gUp σ98 144 (Int.toNat t0_130) (σ98 136 12)) 136 12)) t0_130) 136 12) + (1 : Int))))))))
def DX9_printsBy_L98 : Nat → Int → gSt → Option (gSt)
  | 0, _, _ => none
  | f98 + 1, x3_98, σ98 => gIf (x3_98 < (1248 : Int)) x3_98 (1248 : Int) (gAt (3 : Int) 138 (gIf ((σ98 137 (Int.toNat (3 : Int))) = (0 : Int)) (σ98 137 (Int.toNat (3 : Int))) (0 : Int) ((DX9_printsBy_J130 (DX9_printsBy_L98 f98) x3_98 σ98 x3_98)) (gDv x3_98 (24 : Int) (gDv x3_98 (24 : Int) ((DX9_printsBy_J130 (DX9_printsBy_L98 f98) x3_98 σ98 (((52 : Int) * (x3_98 % (24 : Int))) + (x3_98 / (24 : Int))))))))) (some σ98)
def DX9_printsBy_K91  (σ91 : gSt) : Option (gSt) :=
  (DX9_printsBy_L98 gFuel (0 : Int) (gUp σ91 136 12 (0 : Int)))
def DX9_printsBy_K85 (R29 : Int → gSt → Option (gSt)) (x3_29 : Int) (σ85 : gSt) : Option (gSt) :=
  (R29 (x3_29 + (1 : Int)) σ85)
def DX9_printsBy_L49 (K85 : gSt → Option (gSt)) (a2 : Int) (x3_29 : Int) : Nat → Int → gSt → Option (gSt)
  | 0, _, _ => none
  | f49 + 1, x4_49, σ49 => (DX9_lastDay σ49 x3_29).bind fun q53 => gDv q53 a2 (gIf ((q53 / a2) < x4_49) x4_49 (q53 / a2) ((K85 σ49)) (gAt x3_29 24 (gAt (((52 : Int) * (σ49 142 (Int.toNat x3_29))) + x4_49) 1248 (((DX9_printsBy_L49 K85 a2 x3_29 f49) (x4_49 + (1 : Int)) (gUp σ49 144 (Int.toNat (((52 : Int) * (σ49 142 (Int.toNat x3_29))) + x4_49)) (0 : Int)))))))
def DX9_printsBy_L29 (K91 : gSt → Option (gSt)) (a2 : Int) : Nat → Int → gSt → Option (gSt)
  | 0, _, _ => none
  | f29 + 1, x3_29, σ29 => gAt (4 : Int) 138 (gIf (x3_29 < (σ29 137 (Int.toNat (4 : Int)))) x3_29 (σ29 137 (Int.toNat (4 : Int))) ((DX9_of σ29 x3_29 (1 : Int)).bind fun q42 => gDv q42 a2 ((DX9_printsBy_L49 (DX9_printsBy_K85 (DX9_printsBy_L29 K91 a2 f29) x3_29) a2 x3_29 gFuel (q42 / a2) σ29))) ((K91 σ29)))
def DX9_printsBy_K27 (a2 : Int) (σ27 : gSt) : Option (gSt) :=
  (DX9_printsBy_L29 (DX9_printsBy_K91) a2 gFuel (0 : Int) σ27)
def DX9_printsBy_L7 (K27 : gSt → Option (gSt)) : Nat → Int → gSt → Option (gSt)
  | 0, _, _ => none
  | f7 + 1, x3_7, σ7 => gIf (x3_7 < (1248 : Int)) x3_7 (1248 : Int) (gAt x3_7 1248 (((DX9_printsBy_L7 K27 f7) (x3_7 + (1 : Int)) (gUp σ7 144 (Int.toNat x3_7) (-1 : Int))))) ((K27 σ7))
def DX9_printsBy (σ : gSt) (a1 : Int) (a2 : Int) : Option (gSt) :=
  (DX9_bandsBy σ a1).bind fun q2 => (DX9_printsBy_L7 (DX9_printsBy_K27 a2) gFuel (0 : Int) q2)
set_option maxHeartbeats 4000000 in
set_option maxRecDepth 100000 in
theorem metX9_printsBy (l : Launch) (D : va_G) (G : gAd) (σ : gSt) (μ : gLg) (a1 : Int) (a2 : Int) (σ' : gSt) (h : DX9_printsBy σ a1 a2 = some σ') : Met l yX9_printsBy (gWs yX9_printsBy cX9_printsBy 5 none) ({ frames := 4, cells := 0, slots := 0, locals := 95 } : Room) (gPc D G [.ref (G.1 136), .int (gI a1), .int (gI a2)] σ μ) (gQv D G σ' μ) 0 0 (gA G) := by
  refine Met.ofW (cc := cX9_printsBy) (maxL := 5) (ret := none) (by decide) rfl ?_
  intro p e s m args below meth c s₁ B hml hv
  obtain ⟨rfl, hP, hX⟩ := hv
  have hx := B.exec
  have hb0 := B.bytes
  have hr := B.returns
  have hts0 := atoms_spec (ws := (gWs yX9_printsBy cX9_printsBy 5 none)) B.pre
  have hts : ∀ w ∈ gLW, w.before _ s = true := fun w hw => hts0 w (List.mem_cons_of_mem _ hw)
  have hown : s.vm.findClass RX9 = some m.cls := findClass_of_methodNamed B.named
  have hlocks := B.notSynchronized
  have hH : gH D G s s.heap [] σ μ := ⟨hP, va_S.rf⟩
  have hl := lv_entry ([.ref (G.1 136), .int (gI a1), .int (gI a2)]) (n := 5) (Nat.le_of_ble_eq_true rfl)
  rw [lg_entry_eq]
  generalize (lg_sl ([.ref (G.1 136), .int (gI a1), .int (gI a2)]) ++ List.replicate (5 - (lg_sl ([.ref (G.1 136), .int (gI a1), .int (gI a2)])).length) Slot.unset).toArray = ls at hl ⊢
  have hl : lv_has ls 5 [(0, .ref (G.1 136)), (1, .int (gI a1)), (2, .int (gI a2))] := hl
  unfold DX9_printsBy at h
  refine lv_aload_n hx hb0 dX9_printsBy_0 rfl (lv_at hl 0 rfl) ?_
  refine lv_iload_n hx hb0 dX9_printsBy_1 rfl (lv_at hl 1 rfl) ?_
  obtain ⟨q2, e2, h⟩ := gBind_some h
  refine g_callVv (k := 136) (T := TX9) (N := 19) (As := [.int (gI a1)]) (rest := []) ⟨hx, hb0, hml, hown, hts⟩ (metX9_bandsBy l D G σ μ a1 q2 e2) (g_cwV (C := RX9) 1 hts q_ml_X9_124 q_im_X9_bandsBy q_se_X9_bandsBy q_in_X9 q_co_X9_bandsBy ⟨rfl, rfl⟩ (by decide +kernel) ⟨Nat.le_of_ble_eq_true rfl, Nat.le_of_ble_eq_true rfl⟩) hX hH (rfl : gKinds[136]? = _) rfl rfl hl.1 rfl (Nat.le_of_ble_eq_true rfl) dX9_printsBy_2 ⟨Nat.zero_le _, Nat.zero_le _⟩ (fun H locs hH => ?_)
  refine lv_iconst (v := gI (0 : Int)) hx hb0 dX9_printsBy_5 (by decide) ?_
  refine lv_istore_n (lv' := [(3, .int (gI (0 : Int))), (0, .ref (G.1 136)), (1, .int (gI a1)), (2, .int (gI a2))]) hx hb0 dX9_printsBy_6 rfl hl (by decide) rfl (fun ls hl => ?_)
  have hK27 : ∀ (σ27 : gSt) (H : Heap) (locs : List Loc) (ls : Array Slot), gH D G s H locs σ27 μ → lv_has ls 5 [(0, .ref (G.1 136)), (2, .int (gI a2))] → (DX9_printsBy_K27 a2 σ27) = some σ' → W p l e (headSpec (gWs yX9_printsBy cX9_printsBy 5 none) ({ frames := 4, cells := 0, slots := 0, locals := 95 } : Room)).room s m ([.ref (G.1 136), .int (gI a1), .int (gI a2)] : List Value).toArray below meth c H locs 0 0 (MQ below (gQv D G σ' μ) ([.ref (G.1 136), .int (gI a1), .int (gI a2)] : List Value).toArray s 0 0 (gA G)) (F0 m 27 ls []) := by
    intro σ27 H locs ls hH hl h
    unfold DX9_printsBy_K27 at h
    refine lv_iconst (v := gI (0 : Int)) hx hb0 dX9_printsBy_27 (by decide) ?_
    refine lv_istore_n (lv' := [(3, .int (gI (0 : Int))), (0, .ref (G.1 136)), (2, .int (gI a2))]) hx hb0 dX9_printsBy_28 rfl hl (by decide) rfl (fun ls hl => ?_)
    have hK91 : ∀ (σ91 : gSt) (H : Heap) (locs : List Loc) (ls : Array Slot), gH D G s H locs σ91 μ → lv_has ls 5 [(0, .ref (G.1 136))] → (DX9_printsBy_K91 σ91) = some σ' → W p l e (headSpec (gWs yX9_printsBy cX9_printsBy 5 none) ({ frames := 4, cells := 0, slots := 0, locals := 95 } : Room)).room s m ([.ref (G.1 136), .int (gI a1), .int (gI a2)] : List Value).toArray below meth c H locs 0 0 (MQ below (gQv D G σ' μ) ([.ref (G.1 136), .int (gI a1), .int (gI a2)] : List Value).toArray s 0 0 (gA G)) (F0 m 91 ls []) := by
      intro σ91 H locs ls hH hl h
      unfold DX9_printsBy_K91 at h
      refine lv_aload_n hx hb0 dX9_printsBy_91 rfl (lv_at hl 0 rfl) ?_
      refine lv_iconst (v := gI (0 : Int)) hx hb0 dX9_printsBy_92 (by decide) ?_
      refine g_putI hx hb0 hts q_ws_X9 tyX9 tyX9_ok nmX9 hown hX hH (C := RX9) (T := TX9) (N := 19) (k := 136) (i := 12) (rfl : gKinds[136]? = _) rfl (by decide) (hts _ q_fl_X9_130) rfl rfl rfl rfl dX9_printsBy_93 (fun H locs hH => ?_)
      refine lv_iconst (v := gI (0 : Int)) hx hb0 dX9_printsBy_96 (by decide) ?_
      refine lv_istore_n (lv' := [(3, .int (gI (0 : Int))), (0, .ref (G.1 136))]) hx hb0 dX9_printsBy_97 rfl hl (by decide) rfl (fun ls hl => ?_)
      have hL98 : ∀ (f98 : Nat) (x3_98 : Int) (σ98 : gSt) (H : Heap) (locs : List Loc) (ls : Array Slot), gH D G s H locs σ98 μ → lv_has ls 5 [(3, .int (gI x3_98)), (0, .ref (G.1 136))] → (DX9_printsBy_L98 f98 x3_98 σ98) = some σ' → W p l e (headSpec (gWs yX9_printsBy cX9_printsBy 5 none) ({ frames := 4, cells := 0, slots := 0, locals := 95 } : Room)).room s m ([.ref (G.1 136), .int (gI a1), .int (gI a2)] : List Value).toArray below meth c H locs 0 0 (MQ below (gQv D G σ' μ) ([.ref (G.1 136), .int (gI a1), .int (gI a2)] : List Value).toArray s 0 0 (gA G)) (F0 m 98 ls []) := by
        intro f98
        induction f98 with
        | zero => intro x3_98 σ98 H locs ls hH hl h; cases h
        | succ f98 ih98 =>
          intro x3_98 σ98 H locs ls hH hl h
          unfold DX9_printsBy_L98 at h
          refine lv_iload_n hx hb0 dX9_printsBy_98 rfl (lv_at hl 0 rfl) ?_
          refine lv_sipush (v := gI (1248 : Int)) hx hb0 dX9_printsBy_99 (by decide) ?_
          refine g_icmp_ge (tgt := 181) hx hb0 dX9_printsBy_102 (by decide) h (fun h => ?_) (fun h => ?_)
          · exact g_vretS hx hb0 hr hH hlocks dX9_printsBy_181 h
          · refine lv_aload_n hx hb0 dX9_printsBy_105 rfl (lv_at hl 1 rfl) ?_
            refine g_getR hx hb0 hts q_ws_X9 hown hX hH (C := RX9) (T := TX9) (N := 19) (k := 136) (i := 0) (j := 137) (rfl : gKinds[136]? = _) rfl (by decide) (hts _ q_fl_X9_7) rfl rfl dX9_printsBy_106 ?_
            refine lv_iconst (v := gI (3 : Int)) hx hb0 dX9_printsBy_109 (by decide) ?_
            refine g_iald hx hb0 hX hH (k := 137) (rfl : gKinds[137]? = _) (by decide) dX9_printsBy_110 h (fun h => ?_)
            have hJ130 : ∀ (t0_130 : Int) (H : Heap) (locs : List Loc) (ls : Array Slot), gH D G s H locs σ98 μ → lv_has ls 5 [(3, .int (gI x3_98)), (0, .ref (G.1 136))] → (DX9_printsBy_J130 (DX9_printsBy_L98 f98) x3_98 σ98 t0_130) = some σ' → W p l e (headSpec (gWs yX9_printsBy cX9_printsBy 5 none) ({ frames := 4, cells := 0, slots := 0, locals := 95 } : Room)).room s m ([.ref (G.1 136), .int (gI a1), .int (gI a2)] : List Value).toArray below meth c H locs 0 0 (MQ below (gQv D G σ' μ) ([.ref (G.1 136), .int (gI a1), .int (gI a2)] : List Value).toArray s 0 0 (gA G)) (F0 m 130 ls [.int (gI t0_130)]) := by
              intro t0_130 H locs ls hH hl h
              unfold DX9_printsBy_J130 at h
              refine lv_istore (lv' := [(4, .int (gI t0_130)), (3, .int (gI x3_98)), (0, .ref (G.1 136))]) hx hb0 dX9_printsBy_130 hl (by decide) rfl (fun ls hl => ?_)
              refine lv_aload_n hx hb0 dX9_printsBy_132 rfl (lv_at hl 2 rfl) ?_
              refine g_getR hx hb0 hts q_ws_X9 hown hX hH (C := RX9) (T := TX9) (N := 19) (k := 136) (i := 13) (j := 144) (rfl : gKinds[136]? = _) rfl (by decide) (hts _ q_fl_X9_31) rfl rfl dX9_printsBy_133 ?_
              refine lv_iload hx hb0 dX9_printsBy_136 (lv_at hl 0 rfl) ?_
              refine g_iald hx hb0 hX hH (k := 144) (rfl : gKinds[144]? = _) (by decide) dX9_printsBy_138 h (fun h => ?_)
              refine lv_iconst (v := gI (-1 : Int)) hx hb0 dX9_printsBy_139 (by decide) ?_
              have hJ175 : ∀ (σ175 : gSt) (H : Heap) (locs : List Loc) (ls : Array Slot), gH D G s H locs σ175 μ → lv_has ls 5 [(3, .int (gI x3_98)), (0, .ref (G.1 136))] → (DX9_printsBy_J175 (DX9_printsBy_L98 f98) x3_98 σ175) = some σ' → W p l e (headSpec (gWs yX9_printsBy cX9_printsBy 5 none) ({ frames := 4, cells := 0, slots := 0, locals := 95 } : Room)).room s m ([.ref (G.1 136), .int (gI a1), .int (gI a2)] : List Value).toArray below meth c H locs 0 0 (MQ below (gQv D G σ' μ) ([.ref (G.1 136), .int (gI a1), .int (gI a2)] : List Value).toArray s 0 0 (gA G)) (F0 m 175 ls []) := by
                intro σ175 H locs ls hH hl h
                unfold DX9_printsBy_J175 at h
                refine g_iinc (k := 0) (n := (1 : Int)) (lv' := [(3, .int (gI (x3_98 + (1 : Int)))), (0, .ref (G.1 136))]) hx hb0 dX9_printsBy_175 hl rfl (by decide) rfl (fun ls hl => ?_)
                refine lv_goto (tgt := 98) hx hb0 dX9_printsBy_178 (by decide) ?_
                exact ih98 _ _ _ _ _ hH (lv_sub hl [0, 1] rfl) h
              refine g_icmp_eq (tgt := 175) hx hb0 dX9_printsBy_140 (by decide) h (fun h => ?_) (fun h => ?_)
              · exact hJ175 _ _ _ _ hH (lv_sub hl [1, 2] rfl) h
              · refine lv_aload_n hx hb0 dX9_printsBy_143 rfl (lv_at hl 2 rfl) ?_
                refine g_getR hx hb0 hts q_ws_X9 hown hX hH (C := RX9) (T := TX9) (N := 19) (k := 136) (i := 13) (j := 144) (rfl : gKinds[136]? = _) rfl (by decide) (hts _ q_fl_X9_31) rfl rfl dX9_printsBy_144 ?_
                refine lv_iload hx hb0 dX9_printsBy_147 (lv_at hl 0 rfl) ?_
                refine lv_aload_n hx hb0 dX9_printsBy_149 rfl (lv_at hl 2 rfl) ?_
                refine g_getI hx hb0 hts q_ws_X9 hown hX hH (C := RX9) (T := TX9) (N := 19) (k := 136) (i := 12) (rfl : gKinds[136]? = _) rfl (by decide) (hts _ q_fl_X9_130) rfl rfl dX9_printsBy_150 ?_
                refine g_iast hx hb0 hX hH (k := 144) (rfl : gKinds[144]? = _) (by decide) dX9_printsBy_153 h (fun h H locs hH => ?_)
                refine lv_aload_n hx hb0 dX9_printsBy_154 rfl (lv_at hl 2 rfl) ?_
                refine g_getR hx hb0 hts q_ws_X9 hown hX hH (C := RX9) (T := TX9) (N := 19) (k := 136) (i := 14) (j := 145) (rfl : gKinds[136]? = _) rfl (by decide) (hts _ q_fl_X9_34) rfl rfl dX9_printsBy_155 ?_
                refine lv_aload_n hx hb0 dX9_printsBy_158 rfl (lv_at hl 2 rfl) ?_
                refine g_getI hx hb0 hts q_ws_X9 hown hX hH (C := RX9) (T := TX9) (N := 19) (k := 136) (i := 12) (rfl : gKinds[136]? = _) rfl (by decide) (hts _ q_fl_X9_130) rfl rfl dX9_printsBy_159 ?_
                refine lv_iload hx hb0 dX9_printsBy_162 (lv_at hl 0 rfl) ?_
                refine g_iast hx hb0 hX hH (k := 145) (rfl : gKinds[145]? = _) (by decide) dX9_printsBy_164 h (fun h H locs hH => ?_)
                refine lv_aload_n hx hb0 dX9_printsBy_165 rfl (lv_at hl 2 rfl) ?_
                refine lv_dup hx hb0 dX9_printsBy_166 rfl ?_
                refine g_getI hx hb0 hts q_ws_X9 hown hX hH (C := RX9) (T := TX9) (N := 19) (k := 136) (i := 12) (rfl : gKinds[136]? = _) rfl (by decide) (hts _ q_fl_X9_130) rfl rfl dX9_printsBy_167 ?_
                refine lv_iconst (v := gI (1 : Int)) hx hb0 dX9_printsBy_170 (by decide) ?_
                refine g_iadd hx hb0 dX9_printsBy_171 ?_
                refine g_putI hx hb0 hts q_ws_X9 tyX9 tyX9_ok nmX9 hown hX hH (C := RX9) (T := TX9) (N := 19) (k := 136) (i := 12) (rfl : gKinds[136]? = _) rfl (by decide) (hts _ q_fl_X9_130) rfl rfl rfl rfl dX9_printsBy_172 (fun H locs hH => ?_)
                exact hJ175 _ _ _ _ hH (lv_sub hl [1, 2] rfl) h
            refine g_if_ne (tgt := 118) hx hb0 dX9_printsBy_111 (by decide) h (fun h => ?_) (fun h => ?_)
            · refine lv_bipush (v := gI (52 : Int)) hx hb0 dX9_printsBy_118 (by decide) ?_
              refine lv_iload_n hx hb0 dX9_printsBy_120 rfl (lv_at hl 0 rfl) ?_
              refine lv_bipush (v := gI (24 : Int)) hx hb0 dX9_printsBy_121 (by decide) ?_
              refine g_irem hx hb0 dX9_printsBy_123 h (fun h => ?_)
              refine g_imul hx hb0 dX9_printsBy_124 ?_
              refine lv_iload_n hx hb0 dX9_printsBy_125 rfl (lv_at hl 0 rfl) ?_
              refine lv_bipush (v := gI (24 : Int)) hx hb0 dX9_printsBy_126 (by decide) ?_
              refine g_idiv hx hb0 dX9_printsBy_128 h (fun h => ?_)
              refine g_iadd hx hb0 dX9_printsBy_129 ?_
              exact hJ130 _ _ _ _ hH (lv_sub hl [0, 1] rfl) h
            · refine lv_iload_n hx hb0 dX9_printsBy_114 rfl (lv_at hl 0 rfl) ?_
              refine lv_goto (tgt := 130) hx hb0 dX9_printsBy_115 (by decide) ?_
              exact hJ130 _ _ _ _ hH (lv_sub hl [0, 1] rfl) h
      exact hL98 gFuel _ _ _ _ _ hH (lv_sub hl [0, 1] rfl) h
    have hL29 : ∀ (f29 : Nat) (x3_29 : Int) (σ29 : gSt) (H : Heap) (locs : List Loc) (ls : Array Slot), gH D G s H locs σ29 μ → lv_has ls 5 [(3, .int (gI x3_29)), (0, .ref (G.1 136)), (2, .int (gI a2))] → (DX9_printsBy_L29 (DX9_printsBy_K91) a2 f29 x3_29 σ29) = some σ' → W p l e (headSpec (gWs yX9_printsBy cX9_printsBy 5 none) ({ frames := 4, cells := 0, slots := 0, locals := 95 } : Room)).room s m ([.ref (G.1 136), .int (gI a1), .int (gI a2)] : List Value).toArray below meth c H locs 0 0 (MQ below (gQv D G σ' μ) ([.ref (G.1 136), .int (gI a1), .int (gI a2)] : List Value).toArray s 0 0 (gA G)) (F0 m 29 ls []) := by
      intro f29
      induction f29 with
      | zero => intro x3_29 σ29 H locs ls hH hl h; cases h
      | succ f29 ih29 =>
        intro x3_29 σ29 H locs ls hH hl h
        unfold DX9_printsBy_L29 at h
        refine lv_iload_n hx hb0 dX9_printsBy_29 rfl (lv_at hl 0 rfl) ?_
        refine lv_aload_n hx hb0 dX9_printsBy_30 rfl (lv_at hl 1 rfl) ?_
        refine g_getR hx hb0 hts q_ws_X9 hown hX hH (C := RX9) (T := TX9) (N := 19) (k := 136) (i := 0) (j := 137) (rfl : gKinds[136]? = _) rfl (by decide) (hts _ q_fl_X9_7) rfl rfl dX9_printsBy_31 ?_
        refine lv_iconst (v := gI (4 : Int)) hx hb0 dX9_printsBy_34 (by decide) ?_
        refine g_iald hx hb0 hX hH (k := 137) (rfl : gKinds[137]? = _) (by decide) dX9_printsBy_35 h (fun h => ?_)
        refine g_icmp_ge (tgt := 91) hx hb0 dX9_printsBy_36 (by decide) h (fun h => ?_) (fun h => ?_)
        · exact hK91 _ _ _ _ hH (lv_sub hl [1] rfl) h
        · refine lv_aload_n hx hb0 dX9_printsBy_39 rfl (lv_at hl 1 rfl) ?_
          refine lv_iload_n hx hb0 dX9_printsBy_40 rfl (lv_at hl 0 rfl) ?_
          refine lv_iconst (v := gI (1 : Int)) hx hb0 dX9_printsBy_41 (by decide) ?_
          obtain ⟨q42, e42, h⟩ := gBind_some h
          refine g_callVi (k := 136) (T := TX9) (N := 19) (As := [.int (gI x3_29), .int (gI (1 : Int))]) (rest := []) ⟨hx, hb0, hml, hown, hts⟩ (metX9_of l D G σ29 μ x3_29 (1 : Int) q42 e42) (g_cwV (C := RX9) 2 hts q_ml_X9_55 q_im_X9_of q_se_X9_of q_in_X9 q_co_X9_of ⟨rfl, rfl⟩ (by decide +kernel) ⟨Nat.le_of_ble_eq_true rfl, Nat.le_of_ble_eq_true rfl⟩) hX hH (rfl : gKinds[136]? = _) rfl rfl hl.1 rfl (Nat.le_of_ble_eq_true rfl) dX9_printsBy_42 ⟨Nat.zero_le _, Nat.zero_le _⟩ (fun H locs hH => ?_)
          refine lv_iload_n hx hb0 dX9_printsBy_45 rfl (lv_at hl 2 rfl) ?_
          refine g_idiv hx hb0 dX9_printsBy_46 h (fun h => ?_)
          refine lv_istore (lv' := [(4, .int (gI (q42 / a2))), (3, .int (gI x3_29)), (0, .ref (G.1 136)), (2, .int (gI a2))]) hx hb0 dX9_printsBy_47 hl (by decide) rfl (fun ls hl => ?_)
          have hK85 : ∀ (σ85 : gSt) (H : Heap) (locs : List Loc) (ls : Array Slot), gH D G s H locs σ85 μ → lv_has ls 5 [(3, .int (gI x3_29)), (0, .ref (G.1 136)), (2, .int (gI a2))] → (DX9_printsBy_K85 (DX9_printsBy_L29 (DX9_printsBy_K91) a2 f29) x3_29 σ85) = some σ' → W p l e (headSpec (gWs yX9_printsBy cX9_printsBy 5 none) ({ frames := 4, cells := 0, slots := 0, locals := 95 } : Room)).room s m ([.ref (G.1 136), .int (gI a1), .int (gI a2)] : List Value).toArray below meth c H locs 0 0 (MQ below (gQv D G σ' μ) ([.ref (G.1 136), .int (gI a1), .int (gI a2)] : List Value).toArray s 0 0 (gA G)) (F0 m 85 ls []) := by
            intro σ85 H locs ls hH hl h
            unfold DX9_printsBy_K85 at h
            refine g_iinc (k := 0) (n := (1 : Int)) (lv' := [(3, .int (gI (x3_29 + (1 : Int)))), (0, .ref (G.1 136)), (2, .int (gI a2))]) hx hb0 dX9_printsBy_85 hl rfl (by decide) rfl (fun ls hl => ?_)
            refine lv_goto (tgt := 29) hx hb0 dX9_printsBy_88 (by decide) ?_
            exact ih29 _ _ _ _ _ hH (lv_sub hl [0, 1, 2] rfl) h
          have hL49 : ∀ (f49 : Nat) (x4_49 : Int) (σ49 : gSt) (H : Heap) (locs : List Loc) (ls : Array Slot), gH D G s H locs σ49 μ → lv_has ls 5 [(4, .int (gI x4_49)), (3, .int (gI x3_29)), (0, .ref (G.1 136)), (2, .int (gI a2))] → (DX9_printsBy_L49 (DX9_printsBy_K85 (DX9_printsBy_L29 (DX9_printsBy_K91) a2 f29) x3_29) a2 x3_29 f49 x4_49 σ49) = some σ' → W p l e (headSpec (gWs yX9_printsBy cX9_printsBy 5 none) ({ frames := 4, cells := 0, slots := 0, locals := 95 } : Room)).room s m ([.ref (G.1 136), .int (gI a1), .int (gI a2)] : List Value).toArray below meth c H locs 0 0 (MQ below (gQv D G σ' μ) ([.ref (G.1 136), .int (gI a1), .int (gI a2)] : List Value).toArray s 0 0 (gA G)) (F0 m 49 ls []) := by
            intro f49
            induction f49 with
            | zero => intro x4_49 σ49 H locs ls hH hl h; cases h
            | succ f49 ih49 =>
              intro x4_49 σ49 H locs ls hH hl h
              unfold DX9_printsBy_L49 at h
              refine lv_iload hx hb0 dX9_printsBy_49 (lv_at hl 0 rfl) ?_
              refine lv_aload_n hx hb0 dX9_printsBy_51 rfl (lv_at hl 2 rfl) ?_
              refine lv_iload_n hx hb0 dX9_printsBy_52 rfl (lv_at hl 1 rfl) ?_
              obtain ⟨q53, e53, h⟩ := gBind_some h
              refine g_callVi (k := 136) (T := TX9) (N := 19) (As := [.int (gI x3_29)]) (rest := [.int (gI x4_49)]) ⟨hx, hb0, hml, hown, hts⟩ (metX9_lastDay l D G σ49 μ x3_29 q53 e53) (g_cwV (C := RX9) 1 hts q_ml_X9_127 q_im_X9_lastDay q_se_X9_lastDay q_in_X9 q_co_X9_lastDay ⟨rfl, rfl⟩ (by decide +kernel) ⟨Nat.le_of_ble_eq_true rfl, Nat.le_of_ble_eq_true rfl⟩) hX hH (rfl : gKinds[136]? = _) rfl rfl hl.1 rfl (Nat.le_of_ble_eq_true rfl) dX9_printsBy_53 ⟨Nat.zero_le _, Nat.zero_le _⟩ (fun H locs hH => ?_)
              refine lv_iload_n hx hb0 dX9_printsBy_56 rfl (lv_at hl 3 rfl) ?_
              refine g_idiv hx hb0 dX9_printsBy_57 h (fun h => ?_)
              refine g_icmp_gt (tgt := 85) hx hb0 dX9_printsBy_58 (by decide) h (fun h => ?_) (fun h => ?_)
              · exact hK85 _ _ _ _ hH (lv_sub hl [1, 2, 3] rfl) h
              · refine lv_aload_n hx hb0 dX9_printsBy_61 rfl (lv_at hl 2 rfl) ?_
                refine g_getR hx hb0 hts q_ws_X9 hown hX hH (C := RX9) (T := TX9) (N := 19) (k := 136) (i := 13) (j := 144) (rfl : gKinds[136]? = _) rfl (by decide) (hts _ q_fl_X9_31) rfl rfl dX9_printsBy_62 ?_
                refine lv_bipush (v := gI (52 : Int)) hx hb0 dX9_printsBy_65 (by decide) ?_
                refine lv_aload_n hx hb0 dX9_printsBy_67 rfl (lv_at hl 2 rfl) ?_
                refine g_getR hx hb0 hts q_ws_X9 hown hX hH (C := RX9) (T := TX9) (N := 19) (k := 136) (i := 10) (j := 142) (rfl : gKinds[136]? = _) rfl (by decide) (hts _ q_fl_X9_25) rfl rfl dX9_printsBy_68 ?_
                refine lv_iload_n hx hb0 dX9_printsBy_71 rfl (lv_at hl 1 rfl) ?_
                refine g_iald hx hb0 hX hH (k := 142) (rfl : gKinds[142]? = _) (by decide) dX9_printsBy_72 h (fun h => ?_)
                refine g_imul hx hb0 dX9_printsBy_73 ?_
                refine lv_iload hx hb0 dX9_printsBy_74 (lv_at hl 0 rfl) ?_
                refine g_iadd hx hb0 dX9_printsBy_76 ?_
                refine lv_iconst (v := gI (0 : Int)) hx hb0 dX9_printsBy_77 (by decide) ?_
                refine g_iast hx hb0 hX hH (k := 144) (rfl : gKinds[144]? = _) (by decide) dX9_printsBy_78 h (fun h H locs hH => ?_)
                refine g_iinc (k := 0) (n := (1 : Int)) (lv' := [(4, .int (gI (x4_49 + (1 : Int)))), (3, .int (gI x3_29)), (0, .ref (G.1 136)), (2, .int (gI a2))]) hx hb0 dX9_printsBy_79 hl rfl (by decide) rfl (fun ls hl => ?_)
                refine lv_goto (tgt := 49) hx hb0 dX9_printsBy_82 (by decide) ?_
                exact ih49 _ _ _ _ _ hH (lv_sub hl [0, 1, 2, 3] rfl) h
          exact hL49 gFuel _ _ _ _ _ hH (lv_sub hl [0, 1, 2, 3] rfl) h
    exact hL29 gFuel _ _ _ _ _ hH (lv_sub hl [0, 1, 2] rfl) h
  have hL7 : ∀ (f7 : Nat) (x3_7 : Int) (σ7 : gSt) (H : Heap) (locs : List Loc) (ls : Array Slot), gH D G s H locs σ7 μ → lv_has ls 5 [(3, .int (gI x3_7)), (0, .ref (G.1 136)), (2, .int (gI a2))] → (DX9_printsBy_L7 (DX9_printsBy_K27 a2) f7 x3_7 σ7) = some σ' → W p l e (headSpec (gWs yX9_printsBy cX9_printsBy 5 none) ({ frames := 4, cells := 0, slots := 0, locals := 95 } : Room)).room s m ([.ref (G.1 136), .int (gI a1), .int (gI a2)] : List Value).toArray below meth c H locs 0 0 (MQ below (gQv D G σ' μ) ([.ref (G.1 136), .int (gI a1), .int (gI a2)] : List Value).toArray s 0 0 (gA G)) (F0 m 7 ls []) := by
    intro f7
    induction f7 with
    | zero => intro x3_7 σ7 H locs ls hH hl h; cases h
    | succ f7 ih7 =>
      intro x3_7 σ7 H locs ls hH hl h
      unfold DX9_printsBy_L7 at h
      refine lv_iload_n hx hb0 dX9_printsBy_7 rfl (lv_at hl 0 rfl) ?_
      refine lv_sipush (v := gI (1248 : Int)) hx hb0 dX9_printsBy_8 (by decide) ?_
      refine g_icmp_ge (tgt := 27) hx hb0 dX9_printsBy_11 (by decide) h (fun h => ?_) (fun h => ?_)
      · exact hK27 _ _ _ _ hH (lv_sub hl [1, 2] rfl) h
      · refine lv_aload_n hx hb0 dX9_printsBy_14 rfl (lv_at hl 1 rfl) ?_
        refine g_getR hx hb0 hts q_ws_X9 hown hX hH (C := RX9) (T := TX9) (N := 19) (k := 136) (i := 13) (j := 144) (rfl : gKinds[136]? = _) rfl (by decide) (hts _ q_fl_X9_31) rfl rfl dX9_printsBy_15 ?_
        refine lv_iload_n hx hb0 dX9_printsBy_18 rfl (lv_at hl 0 rfl) ?_
        refine lv_iconst (v := gI (-1 : Int)) hx hb0 dX9_printsBy_19 (by decide) ?_
        refine g_iast hx hb0 hX hH (k := 144) (rfl : gKinds[144]? = _) (by decide) dX9_printsBy_20 h (fun h H locs hH => ?_)
        refine g_iinc (k := 0) (n := (1 : Int)) (lv' := [(3, .int (gI (x3_7 + (1 : Int)))), (0, .ref (G.1 136)), (2, .int (gI a2))]) hx hb0 dX9_printsBy_21 hl rfl (by decide) rfl (fun ls hl => ?_)
        refine lv_goto (tgt := 7) hx hb0 dX9_printsBy_24 (by decide) ?_
        exact ih7 _ _ _ _ _ hH (lv_sub hl [0, 1, 2] rfl) h
  exact hL7 gFuel _ _ _ _ _ hH (lv_sub hl [0, 1, 3] rfl) h
def DX9_prints (σ : gSt) : Option (gSt) :=
  gAt (0 : Int) 138 (gAt (1 : Int) 138 ((DX9_printsBy σ (σ 137 (Int.toNat (0 : Int))) (σ 137 (Int.toNat (1 : Int)))).bind fun q13 => some q13))
set_option maxHeartbeats 4000000 in
set_option maxRecDepth 100000 in
theorem metX9_prints (l : Launch) (D : va_G) (G : gAd) (σ : gSt) (μ : gLg) (σ' : gSt) (h : DX9_prints σ = some σ') : Met l yX9_prints (gWs yX9_prints cX9_prints 1 none) ({ frames := 5, cells := 0, slots := 0, locals := 119 } : Room) (gPc D G [.ref (G.1 136)] σ μ) (gQv D G σ' μ) 0 0 (gA G) := by
  refine Met.ofW (cc := cX9_prints) (maxL := 1) (ret := none) (by decide) rfl ?_
  intro p e s m args below meth c s₁ B hml hv
  obtain ⟨rfl, hP, hX⟩ := hv
  have hx := B.exec
  have hb0 := B.bytes
  have hr := B.returns
  have hts0 := atoms_spec (ws := (gWs yX9_prints cX9_prints 1 none)) B.pre
  have hts : ∀ w ∈ gLW, w.before _ s = true := fun w hw => hts0 w (List.mem_cons_of_mem _ hw)
  have hown : s.vm.findClass RX9 = some m.cls := findClass_of_methodNamed B.named
  have hlocks := B.notSynchronized
  have hH : gH D G s s.heap [] σ μ := ⟨hP, va_S.rf⟩
  have hl := lv_entry ([.ref (G.1 136)]) (n := 1) (Nat.le_of_ble_eq_true rfl)
  rw [lg_entry_eq]
  generalize (lg_sl ([.ref (G.1 136)]) ++ List.replicate (1 - (lg_sl ([.ref (G.1 136)])).length) Slot.unset).toArray = ls at hl ⊢
  have hl : lv_has ls 1 [(0, .ref (G.1 136))] := hl
  unfold DX9_prints at h
  refine lv_aload_n hx hb0 dX9_prints_0 rfl (lv_at hl 0 rfl) ?_
  refine lv_aload_n hx hb0 dX9_prints_1 rfl (lv_at hl 0 rfl) ?_
  refine g_getR hx hb0 hts q_ws_X9 hown hX hH (C := RX9) (T := TX9) (N := 19) (k := 136) (i := 0) (j := 137) (rfl : gKinds[136]? = _) rfl (by decide) (hts _ q_fl_X9_7) rfl rfl dX9_prints_2 ?_
  refine lv_iconst (v := gI (0 : Int)) hx hb0 dX9_prints_5 (by decide) ?_
  refine g_iald hx hb0 hX hH (k := 137) (rfl : gKinds[137]? = _) (by decide) dX9_prints_6 h (fun h => ?_)
  refine lv_aload_n hx hb0 dX9_prints_7 rfl (lv_at hl 0 rfl) ?_
  refine g_getR hx hb0 hts q_ws_X9 hown hX hH (C := RX9) (T := TX9) (N := 19) (k := 136) (i := 0) (j := 137) (rfl : gKinds[136]? = _) rfl (by decide) (hts _ q_fl_X9_7) rfl rfl dX9_prints_8 ?_
  refine lv_iconst (v := gI (1 : Int)) hx hb0 dX9_prints_11 (by decide) ?_
  refine g_iald hx hb0 hX hH (k := 137) (rfl : gKinds[137]? = _) (by decide) dX9_prints_12 h (fun h => ?_)
  obtain ⟨q13, e13, h⟩ := gBind_some h
  refine g_callVv (k := 136) (T := TX9) (N := 19) (As := [.int (gI (σ 137 (Int.toNat (0 : Int)))), .int (gI (σ 137 (Int.toNat (1 : Int))))]) (rest := []) ⟨hx, hb0, hml, hown, hts⟩ (metX9_printsBy l D G σ μ (σ 137 (Int.toNat (0 : Int))) (σ 137 (Int.toNat (1 : Int))) q13 e13) (g_cwV (C := RX9) 2 hts q_ml_X9_133 q_im_X9_printsBy q_se_X9_printsBy q_in_X9 q_co_X9_printsBy ⟨rfl, rfl⟩ (by decide +kernel) ⟨Nat.le_of_ble_eq_true rfl, Nat.le_of_ble_eq_true rfl⟩) hX hH (rfl : gKinds[136]? = _) rfl rfl hl.1 rfl (Nat.le_of_ble_eq_true rfl) dX9_prints_13 ⟨Nat.zero_le _, Nat.zero_le _⟩ (fun H locs hH => ?_)
  exact g_vretS hx hb0 hr hH hlocks dX9_prints_16 h
def DX9_sheetBy (σ : gSt) (a1 : Int) (a2 : Int) (a3 : Int) : Option (Int) :=
  gAt a1 24 (gDv a2 a3 (gAt (((52 : Int) * (σ 142 (Int.toNat a1))) + (a2 / a3)) 1248 (some (σ 144 (Int.toNat (((52 : Int) * (σ 142 (Int.toNat a1))) + (a2 / a3)))))))
set_option maxHeartbeats 4000000 in
set_option maxRecDepth 100000 in
theorem metX9_sheetBy (l : Launch) (D : va_G) (G : gAd) (σ : gSt) (μ : gLg) (a1 : Int) (a2 : Int) (a3 : Int) (r : Int) (h : DX9_sheetBy σ a1 a2 a3 = some r) : Met l yX9_sheetBy (gWs yX9_sheetBy cX9_sheetBy 4 (some (Jvm.ClassFile.FieldType.int))) ({ frames := 0, cells := 0, slots := 0, locals := 0 } : Room) (gPc D G [.ref (G.1 136), .int (gI a1), .int (gI a2), .int (gI a3)] σ μ) (gQi D G r σ μ) 0 0 (gA G) := by
  refine Met.ofW (cc := cX9_sheetBy) (maxL := 4) (ret := (some (Jvm.ClassFile.FieldType.int))) (by decide) rfl ?_
  intro p e s m args below meth c s₁ B hml hv
  obtain ⟨rfl, hP, hX⟩ := hv
  have hx := B.exec
  have hb0 := B.bytes
  have hr := B.returns
  have hts0 := atoms_spec (ws := (gWs yX9_sheetBy cX9_sheetBy 4 (some (Jvm.ClassFile.FieldType.int)))) B.pre
  have hts : ∀ w ∈ gLW, w.before _ s = true := fun w hw => hts0 w (List.mem_cons_of_mem _ hw)
  have hown : s.vm.findClass RX9 = some m.cls := findClass_of_methodNamed B.named
  have hlocks := B.notSynchronized
  have hH : gH D G s s.heap [] σ μ := ⟨hP, va_S.rf⟩
  have hl := lv_entry ([.ref (G.1 136), .int (gI a1), .int (gI a2), .int (gI a3)]) (n := 4) (Nat.le_of_ble_eq_true rfl)
  rw [lg_entry_eq]
  generalize (lg_sl ([.ref (G.1 136), .int (gI a1), .int (gI a2), .int (gI a3)]) ++ List.replicate (4 - (lg_sl ([.ref (G.1 136), .int (gI a1), .int (gI a2), .int (gI a3)])).length) Slot.unset).toArray = ls at hl ⊢
  have hl : lv_has ls 4 [(0, .ref (G.1 136)), (1, .int (gI a1)), (2, .int (gI a2)), (3, .int (gI a3))] := hl
  unfold DX9_sheetBy at h
  refine lv_aload_n hx hb0 dX9_sheetBy_0 rfl (lv_at hl 0 rfl) ?_
  refine g_getR hx hb0 hts q_ws_X9 hown hX hH (C := RX9) (T := TX9) (N := 19) (k := 136) (i := 13) (j := 144) (rfl : gKinds[136]? = _) rfl (by decide) (hts _ q_fl_X9_31) rfl rfl dX9_sheetBy_1 ?_
  refine lv_bipush (v := gI (52 : Int)) hx hb0 dX9_sheetBy_4 (by decide) ?_
  refine lv_aload_n hx hb0 dX9_sheetBy_6 rfl (lv_at hl 0 rfl) ?_
  refine g_getR hx hb0 hts q_ws_X9 hown hX hH (C := RX9) (T := TX9) (N := 19) (k := 136) (i := 10) (j := 142) (rfl : gKinds[136]? = _) rfl (by decide) (hts _ q_fl_X9_25) rfl rfl dX9_sheetBy_7 ?_
  refine lv_iload_n hx hb0 dX9_sheetBy_10 rfl (lv_at hl 1 rfl) ?_
  refine g_iald hx hb0 hX hH (k := 142) (rfl : gKinds[142]? = _) (by decide) dX9_sheetBy_11 h (fun h => ?_)
  refine g_imul hx hb0 dX9_sheetBy_12 ?_
  refine lv_iload_n hx hb0 dX9_sheetBy_13 rfl (lv_at hl 2 rfl) ?_
  refine lv_iload_n hx hb0 dX9_sheetBy_14 rfl (lv_at hl 3 rfl) ?_
  refine g_idiv hx hb0 dX9_sheetBy_15 h (fun h => ?_)
  refine g_iadd hx hb0 dX9_sheetBy_16 ?_
  refine g_iald hx hb0 hX hH (k := 144) (rfl : gKinds[144]? = _) (by decide) dX9_sheetBy_17 h (fun h => ?_)
  exact g_iretP hx hb0 hr hH hlocks dX9_sheetBy_18 h
def DX9_leaves (σ : gSt) (a1 : Int) (a2 : Int) : Option (Int) :=
  (DX9_end σ a1 (0 : Int)).bind fun q4 => (DX9_end σ a1 (0 : Int)).bind fun q11 => (DX9_lastDay σ q11).bind fun q14 => (DX9_sheetBy σ q4 q14 a2).bind fun q18 => some q18
set_option maxHeartbeats 4000000 in
set_option maxRecDepth 100000 in
theorem metX9_leaves (l : Launch) (D : va_G) (G : gAd) (σ : gSt) (μ : gLg) (a1 : Int) (a2 : Int) (r : Int) (h : DX9_leaves σ a1 a2 = some r) : Met l yX9_leaves (gWs yX9_leaves cX9_leaves 3 (some (Jvm.ClassFile.FieldType.int))) ({ frames := 2, cells := 0, slots := 0, locals := 43 } : Room) (gPc D G [.ref (G.1 136), .int (gI a1), .int (gI a2)] σ μ) (gQi D G r σ μ) 0 0 (gA G) := by
  refine Met.ofW (cc := cX9_leaves) (maxL := 3) (ret := (some (Jvm.ClassFile.FieldType.int))) (by decide) rfl ?_
  intro p e s m args below meth c s₁ B hml hv
  obtain ⟨rfl, hP, hX⟩ := hv
  have hx := B.exec
  have hb0 := B.bytes
  have hr := B.returns
  have hts0 := atoms_spec (ws := (gWs yX9_leaves cX9_leaves 3 (some (Jvm.ClassFile.FieldType.int)))) B.pre
  have hts : ∀ w ∈ gLW, w.before _ s = true := fun w hw => hts0 w (List.mem_cons_of_mem _ hw)
  have hown : s.vm.findClass RX9 = some m.cls := findClass_of_methodNamed B.named
  have hlocks := B.notSynchronized
  have hH : gH D G s s.heap [] σ μ := ⟨hP, va_S.rf⟩
  have hl := lv_entry ([.ref (G.1 136), .int (gI a1), .int (gI a2)]) (n := 3) (Nat.le_of_ble_eq_true rfl)
  rw [lg_entry_eq]
  generalize (lg_sl ([.ref (G.1 136), .int (gI a1), .int (gI a2)]) ++ List.replicate (3 - (lg_sl ([.ref (G.1 136), .int (gI a1), .int (gI a2)])).length) Slot.unset).toArray = ls at hl ⊢
  have hl : lv_has ls 3 [(0, .ref (G.1 136)), (1, .int (gI a1)), (2, .int (gI a2))] := hl
  unfold DX9_leaves at h
  refine lv_aload_n hx hb0 dX9_leaves_0 rfl (lv_at hl 0 rfl) ?_
  refine lv_aload_n hx hb0 dX9_leaves_1 rfl (lv_at hl 0 rfl) ?_
  refine lv_iload_n hx hb0 dX9_leaves_2 rfl (lv_at hl 1 rfl) ?_
  refine lv_iconst (v := gI (0 : Int)) hx hb0 dX9_leaves_3 (by decide) ?_
  obtain ⟨q4, e4, h⟩ := gBind_some h
  refine g_callVi (k := 136) (T := TX9) (N := 19) (As := [.int (gI a1), .int (gI (0 : Int))]) (rest := [.ref (G.1 136)]) ⟨hx, hb0, hml, hown, hts⟩ (metX9_end l D G σ μ a1 (0 : Int) q4 e4) (g_cwV (C := RX9) 2 hts q_ml_X9_86 q_im_X9_end q_se_X9_end q_in_X9 q_co_X9_end ⟨rfl, rfl⟩ (by decide +kernel) ⟨Nat.le_of_ble_eq_true rfl, Nat.le_of_ble_eq_true rfl⟩) hX hH (rfl : gKinds[136]? = _) rfl rfl hl.1 rfl (Nat.le_of_ble_eq_true rfl) dX9_leaves_4 ⟨Nat.zero_le _, Nat.zero_le _⟩ (fun H locs hH => ?_)
  refine lv_aload_n hx hb0 dX9_leaves_7 rfl (lv_at hl 0 rfl) ?_
  refine lv_aload_n hx hb0 dX9_leaves_8 rfl (lv_at hl 0 rfl) ?_
  refine lv_iload_n hx hb0 dX9_leaves_9 rfl (lv_at hl 1 rfl) ?_
  refine lv_iconst (v := gI (0 : Int)) hx hb0 dX9_leaves_10 (by decide) ?_
  obtain ⟨q11, e11, h⟩ := gBind_some h
  refine g_callVi (k := 136) (T := TX9) (N := 19) (As := [.int (gI a1), .int (gI (0 : Int))]) (rest := [.ref (G.1 136), .int (gI q4), .ref (G.1 136)]) ⟨hx, hb0, hml, hown, hts⟩ (metX9_end l D G σ μ a1 (0 : Int) q11 e11) (g_cwV (C := RX9) 2 hts q_ml_X9_86 q_im_X9_end q_se_X9_end q_in_X9 q_co_X9_end ⟨rfl, rfl⟩ (by decide +kernel) ⟨Nat.le_of_ble_eq_true rfl, Nat.le_of_ble_eq_true rfl⟩) hX hH (rfl : gKinds[136]? = _) rfl rfl hl.1 rfl (Nat.le_of_ble_eq_true rfl) dX9_leaves_11 ⟨Nat.zero_le _, Nat.zero_le _⟩ (fun H locs hH => ?_)
  obtain ⟨q14, e14, h⟩ := gBind_some h
  refine g_callVi (k := 136) (T := TX9) (N := 19) (As := [.int (gI q11)]) (rest := [.int (gI q4), .ref (G.1 136)]) ⟨hx, hb0, hml, hown, hts⟩ (metX9_lastDay l D G σ μ q11 q14 e14) (g_cwV (C := RX9) 1 hts q_ml_X9_127 q_im_X9_lastDay q_se_X9_lastDay q_in_X9 q_co_X9_lastDay ⟨rfl, rfl⟩ (by decide +kernel) ⟨Nat.le_of_ble_eq_true rfl, Nat.le_of_ble_eq_true rfl⟩) hX hH (rfl : gKinds[136]? = _) rfl rfl hl.1 rfl (Nat.le_of_ble_eq_true rfl) dX9_leaves_14 ⟨Nat.zero_le _, Nat.zero_le _⟩ (fun H locs hH => ?_)
  refine lv_iload_n hx hb0 dX9_leaves_17 rfl (lv_at hl 2 rfl) ?_
  obtain ⟨q18, e18, h⟩ := gBind_some h
  refine g_callVi (k := 136) (T := TX9) (N := 19) (As := [.int (gI q4), .int (gI q14), .int (gI a2)]) (rest := []) ⟨hx, hb0, hml, hown, hts⟩ (metX9_sheetBy l D G σ μ q4 q14 a2 q18 e18) (g_cwV (C := RX9) 3 hts q_ml_X9_136 q_im_X9_sheetBy q_se_X9_sheetBy q_in_X9 q_co_X9_sheetBy ⟨rfl, rfl⟩ (by decide +kernel) ⟨Nat.le_of_ble_eq_true rfl, Nat.le_of_ble_eq_true rfl⟩) hX hH (rfl : gKinds[136]? = _) rfl rfl hl.1 rfl (Nat.le_of_ble_eq_true rfl) dX9_leaves_18 ⟨Nat.zero_le _, Nat.zero_le _⟩ (fun H locs hH => ?_)
  exact g_iretP hx hb0 hr hH hlocks dX9_leaves_21 h
def DX9_arrives (σ : gSt) (a1 : Int) (a2 : Int) : Option (Int) :=
  (DX9_end σ a1 (1 : Int)).bind fun q4 => (DX9_end σ a1 (1 : Int)).bind fun q11 => (DX9_of σ q11 (1 : Int)).bind fun q15 => (DX9_sheetBy σ q4 q15 a2).bind fun q19 => some q19
set_option maxHeartbeats 4000000 in
set_option maxRecDepth 100000 in
theorem metX9_arrives (l : Launch) (D : va_G) (G : gAd) (σ : gSt) (μ : gLg) (a1 : Int) (a2 : Int) (r : Int) (h : DX9_arrives σ a1 a2 = some r) : Met l yX9_arrives (gWs yX9_arrives cX9_arrives 3 (some (Jvm.ClassFile.FieldType.int))) ({ frames := 1, cells := 0, slots := 0, locals := 23 } : Room) (gPc D G [.ref (G.1 136), .int (gI a1), .int (gI a2)] σ μ) (gQi D G r σ μ) 0 0 (gA G) := by
  refine Met.ofW (cc := cX9_arrives) (maxL := 3) (ret := (some (Jvm.ClassFile.FieldType.int))) (by decide) rfl ?_
  intro p e s m args below meth c s₁ B hml hv
  obtain ⟨rfl, hP, hX⟩ := hv
  have hx := B.exec
  have hb0 := B.bytes
  have hr := B.returns
  have hts0 := atoms_spec (ws := (gWs yX9_arrives cX9_arrives 3 (some (Jvm.ClassFile.FieldType.int)))) B.pre
  have hts : ∀ w ∈ gLW, w.before _ s = true := fun w hw => hts0 w (List.mem_cons_of_mem _ hw)
  have hown : s.vm.findClass RX9 = some m.cls := findClass_of_methodNamed B.named
  have hlocks := B.notSynchronized
  have hH : gH D G s s.heap [] σ μ := ⟨hP, va_S.rf⟩
  have hl := lv_entry ([.ref (G.1 136), .int (gI a1), .int (gI a2)]) (n := 3) (Nat.le_of_ble_eq_true rfl)
  rw [lg_entry_eq]
  generalize (lg_sl ([.ref (G.1 136), .int (gI a1), .int (gI a2)]) ++ List.replicate (3 - (lg_sl ([.ref (G.1 136), .int (gI a1), .int (gI a2)])).length) Slot.unset).toArray = ls at hl ⊢
  have hl : lv_has ls 3 [(0, .ref (G.1 136)), (1, .int (gI a1)), (2, .int (gI a2))] := hl
  unfold DX9_arrives at h
  refine lv_aload_n hx hb0 dX9_arrives_0 rfl (lv_at hl 0 rfl) ?_
  refine lv_aload_n hx hb0 dX9_arrives_1 rfl (lv_at hl 0 rfl) ?_
  refine lv_iload_n hx hb0 dX9_arrives_2 rfl (lv_at hl 1 rfl) ?_
  refine lv_iconst (v := gI (1 : Int)) hx hb0 dX9_arrives_3 (by decide) ?_
  obtain ⟨q4, e4, h⟩ := gBind_some h
  refine g_callVi (k := 136) (T := TX9) (N := 19) (As := [.int (gI a1), .int (gI (1 : Int))]) (rest := [.ref (G.1 136)]) ⟨hx, hb0, hml, hown, hts⟩ (metX9_end l D G σ μ a1 (1 : Int) q4 e4) (g_cwV (C := RX9) 2 hts q_ml_X9_86 q_im_X9_end q_se_X9_end q_in_X9 q_co_X9_end ⟨rfl, rfl⟩ (by decide +kernel) ⟨Nat.le_of_ble_eq_true rfl, Nat.le_of_ble_eq_true rfl⟩) hX hH (rfl : gKinds[136]? = _) rfl rfl hl.1 rfl (Nat.le_of_ble_eq_true rfl) dX9_arrives_4 ⟨Nat.zero_le _, Nat.zero_le _⟩ (fun H locs hH => ?_)
  refine lv_aload_n hx hb0 dX9_arrives_7 rfl (lv_at hl 0 rfl) ?_
  refine lv_aload_n hx hb0 dX9_arrives_8 rfl (lv_at hl 0 rfl) ?_
  refine lv_iload_n hx hb0 dX9_arrives_9 rfl (lv_at hl 1 rfl) ?_
  refine lv_iconst (v := gI (1 : Int)) hx hb0 dX9_arrives_10 (by decide) ?_
  obtain ⟨q11, e11, h⟩ := gBind_some h
  refine g_callVi (k := 136) (T := TX9) (N := 19) (As := [.int (gI a1), .int (gI (1 : Int))]) (rest := [.ref (G.1 136), .int (gI q4), .ref (G.1 136)]) ⟨hx, hb0, hml, hown, hts⟩ (metX9_end l D G σ μ a1 (1 : Int) q11 e11) (g_cwV (C := RX9) 2 hts q_ml_X9_86 q_im_X9_end q_se_X9_end q_in_X9 q_co_X9_end ⟨rfl, rfl⟩ (by decide +kernel) ⟨Nat.le_of_ble_eq_true rfl, Nat.le_of_ble_eq_true rfl⟩) hX hH (rfl : gKinds[136]? = _) rfl rfl hl.1 rfl (Nat.le_of_ble_eq_true rfl) dX9_arrives_11 ⟨Nat.zero_le _, Nat.zero_le _⟩ (fun H locs hH => ?_)
  refine lv_iconst (v := gI (1 : Int)) hx hb0 dX9_arrives_14 (by decide) ?_
  obtain ⟨q15, e15, h⟩ := gBind_some h
  refine g_callVi (k := 136) (T := TX9) (N := 19) (As := [.int (gI q11), .int (gI (1 : Int))]) (rest := [.int (gI q4), .ref (G.1 136)]) ⟨hx, hb0, hml, hown, hts⟩ (metX9_of l D G σ μ q11 (1 : Int) q15 e15) (g_cwV (C := RX9) 2 hts q_ml_X9_55 q_im_X9_of q_se_X9_of q_in_X9 q_co_X9_of ⟨rfl, rfl⟩ (by decide +kernel) ⟨Nat.le_of_ble_eq_true rfl, Nat.le_of_ble_eq_true rfl⟩) hX hH (rfl : gKinds[136]? = _) rfl rfl hl.1 rfl (Nat.le_of_ble_eq_true rfl) dX9_arrives_15 ⟨Nat.zero_le _, Nat.zero_le _⟩ (fun H locs hH => ?_)
  refine lv_iload_n hx hb0 dX9_arrives_18 rfl (lv_at hl 2 rfl) ?_
  obtain ⟨q19, e19, h⟩ := gBind_some h
  refine g_callVi (k := 136) (T := TX9) (N := 19) (As := [.int (gI q4), .int (gI q15), .int (gI a2)]) (rest := []) ⟨hx, hb0, hml, hown, hts⟩ (metX9_sheetBy l D G σ μ q4 q15 a2 q19 e19) (g_cwV (C := RX9) 3 hts q_ml_X9_136 q_im_X9_sheetBy q_se_X9_sheetBy q_in_X9 q_co_X9_sheetBy ⟨rfl, rfl⟩ (by decide +kernel) ⟨Nat.le_of_ble_eq_true rfl, Nat.le_of_ble_eq_true rfl⟩) hX hH (rfl : gKinds[136]? = _) rfl rfl hl.1 rfl (Nat.le_of_ble_eq_true rfl) dX9_arrives_19 ⟨Nat.zero_le _, Nat.zero_le _⟩ (fun H locs hH => ?_)
  exact g_iretP hx hb0 hr hH hlocks dX9_arrives_22 h
def DX9_isExit (σ : gSt) (a1 : Int) (a2 : Int) : Option (Int) :=
  (DX9_leaves σ a1 a2).bind fun q3 => (DX9_arrives σ a1 a2).bind fun q9 => gIf (q3 = q9) q3 q9 (gBo (0 : Int) (some (0 : Int))) (gBo (1 : Int) (some (1 : Int)))
set_option maxHeartbeats 4000000 in
set_option maxRecDepth 100000 in
theorem metX9_isExit (l : Launch) (D : va_G) (G : gAd) (σ : gSt) (μ : gLg) (a1 : Int) (a2 : Int) (r : Int) (h : DX9_isExit σ a1 a2 = some r) : Met l yX9_isExit (gWs yX9_isExit cX9_isExit 3 (some (Jvm.ClassFile.FieldType.boolean))) ({ frames := 3, cells := 0, slots := 0, locals := 65 } : Room) (gPc D G [.ref (G.1 136), .int (gI a1), .int (gI a2)] σ μ) (gQi D G r σ μ) 0 0 (gA G) := by
  refine Met.ofW (cc := cX9_isExit) (maxL := 3) (ret := (some (Jvm.ClassFile.FieldType.boolean))) (by decide) rfl ?_
  intro p e s m args below meth c s₁ B hml hv
  obtain ⟨rfl, hP, hX⟩ := hv
  have hx := B.exec
  have hb0 := B.bytes
  have hr := B.returns
  have hts0 := atoms_spec (ws := (gWs yX9_isExit cX9_isExit 3 (some (Jvm.ClassFile.FieldType.boolean)))) B.pre
  have hts : ∀ w ∈ gLW, w.before _ s = true := fun w hw => hts0 w (List.mem_cons_of_mem _ hw)
  have hown : s.vm.findClass RX9 = some m.cls := findClass_of_methodNamed B.named
  have hlocks := B.notSynchronized
  have hH : gH D G s s.heap [] σ μ := ⟨hP, va_S.rf⟩
  have hl := lv_entry ([.ref (G.1 136), .int (gI a1), .int (gI a2)]) (n := 3) (Nat.le_of_ble_eq_true rfl)
  rw [lg_entry_eq]
  generalize (lg_sl ([.ref (G.1 136), .int (gI a1), .int (gI a2)]) ++ List.replicate (3 - (lg_sl ([.ref (G.1 136), .int (gI a1), .int (gI a2)])).length) Slot.unset).toArray = ls at hl ⊢
  have hl : lv_has ls 3 [(0, .ref (G.1 136)), (1, .int (gI a1)), (2, .int (gI a2))] := hl
  unfold DX9_isExit at h
  refine lv_aload_n hx hb0 dX9_isExit_0 rfl (lv_at hl 0 rfl) ?_
  refine lv_iload_n hx hb0 dX9_isExit_1 rfl (lv_at hl 1 rfl) ?_
  refine lv_iload_n hx hb0 dX9_isExit_2 rfl (lv_at hl 2 rfl) ?_
  obtain ⟨q3, e3, h⟩ := gBind_some h
  refine g_callVi (k := 136) (T := TX9) (N := 19) (As := [.int (gI a1), .int (gI a2)]) (rest := []) ⟨hx, hb0, hml, hown, hts⟩ (metX9_leaves l D G σ μ a1 a2 q3 e3) (g_cwV (C := RX9) 2 hts q_ml_X9_140 q_im_X9_leaves q_se_X9_leaves q_in_X9 q_co_X9_leaves ⟨rfl, rfl⟩ (by decide +kernel) ⟨Nat.le_of_ble_eq_true rfl, Nat.le_of_ble_eq_true rfl⟩) hX hH (rfl : gKinds[136]? = _) rfl rfl hl.1 rfl (Nat.le_of_ble_eq_true rfl) dX9_isExit_3 ⟨Nat.zero_le _, Nat.zero_le _⟩ (fun H locs hH => ?_)
  refine lv_aload_n hx hb0 dX9_isExit_6 rfl (lv_at hl 0 rfl) ?_
  refine lv_iload_n hx hb0 dX9_isExit_7 rfl (lv_at hl 1 rfl) ?_
  refine lv_iload_n hx hb0 dX9_isExit_8 rfl (lv_at hl 2 rfl) ?_
  obtain ⟨q9, e9, h⟩ := gBind_some h
  refine g_callVi (k := 136) (T := TX9) (N := 19) (As := [.int (gI a1), .int (gI a2)]) (rest := [.int (gI q3)]) ⟨hx, hb0, hml, hown, hts⟩ (metX9_arrives l D G σ μ a1 a2 q9 e9) (g_cwV (C := RX9) 2 hts q_ml_X9_143 q_im_X9_arrives q_se_X9_arrives q_in_X9 q_co_X9_arrives ⟨rfl, rfl⟩ (by decide +kernel) ⟨Nat.le_of_ble_eq_true rfl, Nat.le_of_ble_eq_true rfl⟩) hX hH (rfl : gKinds[136]? = _) rfl rfl hl.1 rfl (Nat.le_of_ble_eq_true rfl) dX9_isExit_9 ⟨Nat.zero_le _, Nat.zero_le _⟩ (fun H locs hH => ?_)
  refine g_icmp_eq (tgt := 19) hx hb0 dX9_isExit_12 (by decide) h (fun h => ?_) (fun h => ?_)
  · refine lv_iconst (v := gI (0 : Int)) hx hb0 dX9_isExit_19 (by decide) ?_
    exact g_zretP hx hb0 hr hH hlocks dX9_isExit_20 h
  · refine lv_iconst (v := gI (1 : Int)) hx hb0 dX9_isExit_15 (by decide) ?_
    refine lv_goto (tgt := 20) hx hb0 dX9_isExit_16 (by decide) ?_
    exact g_zretP hx hb0 hr hH hlocks dX9_isExit_20 h
def DX9_exitOf_K37 (σ : gSt) (a1 : Int) (x2_37 : Int) : Option (Int) :=
  gAt (1 : Int) 138 ((DX9_isExit σ a1 (σ 137 (Int.toNat (1 : Int)))).bind fun q45 => gIf (q45 = (0 : Int)) q45 (0 : Int) (some (-1 : Int)) (some x2_37))
def DX9_exitOf_J29 (R4 : Int → Int → Option (Int)) (x3_4 : Int) (x2_4 : Int) (t0_29 : Int) : Option (Int) :=
  (R4 (x3_4 + (1 : Int)) (x2_4 + t0_29))
def DX9_exitOf_L4 (K37 : Int → Option (Int)) (σ : gSt) (a1 : Int) : Nat → Int → Int → Option (Int)
  | 0, _, _ => none
  | f4 + 1, x3_4, x2_4 => gIf (a1 < x3_4) x3_4 a1 ((K37 x2_4)) (gAt (1 : Int) 138 ((DX9_isExit σ x3_4 (σ 137 (Int.toNat (1 : Int)))).bind fun q18 => gIf (q18 = (0 : Int)) q18 (0 : Int) ((DX9_exitOf_J29 (DX9_exitOf_L4 K37 σ a1 f4) x3_4 x2_4 (0 : Int))) ((DX9_exitOf_J29 (DX9_exitOf_L4 K37 σ a1 f4) x3_4 x2_4 (1 : Int)))))
def DX9_exitOf (σ : gSt) (a1 : Int) : Option (Int) :=
  (DX9_exitOf_L4 (DX9_exitOf_K37 σ a1) σ a1 gFuel (0 : Int) (0 : Int))
set_option maxHeartbeats 4000000 in
set_option maxRecDepth 100000 in
theorem metX9_exitOf (l : Launch) (D : va_G) (G : gAd) (σ : gSt) (μ : gLg) (a1 : Int) (r : Int) (h : DX9_exitOf σ a1 = some r) : Met l yX9_exitOf (gWs yX9_exitOf cX9_exitOf 4 (some (Jvm.ClassFile.FieldType.int))) ({ frames := 4, cells := 0, slots := 0, locals := 87 } : Room) (gPc D G [.ref (G.1 136), .int (gI a1)] σ μ) (gQi D G r σ μ) 0 0 (gA G) := by
  refine Met.ofW (cc := cX9_exitOf) (maxL := 4) (ret := (some (Jvm.ClassFile.FieldType.int))) (by decide) rfl ?_
  intro p e s m args below meth c s₁ B hml hv
  obtain ⟨rfl, hP, hX⟩ := hv
  have hx := B.exec
  have hb0 := B.bytes
  have hr := B.returns
  have hts0 := atoms_spec (ws := (gWs yX9_exitOf cX9_exitOf 4 (some (Jvm.ClassFile.FieldType.int)))) B.pre
  have hts : ∀ w ∈ gLW, w.before _ s = true := fun w hw => hts0 w (List.mem_cons_of_mem _ hw)
  have hown : s.vm.findClass RX9 = some m.cls := findClass_of_methodNamed B.named
  have hlocks := B.notSynchronized
  have hH : gH D G s s.heap [] σ μ := ⟨hP, va_S.rf⟩
  have hl := lv_entry ([.ref (G.1 136), .int (gI a1)]) (n := 4) (Nat.le_of_ble_eq_true rfl)
  rw [lg_entry_eq]
  generalize (lg_sl ([.ref (G.1 136), .int (gI a1)]) ++ List.replicate (4 - (lg_sl ([.ref (G.1 136), .int (gI a1)])).length) Slot.unset).toArray = ls at hl ⊢
  have hl : lv_has ls 4 [(0, .ref (G.1 136)), (1, .int (gI a1))] := hl
  unfold DX9_exitOf at h
  refine lv_iconst (v := gI (0 : Int)) hx hb0 dX9_exitOf_0 (by decide) ?_
  refine lv_istore_n (lv' := [(2, .int (gI (0 : Int))), (0, .ref (G.1 136)), (1, .int (gI a1))]) hx hb0 dX9_exitOf_1 rfl hl (by decide) rfl (fun ls hl => ?_)
  refine lv_iconst (v := gI (0 : Int)) hx hb0 dX9_exitOf_2 (by decide) ?_
  refine lv_istore_n (lv' := [(3, .int (gI (0 : Int))), (2, .int (gI (0 : Int))), (0, .ref (G.1 136)), (1, .int (gI a1))]) hx hb0 dX9_exitOf_3 rfl hl (by decide) rfl (fun ls hl => ?_)
  have hK37 : ∀ (x2_37 : Int) (H : Heap) (locs : List Loc) (ls : Array Slot), gH D G s H locs σ μ → lv_has ls 4 [(2, .int (gI x2_37)), (0, .ref (G.1 136)), (1, .int (gI a1))] → (DX9_exitOf_K37 σ a1 x2_37) = some r → W p l e (headSpec (gWs yX9_exitOf cX9_exitOf 4 (some (Jvm.ClassFile.FieldType.int))) ({ frames := 4, cells := 0, slots := 0, locals := 87 } : Room)).room s m ([.ref (G.1 136), .int (gI a1)] : List Value).toArray below meth c H locs 0 0 (MQ below (gQi D G r σ μ) ([.ref (G.1 136), .int (gI a1)] : List Value).toArray s 0 0 (gA G)) (F0 m 37 ls []) := by
    intro x2_37 H locs ls hH hl h
    unfold DX9_exitOf_K37 at h
    refine lv_aload_n hx hb0 dX9_exitOf_37 rfl (lv_at hl 1 rfl) ?_
    refine lv_iload_n hx hb0 dX9_exitOf_38 rfl (lv_at hl 2 rfl) ?_
    refine lv_aload_n hx hb0 dX9_exitOf_39 rfl (lv_at hl 1 rfl) ?_
    refine g_getR hx hb0 hts q_ws_X9 hown hX hH (C := RX9) (T := TX9) (N := 19) (k := 136) (i := 0) (j := 137) (rfl : gKinds[136]? = _) rfl (by decide) (hts _ q_fl_X9_7) rfl rfl dX9_exitOf_40 ?_
    refine lv_iconst (v := gI (1 : Int)) hx hb0 dX9_exitOf_43 (by decide) ?_
    refine g_iald hx hb0 hX hH (k := 137) (rfl : gKinds[137]? = _) (by decide) dX9_exitOf_44 h (fun h => ?_)
    obtain ⟨q45, e45, h⟩ := gBind_some h
    refine g_callVi (k := 136) (T := TX9) (N := 19) (As := [.int (gI a1), .int (gI (σ 137 (Int.toNat (1 : Int))))]) (rest := []) ⟨hx, hb0, hml, hown, hts⟩ (metX9_isExit l D G σ μ a1 (σ 137 (Int.toNat (1 : Int))) q45 e45) (g_cwV (C := RX9) 2 hts q_ml_X9_146 q_im_X9_isExit q_se_X9_isExit q_in_X9 q_co_X9_isExit ⟨rfl, rfl⟩ (by decide +kernel) ⟨Nat.le_of_ble_eq_true rfl, Nat.le_of_ble_eq_true rfl⟩) hX hH (rfl : gKinds[136]? = _) rfl rfl hl.1 rfl (Nat.le_of_ble_eq_true rfl) dX9_exitOf_45 ⟨Nat.zero_le _, Nat.zero_le _⟩ (fun H locs hH => ?_)
    refine g_if_eq (tgt := 55) hx hb0 dX9_exitOf_48 (by decide) h (fun h => ?_) (fun h => ?_)
    · refine lv_iconst (v := gI (-1 : Int)) hx hb0 dX9_exitOf_55 (by decide) ?_
      exact g_iretP hx hb0 hr hH hlocks dX9_exitOf_56 h
    · refine lv_iload_n hx hb0 dX9_exitOf_51 rfl (lv_at hl 0 rfl) ?_
      refine lv_goto (tgt := 56) hx hb0 dX9_exitOf_52 (by decide) ?_
      exact g_iretP hx hb0 hr hH hlocks dX9_exitOf_56 h
  have hL4 : ∀ (f4 : Nat) (x3_4 : Int) (x2_4 : Int) (H : Heap) (locs : List Loc) (ls : Array Slot), gH D G s H locs σ μ → lv_has ls 4 [(3, .int (gI x3_4)), (2, .int (gI x2_4)), (0, .ref (G.1 136)), (1, .int (gI a1))] → (DX9_exitOf_L4 (DX9_exitOf_K37 σ a1) σ a1 f4 x3_4 x2_4) = some r → W p l e (headSpec (gWs yX9_exitOf cX9_exitOf 4 (some (Jvm.ClassFile.FieldType.int))) ({ frames := 4, cells := 0, slots := 0, locals := 87 } : Room)).room s m ([.ref (G.1 136), .int (gI a1)] : List Value).toArray below meth c H locs 0 0 (MQ below (gQi D G r σ μ) ([.ref (G.1 136), .int (gI a1)] : List Value).toArray s 0 0 (gA G)) (F0 m 4 ls []) := by
    intro f4
    induction f4 with
    | zero => intro x3_4 x2_4 H locs ls hH hl h; cases h
    | succ f4 ih4 =>
      intro x3_4 x2_4 H locs ls hH hl h
      unfold DX9_exitOf_L4 at h
      refine lv_iload_n hx hb0 dX9_exitOf_4 rfl (lv_at hl 0 rfl) ?_
      refine lv_iload_n hx hb0 dX9_exitOf_5 rfl (lv_at hl 3 rfl) ?_
      refine g_icmp_gt (tgt := 37) hx hb0 dX9_exitOf_6 (by decide) h (fun h => ?_) (fun h => ?_)
      · exact hK37 _ _ _ _ hH (lv_sub hl [1, 2, 3] rfl) h
      · refine lv_iload_n hx hb0 dX9_exitOf_9 rfl (lv_at hl 1 rfl) ?_
        refine lv_aload_n hx hb0 dX9_exitOf_10 rfl (lv_at hl 2 rfl) ?_
        refine lv_iload_n hx hb0 dX9_exitOf_11 rfl (lv_at hl 0 rfl) ?_
        refine lv_aload_n hx hb0 dX9_exitOf_12 rfl (lv_at hl 2 rfl) ?_
        refine g_getR hx hb0 hts q_ws_X9 hown hX hH (C := RX9) (T := TX9) (N := 19) (k := 136) (i := 0) (j := 137) (rfl : gKinds[136]? = _) rfl (by decide) (hts _ q_fl_X9_7) rfl rfl dX9_exitOf_13 ?_
        refine lv_iconst (v := gI (1 : Int)) hx hb0 dX9_exitOf_16 (by decide) ?_
        refine g_iald hx hb0 hX hH (k := 137) (rfl : gKinds[137]? = _) (by decide) dX9_exitOf_17 h (fun h => ?_)
        obtain ⟨q18, e18, h⟩ := gBind_some h
        refine g_callVi (k := 136) (T := TX9) (N := 19) (As := [.int (gI x3_4), .int (gI (σ 137 (Int.toNat (1 : Int))))]) (rest := [.int (gI x2_4)]) ⟨hx, hb0, hml, hown, hts⟩ (metX9_isExit l D G σ μ x3_4 (σ 137 (Int.toNat (1 : Int))) q18 e18) (g_cwV (C := RX9) 2 hts q_ml_X9_146 q_im_X9_isExit q_se_X9_isExit q_in_X9 q_co_X9_isExit ⟨rfl, rfl⟩ (by decide +kernel) ⟨Nat.le_of_ble_eq_true rfl, Nat.le_of_ble_eq_true rfl⟩) hX hH (rfl : gKinds[136]? = _) rfl rfl hl.1 rfl (Nat.le_of_ble_eq_true rfl) dX9_exitOf_18 ⟨Nat.zero_le _, Nat.zero_le _⟩ (fun H locs hH => ?_)
        have hJ29 : ∀ (t0_29 : Int) (H : Heap) (locs : List Loc) (ls : Array Slot), gH D G s H locs σ μ → lv_has ls 4 [(3, .int (gI x3_4)), (0, .ref (G.1 136)), (1, .int (gI a1))] → (DX9_exitOf_J29 (DX9_exitOf_L4 (DX9_exitOf_K37 σ a1) σ a1 f4) x3_4 x2_4 t0_29) = some r → W p l e (headSpec (gWs yX9_exitOf cX9_exitOf 4 (some (Jvm.ClassFile.FieldType.int))) ({ frames := 4, cells := 0, slots := 0, locals := 87 } : Room)).room s m ([.ref (G.1 136), .int (gI a1)] : List Value).toArray below meth c H locs 0 0 (MQ below (gQi D G r σ μ) ([.ref (G.1 136), .int (gI a1)] : List Value).toArray s 0 0 (gA G)) (F0 m 29 ls [.int (gI t0_29), .int (gI x2_4)]) := by
          intro t0_29 H locs ls hH hl h
          unfold DX9_exitOf_J29 at h
          refine g_iadd hx hb0 dX9_exitOf_29 ?_
          refine lv_istore_n (lv' := [(2, .int (gI (x2_4 + t0_29))), (3, .int (gI x3_4)), (0, .ref (G.1 136)), (1, .int (gI a1))]) hx hb0 dX9_exitOf_30 rfl hl (by decide) rfl (fun ls hl => ?_)
          refine g_iinc (k := 1) (n := (1 : Int)) (lv' := [(3, .int (gI (x3_4 + (1 : Int)))), (2, .int (gI (x2_4 + t0_29))), (0, .ref (G.1 136)), (1, .int (gI a1))]) hx hb0 dX9_exitOf_31 hl rfl (by decide) rfl (fun ls hl => ?_)
          refine lv_goto (tgt := 4) hx hb0 dX9_exitOf_34 (by decide) ?_
          exact ih4 _ _ _ _ _ hH (lv_sub hl [0, 1, 2, 3] rfl) h
        refine g_if_eq (tgt := 28) hx hb0 dX9_exitOf_21 (by decide) h (fun h => ?_) (fun h => ?_)
        · refine lv_iconst (v := gI (0 : Int)) hx hb0 dX9_exitOf_28 (by decide) ?_
          exact hJ29 _ _ _ _ hH (lv_sub hl [0, 2, 3] rfl) h
        · refine lv_iconst (v := gI (1 : Int)) hx hb0 dX9_exitOf_24 (by decide) ?_
          refine lv_goto (tgt := 29) hx hb0 dX9_exitOf_25 (by decide) ?_
          exact hJ29 _ _ _ _ hH (lv_sub hl [0, 2, 3] rfl) h
  exact hL4 gFuel _ _ _ _ _ hH (lv_sub hl [0, 1, 2, 3] rfl) h
def DX9_isLate (σ : gSt) (a1 : Int) : Option (Int) :=
  (DX9_end σ a1 (1 : Int)).bind fun q4 => (DX9_of σ q4 (1 : Int)).bind fun q8 => (DX9_end σ a1 (0 : Int)).bind fun q15 => (DX9_lastDay σ q15).bind fun q18 => gIf (q18 < q8) q8 q18 (gBo (0 : Int) (some (0 : Int))) (gBo (1 : Int) (some (1 : Int)))
set_option maxHeartbeats 4000000 in
set_option maxRecDepth 100000 in
theorem metX9_isLate (l : Launch) (D : va_G) (G : gAd) (σ : gSt) (μ : gLg) (a1 : Int) (r : Int) (h : DX9_isLate σ a1 = some r) : Met l yX9_isLate (gWs yX9_isLate cX9_isLate 2 (some (Jvm.ClassFile.FieldType.boolean))) ({ frames := 2, cells := 0, slots := 0, locals := 43 } : Room) (gPc D G [.ref (G.1 136), .int (gI a1)] σ μ) (gQi D G r σ μ) 0 0 (gA G) := by
  refine Met.ofW (cc := cX9_isLate) (maxL := 2) (ret := (some (Jvm.ClassFile.FieldType.boolean))) (by decide) rfl ?_
  intro p e s m args below meth c s₁ B hml hv
  obtain ⟨rfl, hP, hX⟩ := hv
  have hx := B.exec
  have hb0 := B.bytes
  have hr := B.returns
  have hts0 := atoms_spec (ws := (gWs yX9_isLate cX9_isLate 2 (some (Jvm.ClassFile.FieldType.boolean)))) B.pre
  have hts : ∀ w ∈ gLW, w.before _ s = true := fun w hw => hts0 w (List.mem_cons_of_mem _ hw)
  have hown : s.vm.findClass RX9 = some m.cls := findClass_of_methodNamed B.named
  have hlocks := B.notSynchronized
  have hH : gH D G s s.heap [] σ μ := ⟨hP, va_S.rf⟩
  have hl := lv_entry ([.ref (G.1 136), .int (gI a1)]) (n := 2) (Nat.le_of_ble_eq_true rfl)
  rw [lg_entry_eq]
  generalize (lg_sl ([.ref (G.1 136), .int (gI a1)]) ++ List.replicate (2 - (lg_sl ([.ref (G.1 136), .int (gI a1)])).length) Slot.unset).toArray = ls at hl ⊢
  have hl : lv_has ls 2 [(0, .ref (G.1 136)), (1, .int (gI a1))] := hl
  unfold DX9_isLate at h
  refine lv_aload_n hx hb0 dX9_isLate_0 rfl (lv_at hl 0 rfl) ?_
  refine lv_aload_n hx hb0 dX9_isLate_1 rfl (lv_at hl 0 rfl) ?_
  refine lv_iload_n hx hb0 dX9_isLate_2 rfl (lv_at hl 1 rfl) ?_
  refine lv_iconst (v := gI (1 : Int)) hx hb0 dX9_isLate_3 (by decide) ?_
  obtain ⟨q4, e4, h⟩ := gBind_some h
  refine g_callVi (k := 136) (T := TX9) (N := 19) (As := [.int (gI a1), .int (gI (1 : Int))]) (rest := [.ref (G.1 136)]) ⟨hx, hb0, hml, hown, hts⟩ (metX9_end l D G σ μ a1 (1 : Int) q4 e4) (g_cwV (C := RX9) 2 hts q_ml_X9_86 q_im_X9_end q_se_X9_end q_in_X9 q_co_X9_end ⟨rfl, rfl⟩ (by decide +kernel) ⟨Nat.le_of_ble_eq_true rfl, Nat.le_of_ble_eq_true rfl⟩) hX hH (rfl : gKinds[136]? = _) rfl rfl hl.1 rfl (Nat.le_of_ble_eq_true rfl) dX9_isLate_4 ⟨Nat.zero_le _, Nat.zero_le _⟩ (fun H locs hH => ?_)
  refine lv_iconst (v := gI (1 : Int)) hx hb0 dX9_isLate_7 (by decide) ?_
  obtain ⟨q8, e8, h⟩ := gBind_some h
  refine g_callVi (k := 136) (T := TX9) (N := 19) (As := [.int (gI q4), .int (gI (1 : Int))]) (rest := []) ⟨hx, hb0, hml, hown, hts⟩ (metX9_of l D G σ μ q4 (1 : Int) q8 e8) (g_cwV (C := RX9) 2 hts q_ml_X9_55 q_im_X9_of q_se_X9_of q_in_X9 q_co_X9_of ⟨rfl, rfl⟩ (by decide +kernel) ⟨Nat.le_of_ble_eq_true rfl, Nat.le_of_ble_eq_true rfl⟩) hX hH (rfl : gKinds[136]? = _) rfl rfl hl.1 rfl (Nat.le_of_ble_eq_true rfl) dX9_isLate_8 ⟨Nat.zero_le _, Nat.zero_le _⟩ (fun H locs hH => ?_)
  refine lv_aload_n hx hb0 dX9_isLate_11 rfl (lv_at hl 0 rfl) ?_
  refine lv_aload_n hx hb0 dX9_isLate_12 rfl (lv_at hl 0 rfl) ?_
  refine lv_iload_n hx hb0 dX9_isLate_13 rfl (lv_at hl 1 rfl) ?_
  refine lv_iconst (v := gI (0 : Int)) hx hb0 dX9_isLate_14 (by decide) ?_
  obtain ⟨q15, e15, h⟩ := gBind_some h
  refine g_callVi (k := 136) (T := TX9) (N := 19) (As := [.int (gI a1), .int (gI (0 : Int))]) (rest := [.ref (G.1 136), .int (gI q8)]) ⟨hx, hb0, hml, hown, hts⟩ (metX9_end l D G σ μ a1 (0 : Int) q15 e15) (g_cwV (C := RX9) 2 hts q_ml_X9_86 q_im_X9_end q_se_X9_end q_in_X9 q_co_X9_end ⟨rfl, rfl⟩ (by decide +kernel) ⟨Nat.le_of_ble_eq_true rfl, Nat.le_of_ble_eq_true rfl⟩) hX hH (rfl : gKinds[136]? = _) rfl rfl hl.1 rfl (Nat.le_of_ble_eq_true rfl) dX9_isLate_15 ⟨Nat.zero_le _, Nat.zero_le _⟩ (fun H locs hH => ?_)
  obtain ⟨q18, e18, h⟩ := gBind_some h
  refine g_callVi (k := 136) (T := TX9) (N := 19) (As := [.int (gI q15)]) (rest := [.int (gI q8)]) ⟨hx, hb0, hml, hown, hts⟩ (metX9_lastDay l D G σ μ q15 q18 e18) (g_cwV (C := RX9) 1 hts q_ml_X9_127 q_im_X9_lastDay q_se_X9_lastDay q_in_X9 q_co_X9_lastDay ⟨rfl, rfl⟩ (by decide +kernel) ⟨Nat.le_of_ble_eq_true rfl, Nat.le_of_ble_eq_true rfl⟩) hX hH (rfl : gKinds[136]? = _) rfl rfl hl.1 rfl (Nat.le_of_ble_eq_true rfl) dX9_isLate_18 ⟨Nat.zero_le _, Nat.zero_le _⟩ (fun H locs hH => ?_)
  refine g_icmp_gt (tgt := 28) hx hb0 dX9_isLate_21 (by decide) h (fun h => ?_) (fun h => ?_)
  · refine lv_iconst (v := gI (0 : Int)) hx hb0 dX9_isLate_28 (by decide) ?_
    exact g_zretP hx hb0 hr hH hlocks dX9_isLate_29 h
  · refine lv_iconst (v := gI (1 : Int)) hx hb0 dX9_isLate_24 (by decide) ?_
    refine lv_goto (tgt := 29) hx hb0 dX9_isLate_25 (by decide) ?_
    exact g_zretP hx hb0 hr hH hlocks dX9_isLate_29 h
def DX9_partsOf (σ : gSt) (a1 : Int) : Option (Int) :=
  (DX9_lastDay σ a1).bind fun q2 => gAt (1 : Int) 138 (gDv q2 (σ 137 (Int.toNat (1 : Int))) ((DX9_of σ a1 (1 : Int)).bind fun q15 => gAt (1 : Int) 138 (gDv q15 (σ 137 (Int.toNat (1 : Int))) (some (((q2 / (σ 137 (Int.toNat (1 : Int)))) - (q15 / (σ 137 (Int.toNat (1 : Int))))) + (1 : Int))))))
set_option maxHeartbeats 4000000 in
set_option maxRecDepth 100000 in
theorem metX9_partsOf (l : Launch) (D : va_G) (G : gAd) (σ : gSt) (μ : gLg) (a1 : Int) (r : Int) (h : DX9_partsOf σ a1 = some r) : Met l yX9_partsOf (gWs yX9_partsOf cX9_partsOf 2 (some (Jvm.ClassFile.FieldType.int))) ({ frames := 2, cells := 0, slots := 0, locals := 43 } : Room) (gPc D G [.ref (G.1 136), .int (gI a1)] σ μ) (gQi D G r σ μ) 0 0 (gA G) := by
  refine Met.ofW (cc := cX9_partsOf) (maxL := 2) (ret := (some (Jvm.ClassFile.FieldType.int))) (by decide) rfl ?_
  intro p e s m args below meth c s₁ B hml hv
  obtain ⟨rfl, hP, hX⟩ := hv
  have hx := B.exec
  have hb0 := B.bytes
  have hr := B.returns
  have hts0 := atoms_spec (ws := (gWs yX9_partsOf cX9_partsOf 2 (some (Jvm.ClassFile.FieldType.int)))) B.pre
  have hts : ∀ w ∈ gLW, w.before _ s = true := fun w hw => hts0 w (List.mem_cons_of_mem _ hw)
  have hown : s.vm.findClass RX9 = some m.cls := findClass_of_methodNamed B.named
  have hlocks := B.notSynchronized
  have hH : gH D G s s.heap [] σ μ := ⟨hP, va_S.rf⟩
  have hl := lv_entry ([.ref (G.1 136), .int (gI a1)]) (n := 2) (Nat.le_of_ble_eq_true rfl)
  rw [lg_entry_eq]
  generalize (lg_sl ([.ref (G.1 136), .int (gI a1)]) ++ List.replicate (2 - (lg_sl ([.ref (G.1 136), .int (gI a1)])).length) Slot.unset).toArray = ls at hl ⊢
  have hl : lv_has ls 2 [(0, .ref (G.1 136)), (1, .int (gI a1))] := hl
  unfold DX9_partsOf at h
  refine lv_aload_n hx hb0 dX9_partsOf_0 rfl (lv_at hl 0 rfl) ?_
  refine lv_iload_n hx hb0 dX9_partsOf_1 rfl (lv_at hl 1 rfl) ?_
  obtain ⟨q2, e2, h⟩ := gBind_some h
  refine g_callVi (k := 136) (T := TX9) (N := 19) (As := [.int (gI a1)]) (rest := []) ⟨hx, hb0, hml, hown, hts⟩ (metX9_lastDay l D G σ μ a1 q2 e2) (g_cwV (C := RX9) 1 hts q_ml_X9_127 q_im_X9_lastDay q_se_X9_lastDay q_in_X9 q_co_X9_lastDay ⟨rfl, rfl⟩ (by decide +kernel) ⟨Nat.le_of_ble_eq_true rfl, Nat.le_of_ble_eq_true rfl⟩) hX hH (rfl : gKinds[136]? = _) rfl rfl hl.1 rfl (Nat.le_of_ble_eq_true rfl) dX9_partsOf_2 ⟨Nat.zero_le _, Nat.zero_le _⟩ (fun H locs hH => ?_)
  refine lv_aload_n hx hb0 dX9_partsOf_5 rfl (lv_at hl 0 rfl) ?_
  refine g_getR hx hb0 hts q_ws_X9 hown hX hH (C := RX9) (T := TX9) (N := 19) (k := 136) (i := 0) (j := 137) (rfl : gKinds[136]? = _) rfl (by decide) (hts _ q_fl_X9_7) rfl rfl dX9_partsOf_6 ?_
  refine lv_iconst (v := gI (1 : Int)) hx hb0 dX9_partsOf_9 (by decide) ?_
  refine g_iald hx hb0 hX hH (k := 137) (rfl : gKinds[137]? = _) (by decide) dX9_partsOf_10 h (fun h => ?_)
  refine g_idiv hx hb0 dX9_partsOf_11 h (fun h => ?_)
  refine lv_aload_n hx hb0 dX9_partsOf_12 rfl (lv_at hl 0 rfl) ?_
  refine lv_iload_n hx hb0 dX9_partsOf_13 rfl (lv_at hl 1 rfl) ?_
  refine lv_iconst (v := gI (1 : Int)) hx hb0 dX9_partsOf_14 (by decide) ?_
  obtain ⟨q15, e15, h⟩ := gBind_some h
  refine g_callVi (k := 136) (T := TX9) (N := 19) (As := [.int (gI a1), .int (gI (1 : Int))]) (rest := [.int (gI (q2 / (σ 137 (Int.toNat (1 : Int)))))]) ⟨hx, hb0, hml, hown, hts⟩ (metX9_of l D G σ μ a1 (1 : Int) q15 e15) (g_cwV (C := RX9) 2 hts q_ml_X9_55 q_im_X9_of q_se_X9_of q_in_X9 q_co_X9_of ⟨rfl, rfl⟩ (by decide +kernel) ⟨Nat.le_of_ble_eq_true rfl, Nat.le_of_ble_eq_true rfl⟩) hX hH (rfl : gKinds[136]? = _) rfl rfl hl.1 rfl (Nat.le_of_ble_eq_true rfl) dX9_partsOf_15 ⟨Nat.zero_le _, Nat.zero_le _⟩ (fun H locs hH => ?_)
  refine lv_aload_n hx hb0 dX9_partsOf_18 rfl (lv_at hl 0 rfl) ?_
  refine g_getR hx hb0 hts q_ws_X9 hown hX hH (C := RX9) (T := TX9) (N := 19) (k := 136) (i := 0) (j := 137) (rfl : gKinds[136]? = _) rfl (by decide) (hts _ q_fl_X9_7) rfl rfl dX9_partsOf_19 ?_
  refine lv_iconst (v := gI (1 : Int)) hx hb0 dX9_partsOf_22 (by decide) ?_
  refine g_iald hx hb0 hX hH (k := 137) (rfl : gKinds[137]? = _) (by decide) dX9_partsOf_23 h (fun h => ?_)
  refine g_idiv hx hb0 dX9_partsOf_24 h (fun h => ?_)
  refine g_isub hx hb0 dX9_partsOf_25 ?_
  refine lv_iconst (v := gI (1 : Int)) hx hb0 dX9_partsOf_26 (by decide) ?_
  refine g_iadd hx hb0 dX9_partsOf_27 ?_
  exact g_iretP hx hb0 hr hH hlocks dX9_partsOf_28 h
def DX9_taskTold (σ : gSt) (a1 : Int) (a2 : Int) : Option (Int) :=
  gIf (a2 = (3 : Int)) a2 (3 : Int) ((DX9_lastDay σ a1).bind fun q34 => some q34) (gIf (a2 = (4 : Int)) a2 (4 : Int) (gAt a1 24 (some (σ 142 (Int.toNat a1)))) (gIf (a2 = (5 : Int)) a2 (5 : Int) (gAt a1 24 (some (σ 143 (Int.toNat a1)))) (gIf (a2 = (6 : Int)) a2 (6 : Int) ((DX9_partsOf σ a1).bind fun q54 => some q54) ((DX9_of σ a1 a2).bind fun q61 => some q61))))
set_option maxHeartbeats 4000000 in
set_option maxRecDepth 100000 in
theorem metX9_taskTold (l : Launch) (D : va_G) (G : gAd) (σ : gSt) (μ : gLg) (a1 : Int) (a2 : Int) (r : Int) (h : DX9_taskTold σ a1 a2 = some r) : Met l yX9_taskTold (gWs yX9_taskTold cX9_taskTold 3 (some (Jvm.ClassFile.FieldType.int))) ({ frames := 3, cells := 0, slots := 0, locals := 64 } : Room) (gPc D G [.ref (G.1 136), .int (gI a1), .int (gI a2)] σ μ) (gQi D G r σ μ) 0 0 (gA G) := by
  refine Met.ofW (cc := cX9_taskTold) (maxL := 3) (ret := (some (Jvm.ClassFile.FieldType.int))) (by decide) rfl ?_
  intro p e s m args below meth c s₁ B hml hv
  obtain ⟨rfl, hP, hX⟩ := hv
  have hx := B.exec
  have hb0 := B.bytes
  have hr := B.returns
  have hts0 := atoms_spec (ws := (gWs yX9_taskTold cX9_taskTold 3 (some (Jvm.ClassFile.FieldType.int)))) B.pre
  have hts : ∀ w ∈ gLW, w.before _ s = true := fun w hw => hts0 w (List.mem_cons_of_mem _ hw)
  have hown : s.vm.findClass RX9 = some m.cls := findClass_of_methodNamed B.named
  have hlocks := B.notSynchronized
  have hH : gH D G s s.heap [] σ μ := ⟨hP, va_S.rf⟩
  have hl := lv_entry ([.ref (G.1 136), .int (gI a1), .int (gI a2)]) (n := 3) (Nat.le_of_ble_eq_true rfl)
  rw [lg_entry_eq]
  generalize (lg_sl ([.ref (G.1 136), .int (gI a1), .int (gI a2)]) ++ List.replicate (3 - (lg_sl ([.ref (G.1 136), .int (gI a1), .int (gI a2)])).length) Slot.unset).toArray = ls at hl ⊢
  have hl : lv_has ls 3 [(0, .ref (G.1 136)), (1, .int (gI a1)), (2, .int (gI a2))] := hl
  unfold DX9_taskTold at h
  refine lv_iload_n hx hb0 dX9_taskTold_0 rfl (lv_at hl 2 rfl) ?_
  obtain ⟨hgr, -, h⟩ := gIf_some h
  rcases h with ⟨hc3, h⟩ | ⟨hc3, h⟩
  · refine g_tabIn (i := (3 : Int)) (tgt := 32) hx hb0 dX9_taskTold_1 hc3 (by decide) (by decide) (by decide) rfl (by decide) ?_
    refine lv_aload_n hx hb0 dX9_taskTold_32 rfl (lv_at hl 0 rfl) ?_
    refine lv_iload_n hx hb0 dX9_taskTold_33 rfl (lv_at hl 1 rfl) ?_
    obtain ⟨q34, e34, h⟩ := gBind_some h
    refine g_callVi (k := 136) (T := TX9) (N := 19) (As := [.int (gI a1)]) (rest := []) ⟨hx, hb0, hml, hown, hts⟩ (metX9_lastDay l D G σ μ a1 q34 e34) (g_cwV (C := RX9) 1 hts q_ml_X9_127 q_im_X9_lastDay q_se_X9_lastDay q_in_X9 q_co_X9_lastDay ⟨rfl, rfl⟩ (by decide +kernel) ⟨Nat.le_of_ble_eq_true rfl, Nat.le_of_ble_eq_true rfl⟩) hX hH (rfl : gKinds[136]? = _) rfl rfl hl.1 rfl (Nat.le_of_ble_eq_true rfl) dX9_taskTold_34 ⟨Nat.zero_le _, Nat.zero_le _⟩ (fun H locs hH => ?_)
    exact g_iretP hx hb0 hr hH hlocks dX9_taskTold_37 h
  · obtain ⟨hgr, -, h⟩ := gIf_some h
    rcases h with ⟨hc4, h⟩ | ⟨hc4, h⟩
    · refine g_tabIn (i := (4 : Int)) (tgt := 38) hx hb0 dX9_taskTold_1 hc4 (by decide) (by decide) (by decide) rfl (by decide) ?_
      refine lv_aload_n hx hb0 dX9_taskTold_38 rfl (lv_at hl 0 rfl) ?_
      refine g_getR hx hb0 hts q_ws_X9 hown hX hH (C := RX9) (T := TX9) (N := 19) (k := 136) (i := 10) (j := 142) (rfl : gKinds[136]? = _) rfl (by decide) (hts _ q_fl_X9_25) rfl rfl dX9_taskTold_39 ?_
      refine lv_iload_n hx hb0 dX9_taskTold_42 rfl (lv_at hl 1 rfl) ?_
      refine g_iald hx hb0 hX hH (k := 142) (rfl : gKinds[142]? = _) (by decide) dX9_taskTold_43 h (fun h => ?_)
      exact g_iretP hx hb0 hr hH hlocks dX9_taskTold_44 h
    · obtain ⟨hgr, -, h⟩ := gIf_some h
      rcases h with ⟨hc5, h⟩ | ⟨hc5, h⟩
      · refine g_tabIn (i := (5 : Int)) (tgt := 45) hx hb0 dX9_taskTold_1 hc5 (by decide) (by decide) (by decide) rfl (by decide) ?_
        refine lv_aload_n hx hb0 dX9_taskTold_45 rfl (lv_at hl 0 rfl) ?_
        refine g_getR hx hb0 hts q_ws_X9 hown hX hH (C := RX9) (T := TX9) (N := 19) (k := 136) (i := 11) (j := 143) (rfl : gKinds[136]? = _) rfl (by decide) (hts _ q_fl_X9_28) rfl rfl dX9_taskTold_46 ?_
        refine lv_iload_n hx hb0 dX9_taskTold_49 rfl (lv_at hl 1 rfl) ?_
        refine g_iald hx hb0 hX hH (k := 143) (rfl : gKinds[143]? = _) (by decide) dX9_taskTold_50 h (fun h => ?_)
        exact g_iretP hx hb0 hr hH hlocks dX9_taskTold_51 h
      · obtain ⟨hgr, -, h⟩ := gIf_some h
        rcases h with ⟨hc6, h⟩ | ⟨hc6, h⟩
        · refine g_tabIn (i := (6 : Int)) (tgt := 52) hx hb0 dX9_taskTold_1 hc6 (by decide) (by decide) (by decide) rfl (by decide) ?_
          refine lv_aload_n hx hb0 dX9_taskTold_52 rfl (lv_at hl 0 rfl) ?_
          refine lv_iload_n hx hb0 dX9_taskTold_53 rfl (lv_at hl 1 rfl) ?_
          obtain ⟨q54, e54, h⟩ := gBind_some h
          refine g_callVi (k := 136) (T := TX9) (N := 19) (As := [.int (gI a1)]) (rest := []) ⟨hx, hb0, hml, hown, hts⟩ (metX9_partsOf l D G σ μ a1 q54 e54) (g_cwV (C := RX9) 1 hts q_ml_X9_149 q_im_X9_partsOf q_se_X9_partsOf q_in_X9 q_co_X9_partsOf ⟨rfl, rfl⟩ (by decide +kernel) ⟨Nat.le_of_ble_eq_true rfl, Nat.le_of_ble_eq_true rfl⟩) hX hH (rfl : gKinds[136]? = _) rfl rfl hl.1 rfl (Nat.le_of_ble_eq_true rfl) dX9_taskTold_54 ⟨Nat.zero_le _, Nat.zero_le _⟩ (fun H locs hH => ?_)
          exact g_iretP hx hb0 hr hH hlocks dX9_taskTold_57 h
        · refine g_tabOut (tgt := 58) hx hb0 dX9_taskTold_1 hgr (by omega) (by decide) ?_
          refine lv_aload_n hx hb0 dX9_taskTold_58 rfl (lv_at hl 0 rfl) ?_
          refine lv_iload_n hx hb0 dX9_taskTold_59 rfl (lv_at hl 1 rfl) ?_
          refine lv_iload_n hx hb0 dX9_taskTold_60 rfl (lv_at hl 2 rfl) ?_
          obtain ⟨q61, e61, h⟩ := gBind_some h
          refine g_callVi (k := 136) (T := TX9) (N := 19) (As := [.int (gI a1), .int (gI a2)]) (rest := []) ⟨hx, hb0, hml, hown, hts⟩ (metX9_of l D G σ μ a1 a2 q61 e61) (g_cwV (C := RX9) 2 hts q_ml_X9_55 q_im_X9_of q_se_X9_of q_in_X9 q_co_X9_of ⟨rfl, rfl⟩ (by decide +kernel) ⟨Nat.le_of_ble_eq_true rfl, Nat.le_of_ble_eq_true rfl⟩) hX hH (rfl : gKinds[136]? = _) rfl rfl hl.1 rfl (Nat.le_of_ble_eq_true rfl) dX9_taskTold_61 ⟨Nat.zero_le _, Nat.zero_le _⟩ (fun H locs hH => ?_)
          exact g_iretP hx hb0 hr hH hlocks dX9_taskTold_64 h
def DX9_task (σ : gSt) (a1 : Int) (a2 : Int) : Option (Int × gSt) :=
  (DX9_isTask σ a1).bind fun q2 => gIf (q2 = (0 : Int)) q2 (0 : Int) ((DX9_fails σ (1 : Int)).bind fun q10 => some (q10.1, q10.2)) ((DX9_in σ a2 (0 : Int) (6 : Int)).bind fun q18 => gIf (q18 = (0 : Int)) q18 (0 : Int) ((DX9_fails σ (2 : Int)).bind fun q26 => some (q26.1, q26.2)) (gAt (0 : Int) 138 ((DX9_bandsBy σ (σ 137 (Int.toNat (0 : Int)))).bind fun q37 => (DX9_taskTold q37 a1 a2).bind fun q44 => (DX9_tells q37 q44).bind fun q47 => some (q47.1, q47.2))))
set_option maxHeartbeats 4000000 in
set_option maxRecDepth 100000 in
theorem metX9_task (l : Launch) (D : va_G) (G : gAd) (σ : gSt) (μ : gLg) (a1 : Int) (a2 : Int) (r : Int) (σ' : gSt) (h : DX9_task σ a1 a2 = some (r, σ')) : Met l yX9_task (gWs yX9_task cX9_task 3 (some (Jvm.ClassFile.FieldType.int))) ({ frames := 4, cells := 0, slots := 0, locals := 95 } : Room) (gPc D G [.ref (G.1 136), .int (gI a1), .int (gI a2)] σ μ) (gQi D G r σ' μ) 0 0 (gA G) := by
  refine Met.ofW (cc := cX9_task) (maxL := 3) (ret := (some (Jvm.ClassFile.FieldType.int))) (by decide) rfl ?_
  intro p e s m args below meth c s₁ B hml hv
  obtain ⟨rfl, hP, hX⟩ := hv
  have hx := B.exec
  have hb0 := B.bytes
  have hr := B.returns
  have hts0 := atoms_spec (ws := (gWs yX9_task cX9_task 3 (some (Jvm.ClassFile.FieldType.int)))) B.pre
  have hts : ∀ w ∈ gLW, w.before _ s = true := fun w hw => hts0 w (List.mem_cons_of_mem _ hw)
  have hown : s.vm.findClass RX9 = some m.cls := findClass_of_methodNamed B.named
  have hlocks := B.notSynchronized
  have hH : gH D G s s.heap [] σ μ := ⟨hP, va_S.rf⟩
  have hl := lv_entry ([.ref (G.1 136), .int (gI a1), .int (gI a2)]) (n := 3) (Nat.le_of_ble_eq_true rfl)
  rw [lg_entry_eq]
  generalize (lg_sl ([.ref (G.1 136), .int (gI a1), .int (gI a2)]) ++ List.replicate (3 - (lg_sl ([.ref (G.1 136), .int (gI a1), .int (gI a2)])).length) Slot.unset).toArray = ls at hl ⊢
  have hl : lv_has ls 3 [(0, .ref (G.1 136)), (1, .int (gI a1)), (2, .int (gI a2))] := hl
  unfold DX9_task at h
  refine lv_aload_n hx hb0 dX9_task_0 rfl (lv_at hl 0 rfl) ?_
  refine lv_iload_n hx hb0 dX9_task_1 rfl (lv_at hl 1 rfl) ?_
  obtain ⟨q2, e2, h⟩ := gBind_some h
  refine g_callVi (k := 136) (T := TX9) (N := 19) (As := [.int (gI a1)]) (rest := []) ⟨hx, hb0, hml, hown, hts⟩ (metX9_isTask l D G σ μ a1 q2 e2) (g_cwV (C := RX9) 1 hts q_ml_X9_82 q_im_X9_isTask q_se_X9_isTask q_in_X9 q_co_X9_isTask ⟨rfl, rfl⟩ (by decide +kernel) ⟨Nat.le_of_ble_eq_true rfl, Nat.le_of_ble_eq_true rfl⟩) hX hH (rfl : gKinds[136]? = _) rfl rfl hl.1 rfl (Nat.le_of_ble_eq_true rfl) dX9_task_2 ⟨Nat.zero_le _, Nat.zero_le _⟩ (fun H locs hH => ?_)
  refine g_if_ne (tgt := 14) hx hb0 dX9_task_5 (by decide) h (fun h => ?_) (fun h => ?_)
  · refine lv_iload_n hx hb0 dX9_task_14 rfl (lv_at hl 2 rfl) ?_
    refine lv_iconst (v := gI (0 : Int)) hx hb0 dX9_task_15 (by decide) ?_
    refine lv_bipush (v := gI (6 : Int)) hx hb0 dX9_task_16 (by decide) ?_
    obtain ⟨q18, e18, h⟩ := gBind_some h
    refine g_callSi (As := [.int (gI a2), .int (gI (0 : Int)), .int (gI (6 : Int))]) (rest := []) ⟨hx, hb0, hml, hown, hts⟩ (metX9_in l D G σ μ a2 (0 : Int) (6 : Int) q18 e18) (g_cwS 3 hts q_ml_X9_51 q_st_X9_in q_in_X9 q_co_X9_in ⟨rfl, rfl⟩ (by decide +kernel) ⟨Nat.le_of_ble_eq_true rfl, Nat.le_of_ble_eq_true rfl⟩) hX hH rfl hl.1 rfl (Nat.le_of_ble_eq_true rfl) dX9_task_18 ⟨Nat.zero_le _, Nat.zero_le _⟩ (fun H locs hH => ?_)
    refine g_if_ne (tgt := 30) hx hb0 dX9_task_21 (by decide) h (fun h => ?_) (fun h => ?_)
    · refine lv_aload_n hx hb0 dX9_task_30 rfl (lv_at hl 0 rfl) ?_
      refine lv_aload_n hx hb0 dX9_task_31 rfl (lv_at hl 0 rfl) ?_
      refine g_getR hx hb0 hts q_ws_X9 hown hX hH (C := RX9) (T := TX9) (N := 19) (k := 136) (i := 0) (j := 137) (rfl : gKinds[136]? = _) rfl (by decide) (hts _ q_fl_X9_7) rfl rfl dX9_task_32 ?_
      refine lv_iconst (v := gI (0 : Int)) hx hb0 dX9_task_35 (by decide) ?_
      refine g_iald hx hb0 hX hH (k := 137) (rfl : gKinds[137]? = _) (by decide) dX9_task_36 h (fun h => ?_)
      obtain ⟨q37, e37, h⟩ := gBind_some h
      refine g_callVv (k := 136) (T := TX9) (N := 19) (As := [.int (gI (σ 137 (Int.toNat (0 : Int))))]) (rest := []) ⟨hx, hb0, hml, hown, hts⟩ (metX9_bandsBy l D G σ μ (σ 137 (Int.toNat (0 : Int))) q37 e37) (g_cwV (C := RX9) 1 hts q_ml_X9_124 q_im_X9_bandsBy q_se_X9_bandsBy q_in_X9 q_co_X9_bandsBy ⟨rfl, rfl⟩ (by decide +kernel) ⟨Nat.le_of_ble_eq_true rfl, Nat.le_of_ble_eq_true rfl⟩) hX hH (rfl : gKinds[136]? = _) rfl rfl hl.1 rfl (Nat.le_of_ble_eq_true rfl) dX9_task_37 ⟨Nat.zero_le _, Nat.zero_le _⟩ (fun H locs hH => ?_)
      refine lv_aload_n hx hb0 dX9_task_40 rfl (lv_at hl 0 rfl) ?_
      refine lv_aload_n hx hb0 dX9_task_41 rfl (lv_at hl 0 rfl) ?_
      refine lv_iload_n hx hb0 dX9_task_42 rfl (lv_at hl 1 rfl) ?_
      refine lv_iload_n hx hb0 dX9_task_43 rfl (lv_at hl 2 rfl) ?_
      obtain ⟨q44, e44, h⟩ := gBind_some h
      refine g_callVi (k := 136) (T := TX9) (N := 19) (As := [.int (gI a1), .int (gI a2)]) (rest := [.ref (G.1 136)]) ⟨hx, hb0, hml, hown, hts⟩ (metX9_taskTold l D G q37 μ a1 a2 q44 e44) (g_cwV (C := RX9) 2 hts q_ml_X9_152 q_im_X9_taskTold q_se_X9_taskTold q_in_X9 q_co_X9_taskTold ⟨rfl, rfl⟩ (by decide +kernel) ⟨Nat.le_of_ble_eq_true rfl, Nat.le_of_ble_eq_true rfl⟩) hX hH (rfl : gKinds[136]? = _) rfl rfl hl.1 rfl (Nat.le_of_ble_eq_true rfl) dX9_task_44 ⟨Nat.zero_le _, Nat.zero_le _⟩ (fun H locs hH => ?_)
      obtain ⟨q47, e47, h⟩ := gBind_some h
      refine g_callVi (k := 136) (T := TX9) (N := 19) (As := [.int (gI q44)]) (rest := []) ⟨hx, hb0, hml, hown, hts⟩ (metX9_tells l D G q37 μ q44 q47.1 q47.2 e47) (g_cwV (C := RX9) 1 hts q_ml_X9_47 q_im_X9_tells q_se_X9_tells q_in_X9 q_co_X9_tells ⟨rfl, rfl⟩ (by decide +kernel) ⟨Nat.le_of_ble_eq_true rfl, Nat.le_of_ble_eq_true rfl⟩) hX hH (rfl : gKinds[136]? = _) rfl rfl hl.1 rfl (Nat.le_of_ble_eq_true rfl) dX9_task_47 ⟨Nat.zero_le _, Nat.zero_le _⟩ (fun H locs hH => ?_)
      exact g_iretS hx hb0 hr hH hlocks dX9_task_50 h
    · refine lv_aload_n hx hb0 dX9_task_24 rfl (lv_at hl 0 rfl) ?_
      refine lv_iconst (v := gI (2 : Int)) hx hb0 dX9_task_25 (by decide) ?_
      obtain ⟨q26, e26, h⟩ := gBind_some h
      refine g_callVi (k := 136) (T := TX9) (N := 19) (As := [.int (gI (2 : Int))]) (rest := []) ⟨hx, hb0, hml, hown, hts⟩ (metX9_fails l D G σ μ (2 : Int) q26.1 q26.2 e26) (g_cwV (C := RX9) 1 hts q_ml_X9_63 q_im_X9_fails q_se_X9_fails q_in_X9 q_co_X9_fails ⟨rfl, rfl⟩ (by decide +kernel) ⟨Nat.le_of_ble_eq_true rfl, Nat.le_of_ble_eq_true rfl⟩) hX hH (rfl : gKinds[136]? = _) rfl rfl hl.1 rfl (Nat.le_of_ble_eq_true rfl) dX9_task_26 ⟨Nat.zero_le _, Nat.zero_le _⟩ (fun H locs hH => ?_)
      exact g_iretS hx hb0 hr hH hlocks dX9_task_29 h
  · refine lv_aload_n hx hb0 dX9_task_8 rfl (lv_at hl 0 rfl) ?_
    refine lv_iconst (v := gI (1 : Int)) hx hb0 dX9_task_9 (by decide) ?_
    obtain ⟨q10, e10, h⟩ := gBind_some h
    refine g_callVi (k := 136) (T := TX9) (N := 19) (As := [.int (gI (1 : Int))]) (rest := []) ⟨hx, hb0, hml, hown, hts⟩ (metX9_fails l D G σ μ (1 : Int) q10.1 q10.2 e10) (g_cwV (C := RX9) 1 hts q_ml_X9_63 q_im_X9_fails q_se_X9_fails q_in_X9 q_co_X9_fails ⟨rfl, rfl⟩ (by decide +kernel) ⟨Nat.le_of_ble_eq_true rfl, Nat.le_of_ble_eq_true rfl⟩) hX hH (rfl : gKinds[136]? = _) rfl rfl hl.1 rfl (Nat.le_of_ble_eq_true rfl) dX9_task_10 ⟨Nat.zero_le _, Nat.zero_le _⟩ (fun H locs hH => ?_)
    exact g_iretS hx hb0 hr hH hlocks dX9_task_13 h
def DX9_bands (σ : gSt) : Option (Int × gSt) :=
  gAt (0 : Int) 138 ((DX9_bandsBy σ (σ 137 (Int.toNat (0 : Int)))).bind fun q7 => (DX9_tells q7 (q7 136 7)).bind fun q15 => some (q15.1, q15.2))
set_option maxHeartbeats 4000000 in
set_option maxRecDepth 100000 in
theorem metX9_bands (l : Launch) (D : va_G) (G : gAd) (σ : gSt) (μ : gLg) (r : Int) (σ' : gSt) (h : DX9_bands σ = some (r, σ')) : Met l yX9_bands (gWs yX9_bands cX9_bands 1 (some (Jvm.ClassFile.FieldType.int))) ({ frames := 4, cells := 0, slots := 0, locals := 95 } : Room) (gPc D G [.ref (G.1 136)] σ μ) (gQi D G r σ' μ) 0 0 (gA G) := by
  refine Met.ofW (cc := cX9_bands) (maxL := 1) (ret := (some (Jvm.ClassFile.FieldType.int))) (by decide) rfl ?_
  intro p e s m args below meth c s₁ B hml hv
  obtain ⟨rfl, hP, hX⟩ := hv
  have hx := B.exec
  have hb0 := B.bytes
  have hr := B.returns
  have hts0 := atoms_spec (ws := (gWs yX9_bands cX9_bands 1 (some (Jvm.ClassFile.FieldType.int)))) B.pre
  have hts : ∀ w ∈ gLW, w.before _ s = true := fun w hw => hts0 w (List.mem_cons_of_mem _ hw)
  have hown : s.vm.findClass RX9 = some m.cls := findClass_of_methodNamed B.named
  have hlocks := B.notSynchronized
  have hH : gH D G s s.heap [] σ μ := ⟨hP, va_S.rf⟩
  have hl := lv_entry ([.ref (G.1 136)]) (n := 1) (Nat.le_of_ble_eq_true rfl)
  rw [lg_entry_eq]
  generalize (lg_sl ([.ref (G.1 136)]) ++ List.replicate (1 - (lg_sl ([.ref (G.1 136)])).length) Slot.unset).toArray = ls at hl ⊢
  have hl : lv_has ls 1 [(0, .ref (G.1 136))] := hl
  unfold DX9_bands at h
  refine lv_aload_n hx hb0 dX9_bands_0 rfl (lv_at hl 0 rfl) ?_
  refine lv_aload_n hx hb0 dX9_bands_1 rfl (lv_at hl 0 rfl) ?_
  refine g_getR hx hb0 hts q_ws_X9 hown hX hH (C := RX9) (T := TX9) (N := 19) (k := 136) (i := 0) (j := 137) (rfl : gKinds[136]? = _) rfl (by decide) (hts _ q_fl_X9_7) rfl rfl dX9_bands_2 ?_
  refine lv_iconst (v := gI (0 : Int)) hx hb0 dX9_bands_5 (by decide) ?_
  refine g_iald hx hb0 hX hH (k := 137) (rfl : gKinds[137]? = _) (by decide) dX9_bands_6 h (fun h => ?_)
  obtain ⟨q7, e7, h⟩ := gBind_some h
  refine g_callVv (k := 136) (T := TX9) (N := 19) (As := [.int (gI (σ 137 (Int.toNat (0 : Int))))]) (rest := []) ⟨hx, hb0, hml, hown, hts⟩ (metX9_bandsBy l D G σ μ (σ 137 (Int.toNat (0 : Int))) q7 e7) (g_cwV (C := RX9) 1 hts q_ml_X9_124 q_im_X9_bandsBy q_se_X9_bandsBy q_in_X9 q_co_X9_bandsBy ⟨rfl, rfl⟩ (by decide +kernel) ⟨Nat.le_of_ble_eq_true rfl, Nat.le_of_ble_eq_true rfl⟩) hX hH (rfl : gKinds[136]? = _) rfl rfl hl.1 rfl (Nat.le_of_ble_eq_true rfl) dX9_bands_7 ⟨Nat.zero_le _, Nat.zero_le _⟩ (fun H locs hH => ?_)
  refine lv_aload_n hx hb0 dX9_bands_10 rfl (lv_at hl 0 rfl) ?_
  refine lv_aload_n hx hb0 dX9_bands_11 rfl (lv_at hl 0 rfl) ?_
  refine g_getI hx hb0 hts q_ws_X9 hown hX hH (C := RX9) (T := TX9) (N := 19) (k := 136) (i := 7) (rfl : gKinds[136]? = _) rfl (by decide) (hts _ q_fl_X9_103) rfl rfl dX9_bands_12 ?_
  obtain ⟨q15, e15, h⟩ := gBind_some h
  refine g_callVi (k := 136) (T := TX9) (N := 19) (As := [.int (gI (q7 136 7))]) (rest := []) ⟨hx, hb0, hml, hown, hts⟩ (metX9_tells l D G q7 μ (q7 136 7) q15.1 q15.2 e15) (g_cwV (C := RX9) 1 hts q_ml_X9_47 q_im_X9_tells q_se_X9_tells q_in_X9 q_co_X9_tells ⟨rfl, rfl⟩ (by decide +kernel) ⟨Nat.le_of_ble_eq_true rfl, Nat.le_of_ble_eq_true rfl⟩) hX hH (rfl : gKinds[136]? = _) rfl rfl hl.1 rfl (Nat.le_of_ble_eq_true rfl) dX9_bands_15 ⟨Nat.zero_le _, Nat.zero_le _⟩ (fun H locs hH => ?_)
  exact g_iretS hx hb0 hr hH hlocks dX9_bands_18 h
def DX9_row_J40 (q7 : gSt) : Option (Int × gSt) :=
  (DX9_fails q7 (1 : Int)).bind fun q42 => some (q42.1, q42.2)
def DX9_row (σ : gSt) (a1 : Int) (a2 : Int) : Option (Int × gSt) :=
  gAt (0 : Int) 138 ((DX9_bandsBy σ (σ 137 (Int.toNat (0 : Int)))).bind fun q7 => (DX9_in q7 a1 (0 : Int) ((q7 136 7) - (1 : Int))).bind fun q18 => gIf (q18 = (0 : Int)) q18 (0 : Int) ((DX9_row_J40 q7)) (gAt (0 : Int) 138 ((DX9_in q7 a2 (0 : Int) ((q7 137 (Int.toNat (0 : Int))) - (1 : Int))).bind fun q34 => gIf (q34 = (0 : Int)) q34 (0 : Int) ((DX9_row_J40 q7)) (gAt (((20 : Int) * a1) + a2) 480 ((DX9_tells q7 (q7 141 (Int.toNat (((20 : Int) * a1) + a2)))).bind fun q58 => some (q58.1, q58.2))))))
set_option maxHeartbeats 4000000 in
set_option maxRecDepth 100000 in
theorem metX9_row (l : Launch) (D : va_G) (G : gAd) (σ : gSt) (μ : gLg) (a1 : Int) (a2 : Int) (r : Int) (σ' : gSt) (h : DX9_row σ a1 a2 = some (r, σ')) : Met l yX9_row (gWs yX9_row cX9_row 3 (some (Jvm.ClassFile.FieldType.int))) ({ frames := 4, cells := 0, slots := 0, locals := 95 } : Room) (gPc D G [.ref (G.1 136), .int (gI a1), .int (gI a2)] σ μ) (gQi D G r σ' μ) 0 0 (gA G) := by
  refine Met.ofW (cc := cX9_row) (maxL := 3) (ret := (some (Jvm.ClassFile.FieldType.int))) (by decide) rfl ?_
  intro p e s m args below meth c s₁ B hml hv
  obtain ⟨rfl, hP, hX⟩ := hv
  have hx := B.exec
  have hb0 := B.bytes
  have hr := B.returns
  have hts0 := atoms_spec (ws := (gWs yX9_row cX9_row 3 (some (Jvm.ClassFile.FieldType.int)))) B.pre
  have hts : ∀ w ∈ gLW, w.before _ s = true := fun w hw => hts0 w (List.mem_cons_of_mem _ hw)
  have hown : s.vm.findClass RX9 = some m.cls := findClass_of_methodNamed B.named
  have hlocks := B.notSynchronized
  have hH : gH D G s s.heap [] σ μ := ⟨hP, va_S.rf⟩
  have hl := lv_entry ([.ref (G.1 136), .int (gI a1), .int (gI a2)]) (n := 3) (Nat.le_of_ble_eq_true rfl)
  rw [lg_entry_eq]
  generalize (lg_sl ([.ref (G.1 136), .int (gI a1), .int (gI a2)]) ++ List.replicate (3 - (lg_sl ([.ref (G.1 136), .int (gI a1), .int (gI a2)])).length) Slot.unset).toArray = ls at hl ⊢
  have hl : lv_has ls 3 [(0, .ref (G.1 136)), (1, .int (gI a1)), (2, .int (gI a2))] := hl
  unfold DX9_row at h
  refine lv_aload_n hx hb0 dX9_row_0 rfl (lv_at hl 0 rfl) ?_
  refine lv_aload_n hx hb0 dX9_row_1 rfl (lv_at hl 0 rfl) ?_
  refine g_getR hx hb0 hts q_ws_X9 hown hX hH (C := RX9) (T := TX9) (N := 19) (k := 136) (i := 0) (j := 137) (rfl : gKinds[136]? = _) rfl (by decide) (hts _ q_fl_X9_7) rfl rfl dX9_row_2 ?_
  refine lv_iconst (v := gI (0 : Int)) hx hb0 dX9_row_5 (by decide) ?_
  refine g_iald hx hb0 hX hH (k := 137) (rfl : gKinds[137]? = _) (by decide) dX9_row_6 h (fun h => ?_)
  obtain ⟨q7, e7, h⟩ := gBind_some h
  refine g_callVv (k := 136) (T := TX9) (N := 19) (As := [.int (gI (σ 137 (Int.toNat (0 : Int))))]) (rest := []) ⟨hx, hb0, hml, hown, hts⟩ (metX9_bandsBy l D G σ μ (σ 137 (Int.toNat (0 : Int))) q7 e7) (g_cwV (C := RX9) 1 hts q_ml_X9_124 q_im_X9_bandsBy q_se_X9_bandsBy q_in_X9 q_co_X9_bandsBy ⟨rfl, rfl⟩ (by decide +kernel) ⟨Nat.le_of_ble_eq_true rfl, Nat.le_of_ble_eq_true rfl⟩) hX hH (rfl : gKinds[136]? = _) rfl rfl hl.1 rfl (Nat.le_of_ble_eq_true rfl) dX9_row_7 ⟨Nat.zero_le _, Nat.zero_le _⟩ (fun H locs hH => ?_)
  refine lv_iload_n hx hb0 dX9_row_10 rfl (lv_at hl 1 rfl) ?_
  refine lv_iconst (v := gI (0 : Int)) hx hb0 dX9_row_11 (by decide) ?_
  refine lv_aload_n hx hb0 dX9_row_12 rfl (lv_at hl 0 rfl) ?_
  refine g_getI hx hb0 hts q_ws_X9 hown hX hH (C := RX9) (T := TX9) (N := 19) (k := 136) (i := 7) (rfl : gKinds[136]? = _) rfl (by decide) (hts _ q_fl_X9_103) rfl rfl dX9_row_13 ?_
  refine lv_iconst (v := gI (1 : Int)) hx hb0 dX9_row_16 (by decide) ?_
  refine g_isub hx hb0 dX9_row_17 ?_
  obtain ⟨q18, e18, h⟩ := gBind_some h
  refine g_callSi (As := [.int (gI a1), .int (gI (0 : Int)), .int (gI ((q7 136 7) - (1 : Int)))]) (rest := []) ⟨hx, hb0, hml, hown, hts⟩ (metX9_in l D G q7 μ a1 (0 : Int) ((q7 136 7) - (1 : Int)) q18 e18) (g_cwS 3 hts q_ml_X9_51 q_st_X9_in q_in_X9 q_co_X9_in ⟨rfl, rfl⟩ (by decide +kernel) ⟨Nat.le_of_ble_eq_true rfl, Nat.le_of_ble_eq_true rfl⟩) hX hH rfl hl.1 rfl (Nat.le_of_ble_eq_true rfl) dX9_row_18 ⟨Nat.zero_le _, Nat.zero_le _⟩ (fun H locs hH => ?_)
  have hJ40 : ∀  (H : Heap) (locs : List Loc) (ls : Array Slot), gH D G s H locs q7 μ → lv_has ls 3 [(0, .ref (G.1 136))] → (DX9_row_J40 q7) = some (r, σ') → W p l e (headSpec (gWs yX9_row cX9_row 3 (some (Jvm.ClassFile.FieldType.int))) ({ frames := 4, cells := 0, slots := 0, locals := 95 } : Room)).room s m ([.ref (G.1 136), .int (gI a1), .int (gI a2)] : List Value).toArray below meth c H locs 0 0 (MQ below (gQi D G r σ' μ) ([.ref (G.1 136), .int (gI a1), .int (gI a2)] : List Value).toArray s 0 0 (gA G)) (F0 m 40 ls []) := by
    intro H locs ls hH hl h
    unfold DX9_row_J40 at h
    refine lv_aload_n hx hb0 dX9_row_40 rfl (lv_at hl 0 rfl) ?_
    refine lv_iconst (v := gI (1 : Int)) hx hb0 dX9_row_41 (by decide) ?_
    obtain ⟨q42, e42, h⟩ := gBind_some h
    refine g_callVi (k := 136) (T := TX9) (N := 19) (As := [.int (gI (1 : Int))]) (rest := []) ⟨hx, hb0, hml, hown, hts⟩ (metX9_fails l D G q7 μ (1 : Int) q42.1 q42.2 e42) (g_cwV (C := RX9) 1 hts q_ml_X9_63 q_im_X9_fails q_se_X9_fails q_in_X9 q_co_X9_fails ⟨rfl, rfl⟩ (by decide +kernel) ⟨Nat.le_of_ble_eq_true rfl, Nat.le_of_ble_eq_true rfl⟩) hX hH (rfl : gKinds[136]? = _) rfl rfl hl.1 rfl (Nat.le_of_ble_eq_true rfl) dX9_row_42 ⟨Nat.zero_le _, Nat.zero_le _⟩ (fun H locs hH => ?_)
    exact g_iretS hx hb0 hr hH hlocks dX9_row_45 h
  refine g_if_eq (tgt := 40) hx hb0 dX9_row_21 (by decide) h (fun h => ?_) (fun h => ?_)
  · exact hJ40  _ _ _ hH (lv_sub hl [0] rfl) h
  · refine lv_iload_n hx hb0 dX9_row_24 rfl (lv_at hl 2 rfl) ?_
    refine lv_iconst (v := gI (0 : Int)) hx hb0 dX9_row_25 (by decide) ?_
    refine lv_aload_n hx hb0 dX9_row_26 rfl (lv_at hl 0 rfl) ?_
    refine g_getR hx hb0 hts q_ws_X9 hown hX hH (C := RX9) (T := TX9) (N := 19) (k := 136) (i := 0) (j := 137) (rfl : gKinds[136]? = _) rfl (by decide) (hts _ q_fl_X9_7) rfl rfl dX9_row_27 ?_
    refine lv_iconst (v := gI (0 : Int)) hx hb0 dX9_row_30 (by decide) ?_
    refine g_iald hx hb0 hX hH (k := 137) (rfl : gKinds[137]? = _) (by decide) dX9_row_31 h (fun h => ?_)
    refine lv_iconst (v := gI (1 : Int)) hx hb0 dX9_row_32 (by decide) ?_
    refine g_isub hx hb0 dX9_row_33 ?_
    obtain ⟨q34, e34, h⟩ := gBind_some h
    refine g_callSi (As := [.int (gI a2), .int (gI (0 : Int)), .int (gI ((q7 137 (Int.toNat (0 : Int))) - (1 : Int)))]) (rest := []) ⟨hx, hb0, hml, hown, hts⟩ (metX9_in l D G q7 μ a2 (0 : Int) ((q7 137 (Int.toNat (0 : Int))) - (1 : Int)) q34 e34) (g_cwS 3 hts q_ml_X9_51 q_st_X9_in q_in_X9 q_co_X9_in ⟨rfl, rfl⟩ (by decide +kernel) ⟨Nat.le_of_ble_eq_true rfl, Nat.le_of_ble_eq_true rfl⟩) hX hH rfl hl.1 rfl (Nat.le_of_ble_eq_true rfl) dX9_row_34 ⟨Nat.zero_le _, Nat.zero_le _⟩ (fun H locs hH => ?_)
    refine g_if_ne (tgt := 46) hx hb0 dX9_row_37 (by decide) h (fun h => ?_) (fun h => ?_)
    · refine lv_aload_n hx hb0 dX9_row_46 rfl (lv_at hl 0 rfl) ?_
      refine lv_aload_n hx hb0 dX9_row_47 rfl (lv_at hl 0 rfl) ?_
      refine g_getR hx hb0 hts q_ws_X9 hown hX hH (C := RX9) (T := TX9) (N := 19) (k := 136) (i := 9) (j := 141) (rfl : gKinds[136]? = _) rfl (by decide) (hts _ q_fl_X9_22) rfl rfl dX9_row_48 ?_
      refine lv_bipush (v := gI (20 : Int)) hx hb0 dX9_row_51 (by decide) ?_
      refine lv_iload_n hx hb0 dX9_row_53 rfl (lv_at hl 1 rfl) ?_
      refine g_imul hx hb0 dX9_row_54 ?_
      refine lv_iload_n hx hb0 dX9_row_55 rfl (lv_at hl 2 rfl) ?_
      refine g_iadd hx hb0 dX9_row_56 ?_
      refine g_iald hx hb0 hX hH (k := 141) (rfl : gKinds[141]? = _) (by decide) dX9_row_57 h (fun h => ?_)
      obtain ⟨q58, e58, h⟩ := gBind_some h
      refine g_callVi (k := 136) (T := TX9) (N := 19) (As := [.int (gI (q7 141 (Int.toNat (((20 : Int) * a1) + a2))))]) (rest := []) ⟨hx, hb0, hml, hown, hts⟩ (metX9_tells l D G q7 μ (q7 141 (Int.toNat (((20 : Int) * a1) + a2))) q58.1 q58.2 e58) (g_cwV (C := RX9) 1 hts q_ml_X9_47 q_im_X9_tells q_se_X9_tells q_in_X9 q_co_X9_tells ⟨rfl, rfl⟩ (by decide +kernel) ⟨Nat.le_of_ble_eq_true rfl, Nat.le_of_ble_eq_true rfl⟩) hX hH (rfl : gKinds[136]? = _) rfl rfl hl.1 rfl (Nat.le_of_ble_eq_true rfl) dX9_row_58 ⟨Nat.zero_le _, Nat.zero_le _⟩ (fun H locs hH => ?_)
      exact g_iretS hx hb0 hr hH hlocks dX9_row_61 h
    · exact hJ40  _ _ _ hH (lv_sub hl [0] rfl) h
def DX9_sheets (σ : gSt) : Option (Int × gSt) :=
  (DX9_prints σ).bind fun q1 => (DX9_tells q1 (q1 136 12)).bind fun q9 => some (q9.1, q9.2)
set_option maxHeartbeats 4000000 in
set_option maxRecDepth 100000 in
theorem metX9_sheets (l : Launch) (D : va_G) (G : gAd) (σ : gSt) (μ : gLg) (r : Int) (σ' : gSt) (h : DX9_sheets σ = some (r, σ')) : Met l yX9_sheets (gWs yX9_sheets cX9_sheets 1 (some (Jvm.ClassFile.FieldType.int))) ({ frames := 6, cells := 0, slots := 0, locals := 139 } : Room) (gPc D G [.ref (G.1 136)] σ μ) (gQi D G r σ' μ) 0 0 (gA G) := by
  refine Met.ofW (cc := cX9_sheets) (maxL := 1) (ret := (some (Jvm.ClassFile.FieldType.int))) (by decide) rfl ?_
  intro p e s m args below meth c s₁ B hml hv
  obtain ⟨rfl, hP, hX⟩ := hv
  have hx := B.exec
  have hb0 := B.bytes
  have hr := B.returns
  have hts0 := atoms_spec (ws := (gWs yX9_sheets cX9_sheets 1 (some (Jvm.ClassFile.FieldType.int)))) B.pre
  have hts : ∀ w ∈ gLW, w.before _ s = true := fun w hw => hts0 w (List.mem_cons_of_mem _ hw)
  have hown : s.vm.findClass RX9 = some m.cls := findClass_of_methodNamed B.named
  have hlocks := B.notSynchronized
  have hH : gH D G s s.heap [] σ μ := ⟨hP, va_S.rf⟩
  have hl := lv_entry ([.ref (G.1 136)]) (n := 1) (Nat.le_of_ble_eq_true rfl)
  rw [lg_entry_eq]
  generalize (lg_sl ([.ref (G.1 136)]) ++ List.replicate (1 - (lg_sl ([.ref (G.1 136)])).length) Slot.unset).toArray = ls at hl ⊢
  have hl : lv_has ls 1 [(0, .ref (G.1 136))] := hl
  unfold DX9_sheets at h
  refine lv_aload_n hx hb0 dX9_sheets_0 rfl (lv_at hl 0 rfl) ?_
  obtain ⟨q1, e1, h⟩ := gBind_some h
  refine g_callVv (k := 136) (T := TX9) (N := 19) (As := []) (rest := []) ⟨hx, hb0, hml, hown, hts⟩ (metX9_prints l D G σ μ q1 e1) (g_cwV (C := RX9) 0 hts q_ml_X9_155 q_im_X9_prints q_se_X9_prints q_in_X9 q_co_X9_prints ⟨rfl, rfl⟩ (by decide +kernel) ⟨Nat.le_of_ble_eq_true rfl, Nat.le_of_ble_eq_true rfl⟩) hX hH (rfl : gKinds[136]? = _) rfl rfl hl.1 rfl (Nat.le_of_ble_eq_true rfl) dX9_sheets_1 ⟨Nat.zero_le _, Nat.zero_le _⟩ (fun H locs hH => ?_)
  refine lv_aload_n hx hb0 dX9_sheets_4 rfl (lv_at hl 0 rfl) ?_
  refine lv_aload_n hx hb0 dX9_sheets_5 rfl (lv_at hl 0 rfl) ?_
  refine g_getI hx hb0 hts q_ws_X9 hown hX hH (C := RX9) (T := TX9) (N := 19) (k := 136) (i := 12) (rfl : gKinds[136]? = _) rfl (by decide) (hts _ q_fl_X9_130) rfl rfl dX9_sheets_6 ?_
  obtain ⟨q9, e9, h⟩ := gBind_some h
  refine g_callVi (k := 136) (T := TX9) (N := 19) (As := [.int (gI (q1 136 12))]) (rest := []) ⟨hx, hb0, hml, hown, hts⟩ (metX9_tells l D G q1 μ (q1 136 12) q9.1 q9.2 e9) (g_cwV (C := RX9) 1 hts q_ml_X9_47 q_im_X9_tells q_se_X9_tells q_in_X9 q_co_X9_tells ⟨rfl, rfl⟩ (by decide +kernel) ⟨Nat.le_of_ble_eq_true rfl, Nat.le_of_ble_eq_true rfl⟩) hX hH (rfl : gKinds[136]? = _) rfl rfl hl.1 rfl (Nat.le_of_ble_eq_true rfl) dX9_sheets_9 ⟨Nat.zero_le _, Nat.zero_le _⟩ (fun H locs hH => ?_)
  exact g_iretS hx hb0 hr hH hlocks dX9_sheets_12 h
def DX9_partsOn_J82 (R4 : Int → Int → Option (Int)) (x3_4 : Int) (x2_4 : Int) (t0_82 : Int) : Option (Int) :=
  (R4 (x3_4 + (1 : Int)) (x2_4 + t0_82))
def DX9_partsOn_J81 (R4 : Int → Int → Option (Int)) (x3_4 : Int) (x2_4 : Int) : Option (Int) :=
  (DX9_partsOn_J82 R4 x3_4 x2_4 (0 : Int))
def DX9_partsOn_L4 (σ : gSt) (a1 : Int) : Nat → Int → Int → Option (Int)
  | 0, _, _ => none
  | f4 + 1, x3_4, x2_4 => gAt (4 : Int) 138 (gIf (x3_4 < (σ 137 (Int.toNat (4 : Int)))) x3_4 (σ 137 (Int.toNat (4 : Int))) (gAt a1 1248 (gDv (σ 145 (Int.toNat a1)) (52 : Int) (gAt x3_4 24 (gAt a1 1248 (gDv (σ 145 (Int.toNat a1)) (52 : Int) (gIf ((σ 142 (Int.toNat x3_4)) = ((σ 145 (Int.toNat a1)) / (52 : Int))) (σ 142 (Int.toNat x3_4)) ((σ 145 (Int.toNat a1)) / (52 : Int)) ((DX9_of σ x3_4 (1 : Int)).bind fun q49 => gAt (1 : Int) 138 (gDv q49 (σ 137 (Int.toNat (1 : Int))) ((DX9_lastDay σ x3_4).bind fun q61 => gAt (1 : Int) 138 (gDv q61 (σ 137 (Int.toNat (1 : Int))) ((DX9_in σ ((σ 145 (Int.toNat a1)) % (52 : Int)) (q49 / (σ 137 (Int.toNat (1 : Int)))) (q61 / (σ 137 (Int.toNat (1 : Int))))).bind fun q71 => gIf (q71 = (0 : Int)) q71 (0 : Int) ((DX9_partsOn_J81 (DX9_partsOn_L4 σ a1 f4) x3_4 x2_4)) ((DX9_partsOn_J82 (DX9_partsOn_L4 σ a1 f4) x3_4 x2_4 (1 : Int)))))))) ((DX9_partsOn_J81 (DX9_partsOn_L4 σ a1 f4) x3_4 x2_4)))))))) (some x2_4))
def DX9_partsOn (σ : gSt) (a1 : Int) : Option (Int) :=
  (DX9_partsOn_L4 σ a1 gFuel (0 : Int) (0 : Int))
set_option maxHeartbeats 4000000 in
set_option maxRecDepth 100000 in
theorem metX9_partsOn (l : Launch) (D : va_G) (G : gAd) (σ : gSt) (μ : gLg) (a1 : Int) (r : Int) (h : DX9_partsOn σ a1 = some r) : Met l yX9_partsOn (gWs yX9_partsOn cX9_partsOn 5 (some (Jvm.ClassFile.FieldType.int))) ({ frames := 2, cells := 0, slots := 0, locals := 43 } : Room) (gPc D G [.ref (G.1 136), .int (gI a1)] σ μ) (gQi D G r σ μ) 0 0 (gA G) := by
  refine Met.ofW (cc := cX9_partsOn) (maxL := 5) (ret := (some (Jvm.ClassFile.FieldType.int))) (by decide) rfl ?_
  intro p e s m args below meth c s₁ B hml hv
  obtain ⟨rfl, hP, hX⟩ := hv
  have hx := B.exec
  have hb0 := B.bytes
  have hr := B.returns
  have hts0 := atoms_spec (ws := (gWs yX9_partsOn cX9_partsOn 5 (some (Jvm.ClassFile.FieldType.int)))) B.pre
  have hts : ∀ w ∈ gLW, w.before _ s = true := fun w hw => hts0 w (List.mem_cons_of_mem _ hw)
  have hown : s.vm.findClass RX9 = some m.cls := findClass_of_methodNamed B.named
  have hlocks := B.notSynchronized
  have hH : gH D G s s.heap [] σ μ := ⟨hP, va_S.rf⟩
  have hl := lv_entry ([.ref (G.1 136), .int (gI a1)]) (n := 5) (Nat.le_of_ble_eq_true rfl)
  rw [lg_entry_eq]
  generalize (lg_sl ([.ref (G.1 136), .int (gI a1)]) ++ List.replicate (5 - (lg_sl ([.ref (G.1 136), .int (gI a1)])).length) Slot.unset).toArray = ls at hl ⊢
  have hl : lv_has ls 5 [(0, .ref (G.1 136)), (1, .int (gI a1))] := hl
  unfold DX9_partsOn at h
  refine lv_iconst (v := gI (0 : Int)) hx hb0 dX9_partsOn_0 (by decide) ?_
  refine lv_istore_n (lv' := [(2, .int (gI (0 : Int))), (0, .ref (G.1 136)), (1, .int (gI a1))]) hx hb0 dX9_partsOn_1 rfl hl (by decide) rfl (fun ls hl => ?_)
  refine lv_iconst (v := gI (0 : Int)) hx hb0 dX9_partsOn_2 (by decide) ?_
  refine lv_istore_n (lv' := [(3, .int (gI (0 : Int))), (2, .int (gI (0 : Int))), (0, .ref (G.1 136)), (1, .int (gI a1))]) hx hb0 dX9_partsOn_3 rfl hl (by decide) rfl (fun ls hl => ?_)
  have hL4 : ∀ (f4 : Nat) (x3_4 : Int) (x2_4 : Int) (H : Heap) (locs : List Loc) (ls : Array Slot), gH D G s H locs σ μ → lv_has ls 5 [(3, .int (gI x3_4)), (2, .int (gI x2_4)), (0, .ref (G.1 136)), (1, .int (gI a1))] → (DX9_partsOn_L4 σ a1 f4 x3_4 x2_4) = some r → W p l e (headSpec (gWs yX9_partsOn cX9_partsOn 5 (some (Jvm.ClassFile.FieldType.int))) ({ frames := 2, cells := 0, slots := 0, locals := 43 } : Room)).room s m ([.ref (G.1 136), .int (gI a1)] : List Value).toArray below meth c H locs 0 0 (MQ below (gQi D G r σ μ) ([.ref (G.1 136), .int (gI a1)] : List Value).toArray s 0 0 (gA G)) (F0 m 4 ls []) := by
    intro f4
    induction f4 with
    | zero => intro x3_4 x2_4 H locs ls hH hl h; cases h
    | succ f4 ih4 =>
      intro x3_4 x2_4 H locs ls hH hl h
      unfold DX9_partsOn_L4 at h
      refine lv_iload_n hx hb0 dX9_partsOn_4 rfl (lv_at hl 0 rfl) ?_
      refine lv_aload_n hx hb0 dX9_partsOn_5 rfl (lv_at hl 2 rfl) ?_
      refine g_getR hx hb0 hts q_ws_X9 hown hX hH (C := RX9) (T := TX9) (N := 19) (k := 136) (i := 0) (j := 137) (rfl : gKinds[136]? = _) rfl (by decide) (hts _ q_fl_X9_7) rfl rfl dX9_partsOn_6 ?_
      refine lv_iconst (v := gI (4 : Int)) hx hb0 dX9_partsOn_9 (by decide) ?_
      refine g_iald hx hb0 hX hH (k := 137) (rfl : gKinds[137]? = _) (by decide) dX9_partsOn_10 h (fun h => ?_)
      refine g_icmp_ge (tgt := 90) hx hb0 dX9_partsOn_11 (by decide) h (fun h => ?_) (fun h => ?_)
      · refine lv_iload_n hx hb0 dX9_partsOn_90 rfl (lv_at hl 1 rfl) ?_
        exact g_iretP hx hb0 hr hH hlocks dX9_partsOn_91 h
      · refine lv_aload_n hx hb0 dX9_partsOn_14 rfl (lv_at hl 2 rfl) ?_
        refine g_getR hx hb0 hts q_ws_X9 hown hX hH (C := RX9) (T := TX9) (N := 19) (k := 136) (i := 14) (j := 145) (rfl : gKinds[136]? = _) rfl (by decide) (hts _ q_fl_X9_34) rfl rfl dX9_partsOn_15 ?_
        refine lv_iload_n hx hb0 dX9_partsOn_18 rfl (lv_at hl 3 rfl) ?_
        refine g_iald hx hb0 hX hH (k := 145) (rfl : gKinds[145]? = _) (by decide) dX9_partsOn_19 h (fun h => ?_)
        refine lv_bipush (v := gI (52 : Int)) hx hb0 dX9_partsOn_20 (by decide) ?_
        refine g_irem hx hb0 dX9_partsOn_22 h (fun h => ?_)
        refine lv_istore (lv' := [(4, .int (gI ((σ 145 (Int.toNat a1)) % (52 : Int)))), (3, .int (gI x3_4)), (2, .int (gI x2_4)), (0, .ref (G.1 136)), (1, .int (gI a1))]) hx hb0 dX9_partsOn_23 hl (by decide) rfl (fun ls hl => ?_)
        refine lv_iload_n hx hb0 dX9_partsOn_25 rfl (lv_at hl 2 rfl) ?_
        refine lv_aload_n hx hb0 dX9_partsOn_26 rfl (lv_at hl 3 rfl) ?_
        refine g_getR hx hb0 hts q_ws_X9 hown hX hH (C := RX9) (T := TX9) (N := 19) (k := 136) (i := 10) (j := 142) (rfl : gKinds[136]? = _) rfl (by decide) (hts _ q_fl_X9_25) rfl rfl dX9_partsOn_27 ?_
        refine lv_iload_n hx hb0 dX9_partsOn_30 rfl (lv_at hl 1 rfl) ?_
        refine g_iald hx hb0 hX hH (k := 142) (rfl : gKinds[142]? = _) (by decide) dX9_partsOn_31 h (fun h => ?_)
        refine lv_aload_n hx hb0 dX9_partsOn_32 rfl (lv_at hl 3 rfl) ?_
        refine g_getR hx hb0 hts q_ws_X9 hown hX hH (C := RX9) (T := TX9) (N := 19) (k := 136) (i := 14) (j := 145) (rfl : gKinds[136]? = _) rfl (by decide) (hts _ q_fl_X9_34) rfl rfl dX9_partsOn_33 ?_
        refine lv_iload_n hx hb0 dX9_partsOn_36 rfl (lv_at hl 4 rfl) ?_
        refine g_iald hx hb0 hX hH (k := 145) (rfl : gKinds[145]? = _) (by decide) dX9_partsOn_37 h (fun h => ?_)
        refine lv_bipush (v := gI (52 : Int)) hx hb0 dX9_partsOn_38 (by decide) ?_
        refine g_idiv hx hb0 dX9_partsOn_40 h (fun h => ?_)
        have hJ82 : ∀ (t0_82 : Int) (H : Heap) (locs : List Loc) (ls : Array Slot), gH D G s H locs σ μ → lv_has ls 5 [(3, .int (gI x3_4)), (0, .ref (G.1 136)), (1, .int (gI a1))] → (DX9_partsOn_J82 (DX9_partsOn_L4 σ a1 f4) x3_4 x2_4 t0_82) = some r → W p l e (headSpec (gWs yX9_partsOn cX9_partsOn 5 (some (Jvm.ClassFile.FieldType.int))) ({ frames := 2, cells := 0, slots := 0, locals := 43 } : Room)).room s m ([.ref (G.1 136), .int (gI a1)] : List Value).toArray below meth c H locs 0 0 (MQ below (gQi D G r σ μ) ([.ref (G.1 136), .int (gI a1)] : List Value).toArray s 0 0 (gA G)) (F0 m 82 ls [.int (gI t0_82), .int (gI x2_4)]) := by
          intro t0_82 H locs ls hH hl h
          unfold DX9_partsOn_J82 at h
          refine g_iadd hx hb0 dX9_partsOn_82 ?_
          refine lv_istore_n (lv' := [(2, .int (gI (x2_4 + t0_82))), (3, .int (gI x3_4)), (0, .ref (G.1 136)), (1, .int (gI a1))]) hx hb0 dX9_partsOn_83 rfl hl (by decide) rfl (fun ls hl => ?_)
          refine g_iinc (k := 1) (n := (1 : Int)) (lv' := [(3, .int (gI (x3_4 + (1 : Int)))), (2, .int (gI (x2_4 + t0_82))), (0, .ref (G.1 136)), (1, .int (gI a1))]) hx hb0 dX9_partsOn_84 hl rfl (by decide) rfl (fun ls hl => ?_)
          refine lv_goto (tgt := 4) hx hb0 dX9_partsOn_87 (by decide) ?_
          exact ih4 _ _ _ _ _ hH (lv_sub hl [0, 1, 2, 3] rfl) h
        have hJ81 : ∀  (H : Heap) (locs : List Loc) (ls : Array Slot), gH D G s H locs σ μ → lv_has ls 5 [(3, .int (gI x3_4)), (0, .ref (G.1 136)), (1, .int (gI a1))] → (DX9_partsOn_J81 (DX9_partsOn_L4 σ a1 f4) x3_4 x2_4) = some r → W p l e (headSpec (gWs yX9_partsOn cX9_partsOn 5 (some (Jvm.ClassFile.FieldType.int))) ({ frames := 2, cells := 0, slots := 0, locals := 43 } : Room)).room s m ([.ref (G.1 136), .int (gI a1)] : List Value).toArray below meth c H locs 0 0 (MQ below (gQi D G r σ μ) ([.ref (G.1 136), .int (gI a1)] : List Value).toArray s 0 0 (gA G)) (F0 m 81 ls [.int (gI x2_4)]) := by
          intro H locs ls hH hl h
          unfold DX9_partsOn_J81 at h
          refine lv_iconst (v := gI (0 : Int)) hx hb0 dX9_partsOn_81 (by decide) ?_
          exact hJ82 _ _ _ _ hH (lv_sub hl [0, 1, 2] rfl) h
        refine g_icmp_ne (tgt := 81) hx hb0 dX9_partsOn_41 (by decide) h (fun h => ?_) (fun h => ?_)
        · exact hJ81  _ _ _ hH (lv_sub hl [1, 3, 4] rfl) h
        · refine lv_iload hx hb0 dX9_partsOn_44 (lv_at hl 0 rfl) ?_
          refine lv_aload_n hx hb0 dX9_partsOn_46 rfl (lv_at hl 3 rfl) ?_
          refine lv_iload_n hx hb0 dX9_partsOn_47 rfl (lv_at hl 1 rfl) ?_
          refine lv_iconst (v := gI (1 : Int)) hx hb0 dX9_partsOn_48 (by decide) ?_
          obtain ⟨q49, e49, h⟩ := gBind_some h
          refine g_callVi (k := 136) (T := TX9) (N := 19) (As := [.int (gI x3_4), .int (gI (1 : Int))]) (rest := [.int (gI ((σ 145 (Int.toNat a1)) % (52 : Int))), .int (gI x2_4)]) ⟨hx, hb0, hml, hown, hts⟩ (metX9_of l D G σ μ x3_4 (1 : Int) q49 e49) (g_cwV (C := RX9) 2 hts q_ml_X9_55 q_im_X9_of q_se_X9_of q_in_X9 q_co_X9_of ⟨rfl, rfl⟩ (by decide +kernel) ⟨Nat.le_of_ble_eq_true rfl, Nat.le_of_ble_eq_true rfl⟩) hX hH (rfl : gKinds[136]? = _) rfl rfl hl.1 rfl (Nat.le_of_ble_eq_true rfl) dX9_partsOn_49 ⟨Nat.zero_le _, Nat.zero_le _⟩ (fun H locs hH => ?_)
          refine lv_aload_n hx hb0 dX9_partsOn_52 rfl (lv_at hl 3 rfl) ?_
          refine g_getR hx hb0 hts q_ws_X9 hown hX hH (C := RX9) (T := TX9) (N := 19) (k := 136) (i := 0) (j := 137) (rfl : gKinds[136]? = _) rfl (by decide) (hts _ q_fl_X9_7) rfl rfl dX9_partsOn_53 ?_
          refine lv_iconst (v := gI (1 : Int)) hx hb0 dX9_partsOn_56 (by decide) ?_
          refine g_iald hx hb0 hX hH (k := 137) (rfl : gKinds[137]? = _) (by decide) dX9_partsOn_57 h (fun h => ?_)
          refine g_idiv hx hb0 dX9_partsOn_58 h (fun h => ?_)
          refine lv_aload_n hx hb0 dX9_partsOn_59 rfl (lv_at hl 3 rfl) ?_
          refine lv_iload_n hx hb0 dX9_partsOn_60 rfl (lv_at hl 1 rfl) ?_
          obtain ⟨q61, e61, h⟩ := gBind_some h
          refine g_callVi (k := 136) (T := TX9) (N := 19) (As := [.int (gI x3_4)]) (rest := [.int (gI (q49 / (σ 137 (Int.toNat (1 : Int))))), .int (gI ((σ 145 (Int.toNat a1)) % (52 : Int))), .int (gI x2_4)]) ⟨hx, hb0, hml, hown, hts⟩ (metX9_lastDay l D G σ μ x3_4 q61 e61) (g_cwV (C := RX9) 1 hts q_ml_X9_127 q_im_X9_lastDay q_se_X9_lastDay q_in_X9 q_co_X9_lastDay ⟨rfl, rfl⟩ (by decide +kernel) ⟨Nat.le_of_ble_eq_true rfl, Nat.le_of_ble_eq_true rfl⟩) hX hH (rfl : gKinds[136]? = _) rfl rfl hl.1 rfl (Nat.le_of_ble_eq_true rfl) dX9_partsOn_61 ⟨Nat.zero_le _, Nat.zero_le _⟩ (fun H locs hH => ?_)
          refine lv_aload_n hx hb0 dX9_partsOn_64 rfl (lv_at hl 3 rfl) ?_
          refine g_getR hx hb0 hts q_ws_X9 hown hX hH (C := RX9) (T := TX9) (N := 19) (k := 136) (i := 0) (j := 137) (rfl : gKinds[136]? = _) rfl (by decide) (hts _ q_fl_X9_7) rfl rfl dX9_partsOn_65 ?_
          refine lv_iconst (v := gI (1 : Int)) hx hb0 dX9_partsOn_68 (by decide) ?_
          refine g_iald hx hb0 hX hH (k := 137) (rfl : gKinds[137]? = _) (by decide) dX9_partsOn_69 h (fun h => ?_)
          refine g_idiv hx hb0 dX9_partsOn_70 h (fun h => ?_)
          obtain ⟨q71, e71, h⟩ := gBind_some h
          refine g_callSi (As := [.int (gI ((σ 145 (Int.toNat a1)) % (52 : Int))), .int (gI (q49 / (σ 137 (Int.toNat (1 : Int))))), .int (gI (q61 / (σ 137 (Int.toNat (1 : Int)))))]) (rest := [.int (gI x2_4)]) ⟨hx, hb0, hml, hown, hts⟩ (metX9_in l D G σ μ ((σ 145 (Int.toNat a1)) % (52 : Int)) (q49 / (σ 137 (Int.toNat (1 : Int)))) (q61 / (σ 137 (Int.toNat (1 : Int)))) q71 e71) (g_cwS 3 hts q_ml_X9_51 q_st_X9_in q_in_X9 q_co_X9_in ⟨rfl, rfl⟩ (by decide +kernel) ⟨Nat.le_of_ble_eq_true rfl, Nat.le_of_ble_eq_true rfl⟩) hX hH rfl hl.1 rfl (Nat.le_of_ble_eq_true rfl) dX9_partsOn_71 ⟨Nat.zero_le _, Nat.zero_le _⟩ (fun H locs hH => ?_)
          refine g_if_eq (tgt := 81) hx hb0 dX9_partsOn_74 (by decide) h (fun h => ?_) (fun h => ?_)
          · exact hJ81  _ _ _ hH (lv_sub hl [1, 3, 4] rfl) h
          · refine lv_iconst (v := gI (1 : Int)) hx hb0 dX9_partsOn_77 (by decide) ?_
            refine lv_goto (tgt := 82) hx hb0 dX9_partsOn_78 (by decide) ?_
            exact hJ82 _ _ _ _ hH (lv_sub hl [1, 3, 4] rfl) h
  exact hL4 gFuel _ _ _ _ _ hH (lv_sub hl [0, 1, 2, 3] rfl) h
def DX9_arrowsOn_J83 (R5 : Int → Int → Option (Int)) (x4_5 : Int) (x3_5 : Int) (t0_83 : Int) : Option (Int) :=
  (R5 (x4_5 + (1 : Int)) (x3_5 + t0_83))
def DX9_arrowsOn_J82 (R5 : Int → Int → Option (Int)) (x4_5 : Int) (x3_5 : Int) : Option (Int) :=
  (DX9_arrowsOn_J83 R5 x4_5 x3_5 (0 : Int))
def DX9_arrowsOn_J54 (σ : gSt) (a2 : Int) (R5 : Int → Int → Option (Int)) (x4_5 : Int) (x3_5 : Int) (t0_54 : Int) : Option (Int) :=
  gIf (t0_54 = (0 : Int)) t0_54 (0 : Int) ((DX9_arrowsOn_J82 R5 x4_5 x3_5)) (gAt (1 : Int) 138 ((DX9_isExit σ x4_5 (σ 137 (Int.toNat (1 : Int)))).bind fun q71 => gIf (q71 = a2) q71 a2 ((DX9_arrowsOn_J83 R5 x4_5 x3_5 (1 : Int))) ((DX9_arrowsOn_J82 R5 x4_5 x3_5))))
def DX9_arrowsOn_J49 (σ : gSt) (a2 : Int) (R5 : Int → Int → Option (Int)) (x4_5 : Int) (x3_5 : Int) : Option (Int) :=
  (DX9_arrowsOn_J54 σ a2 R5 x4_5 x3_5 (1 : Int))
def DX9_arrowsOn_L5 (σ : gSt) (a1 : Int) (a2 : Int) : Nat → Int → Int → Option (Int)
  | 0, _, _ => none
  | f5 + 1, x4_5, x3_5 => gAt (77 : Int) 138 (gIf (x4_5 < (σ 137 (Int.toNat (77 : Int)))) x4_5 (σ 137 (Int.toNat (77 : Int))) (gAt (1 : Int) 138 ((DX9_leaves σ x4_5 (σ 137 (Int.toNat (1 : Int)))).bind fun q26 => gIf (q26 = a1) q26 a1 ((DX9_arrowsOn_J49 σ a2 (DX9_arrowsOn_L5 σ a1 a2 f5) x4_5 x3_5)) (gAt (1 : Int) 138 ((DX9_arrives σ x4_5 (σ 137 (Int.toNat (1 : Int)))).bind fun q42 => gIf (q42 = a1) q42 a1 ((DX9_arrowsOn_J49 σ a2 (DX9_arrowsOn_L5 σ a1 a2 f5) x4_5 x3_5)) ((DX9_arrowsOn_J54 σ a2 (DX9_arrowsOn_L5 σ a1 a2 f5) x4_5 x3_5 (0 : Int))))))) (some x3_5))
def DX9_arrowsOn (σ : gSt) (a1 : Int) (a2 : Int) : Option (Int) :=
  (DX9_arrowsOn_L5 σ a1 a2 gFuel (0 : Int) (0 : Int))
set_option maxHeartbeats 4000000 in
set_option maxRecDepth 100000 in
theorem metX9_arrowsOn (l : Launch) (D : va_G) (G : gAd) (σ : gSt) (μ : gLg) (a1 : Int) (a2 : Int) (r : Int) (h : DX9_arrowsOn σ a1 a2 = some r) : Met l yX9_arrowsOn (gWs yX9_arrowsOn cX9_arrowsOn 6 (some (Jvm.ClassFile.FieldType.int))) ({ frames := 4, cells := 0, slots := 0, locals := 87 } : Room) (gPc D G [.ref (G.1 136), .int (gI a1), .int (gI a2)] σ μ) (gQi D G r σ μ) 0 0 (gA G) := by
  refine Met.ofW (cc := cX9_arrowsOn) (maxL := 6) (ret := (some (Jvm.ClassFile.FieldType.int))) (by decide) rfl ?_
  intro p e s m args below meth c s₁ B hml hv
  obtain ⟨rfl, hP, hX⟩ := hv
  have hx := B.exec
  have hb0 := B.bytes
  have hr := B.returns
  have hts0 := atoms_spec (ws := (gWs yX9_arrowsOn cX9_arrowsOn 6 (some (Jvm.ClassFile.FieldType.int)))) B.pre
  have hts : ∀ w ∈ gLW, w.before _ s = true := fun w hw => hts0 w (List.mem_cons_of_mem _ hw)
  have hown : s.vm.findClass RX9 = some m.cls := findClass_of_methodNamed B.named
  have hlocks := B.notSynchronized
  have hH : gH D G s s.heap [] σ μ := ⟨hP, va_S.rf⟩
  have hl := lv_entry ([.ref (G.1 136), .int (gI a1), .int (gI a2)]) (n := 6) (Nat.le_of_ble_eq_true rfl)
  rw [lg_entry_eq]
  generalize (lg_sl ([.ref (G.1 136), .int (gI a1), .int (gI a2)]) ++ List.replicate (6 - (lg_sl ([.ref (G.1 136), .int (gI a1), .int (gI a2)])).length) Slot.unset).toArray = ls at hl ⊢
  have hl : lv_has ls 6 [(0, .ref (G.1 136)), (1, .int (gI a1)), (2, .int (gI a2))] := hl
  unfold DX9_arrowsOn at h
  refine lv_iconst (v := gI (0 : Int)) hx hb0 dX9_arrowsOn_0 (by decide) ?_
  refine lv_istore_n (lv' := [(3, .int (gI (0 : Int))), (0, .ref (G.1 136)), (1, .int (gI a1)), (2, .int (gI a2))]) hx hb0 dX9_arrowsOn_1 rfl hl (by decide) rfl (fun ls hl => ?_)
  refine lv_iconst (v := gI (0 : Int)) hx hb0 dX9_arrowsOn_2 (by decide) ?_
  refine lv_istore (lv' := [(4, .int (gI (0 : Int))), (3, .int (gI (0 : Int))), (0, .ref (G.1 136)), (1, .int (gI a1)), (2, .int (gI a2))]) hx hb0 dX9_arrowsOn_3 hl (by decide) rfl (fun ls hl => ?_)
  have hL5 : ∀ (f5 : Nat) (x4_5 : Int) (x3_5 : Int) (H : Heap) (locs : List Loc) (ls : Array Slot), gH D G s H locs σ μ → lv_has ls 6 [(4, .int (gI x4_5)), (3, .int (gI x3_5)), (0, .ref (G.1 136)), (1, .int (gI a1)), (2, .int (gI a2))] → (DX9_arrowsOn_L5 σ a1 a2 f5 x4_5 x3_5) = some r → W p l e (headSpec (gWs yX9_arrowsOn cX9_arrowsOn 6 (some (Jvm.ClassFile.FieldType.int))) ({ frames := 4, cells := 0, slots := 0, locals := 87 } : Room)).room s m ([.ref (G.1 136), .int (gI a1), .int (gI a2)] : List Value).toArray below meth c H locs 0 0 (MQ below (gQi D G r σ μ) ([.ref (G.1 136), .int (gI a1), .int (gI a2)] : List Value).toArray s 0 0 (gA G)) (F0 m 5 ls []) := by
    intro f5
    induction f5 with
    | zero => intro x4_5 x3_5 H locs ls hH hl h; cases h
    | succ f5 ih5 =>
      intro x4_5 x3_5 H locs ls hH hl h
      unfold DX9_arrowsOn_L5 at h
      refine lv_iload hx hb0 dX9_arrowsOn_5 (lv_at hl 0 rfl) ?_
      refine lv_aload_n hx hb0 dX9_arrowsOn_7 rfl (lv_at hl 2 rfl) ?_
      refine g_getR hx hb0 hts q_ws_X9 hown hX hH (C := RX9) (T := TX9) (N := 19) (k := 136) (i := 0) (j := 137) (rfl : gKinds[136]? = _) rfl (by decide) (hts _ q_fl_X9_7) rfl rfl dX9_arrowsOn_8 ?_
      refine lv_bipush (v := gI (77 : Int)) hx hb0 dX9_arrowsOn_11 (by decide) ?_
      refine g_iald hx hb0 hX hH (k := 137) (rfl : gKinds[137]? = _) (by decide) dX9_arrowsOn_13 h (fun h => ?_)
      refine g_icmp_ge (tgt := 91) hx hb0 dX9_arrowsOn_14 (by decide) h (fun h => ?_) (fun h => ?_)
      · refine lv_iload_n hx hb0 dX9_arrowsOn_91 rfl (lv_at hl 1 rfl) ?_
        exact g_iretP hx hb0 hr hH hlocks dX9_arrowsOn_92 h
      · refine lv_aload_n hx hb0 dX9_arrowsOn_17 rfl (lv_at hl 2 rfl) ?_
        refine lv_iload hx hb0 dX9_arrowsOn_18 (lv_at hl 0 rfl) ?_
        refine lv_aload_n hx hb0 dX9_arrowsOn_20 rfl (lv_at hl 2 rfl) ?_
        refine g_getR hx hb0 hts q_ws_X9 hown hX hH (C := RX9) (T := TX9) (N := 19) (k := 136) (i := 0) (j := 137) (rfl : gKinds[136]? = _) rfl (by decide) (hts _ q_fl_X9_7) rfl rfl dX9_arrowsOn_21 ?_
        refine lv_iconst (v := gI (1 : Int)) hx hb0 dX9_arrowsOn_24 (by decide) ?_
        refine g_iald hx hb0 hX hH (k := 137) (rfl : gKinds[137]? = _) (by decide) dX9_arrowsOn_25 h (fun h => ?_)
        obtain ⟨q26, e26, h⟩ := gBind_some h
        refine g_callVi (k := 136) (T := TX9) (N := 19) (As := [.int (gI x4_5), .int (gI (σ 137 (Int.toNat (1 : Int))))]) (rest := []) ⟨hx, hb0, hml, hown, hts⟩ (metX9_leaves l D G σ μ x4_5 (σ 137 (Int.toNat (1 : Int))) q26 e26) (g_cwV (C := RX9) 2 hts q_ml_X9_140 q_im_X9_leaves q_se_X9_leaves q_in_X9 q_co_X9_leaves ⟨rfl, rfl⟩ (by decide +kernel) ⟨Nat.le_of_ble_eq_true rfl, Nat.le_of_ble_eq_true rfl⟩) hX hH (rfl : gKinds[136]? = _) rfl rfl hl.1 rfl (Nat.le_of_ble_eq_true rfl) dX9_arrowsOn_26 ⟨Nat.zero_le _, Nat.zero_le _⟩ (fun H locs hH => ?_)
        refine lv_iload_n hx hb0 dX9_arrowsOn_29 rfl (lv_at hl 3 rfl) ?_
        have hJ54 : ∀ (t0_54 : Int) (H : Heap) (locs : List Loc) (ls : Array Slot), gH D G s H locs σ μ → lv_has ls 6 [(4, .int (gI x4_5)), (3, .int (gI x3_5)), (0, .ref (G.1 136)), (1, .int (gI a1)), (2, .int (gI a2))] → (DX9_arrowsOn_J54 σ a2 (DX9_arrowsOn_L5 σ a1 a2 f5) x4_5 x3_5 t0_54) = some r → W p l e (headSpec (gWs yX9_arrowsOn cX9_arrowsOn 6 (some (Jvm.ClassFile.FieldType.int))) ({ frames := 4, cells := 0, slots := 0, locals := 87 } : Room)).room s m ([.ref (G.1 136), .int (gI a1), .int (gI a2)] : List Value).toArray below meth c H locs 0 0 (MQ below (gQi D G r σ μ) ([.ref (G.1 136), .int (gI a1), .int (gI a2)] : List Value).toArray s 0 0 (gA G)) (F0 m 54 ls [.int (gI t0_54)]) := by
          intro t0_54 H locs ls hH hl h
          unfold DX9_arrowsOn_J54 at h
          refine lv_istore (lv' := [(5, .int (gI t0_54)), (4, .int (gI x4_5)), (3, .int (gI x3_5)), (0, .ref (G.1 136)), (1, .int (gI a1)), (2, .int (gI a2))]) hx hb0 dX9_arrowsOn_54 hl (by decide) rfl (fun ls hl => ?_)
          refine lv_iload_n hx hb0 dX9_arrowsOn_56 rfl (lv_at hl 2 rfl) ?_
          refine lv_iload hx hb0 dX9_arrowsOn_57 (lv_at hl 0 rfl) ?_
          have hJ83 : ∀ (t0_83 : Int) (H : Heap) (locs : List Loc) (ls : Array Slot), gH D G s H locs σ μ → lv_has ls 6 [(4, .int (gI x4_5)), (0, .ref (G.1 136)), (1, .int (gI a1)), (2, .int (gI a2))] → (DX9_arrowsOn_J83 (DX9_arrowsOn_L5 σ a1 a2 f5) x4_5 x3_5 t0_83) = some r → W p l e (headSpec (gWs yX9_arrowsOn cX9_arrowsOn 6 (some (Jvm.ClassFile.FieldType.int))) ({ frames := 4, cells := 0, slots := 0, locals := 87 } : Room)).room s m ([.ref (G.1 136), .int (gI a1), .int (gI a2)] : List Value).toArray below meth c H locs 0 0 (MQ below (gQi D G r σ μ) ([.ref (G.1 136), .int (gI a1), .int (gI a2)] : List Value).toArray s 0 0 (gA G)) (F0 m 83 ls [.int (gI t0_83), .int (gI x3_5)]) := by
            intro t0_83 H locs ls hH hl h
            unfold DX9_arrowsOn_J83 at h
            refine g_iadd hx hb0 dX9_arrowsOn_83 ?_
            refine lv_istore_n (lv' := [(3, .int (gI (x3_5 + t0_83))), (4, .int (gI x4_5)), (0, .ref (G.1 136)), (1, .int (gI a1)), (2, .int (gI a2))]) hx hb0 dX9_arrowsOn_84 rfl hl (by decide) rfl (fun ls hl => ?_)
            refine g_iinc (k := 1) (n := (1 : Int)) (lv' := [(4, .int (gI (x4_5 + (1 : Int)))), (3, .int (gI (x3_5 + t0_83))), (0, .ref (G.1 136)), (1, .int (gI a1)), (2, .int (gI a2))]) hx hb0 dX9_arrowsOn_85 hl rfl (by decide) rfl (fun ls hl => ?_)
            refine lv_goto (tgt := 5) hx hb0 dX9_arrowsOn_88 (by decide) ?_
            exact ih5 _ _ _ _ _ hH (lv_sub hl [0, 1, 2, 3, 4] rfl) h
          have hJ82 : ∀  (H : Heap) (locs : List Loc) (ls : Array Slot), gH D G s H locs σ μ → lv_has ls 6 [(4, .int (gI x4_5)), (0, .ref (G.1 136)), (1, .int (gI a1)), (2, .int (gI a2))] → (DX9_arrowsOn_J82 (DX9_arrowsOn_L5 σ a1 a2 f5) x4_5 x3_5) = some r → W p l e (headSpec (gWs yX9_arrowsOn cX9_arrowsOn 6 (some (Jvm.ClassFile.FieldType.int))) ({ frames := 4, cells := 0, slots := 0, locals := 87 } : Room)).room s m ([.ref (G.1 136), .int (gI a1), .int (gI a2)] : List Value).toArray below meth c H locs 0 0 (MQ below (gQi D G r σ μ) ([.ref (G.1 136), .int (gI a1), .int (gI a2)] : List Value).toArray s 0 0 (gA G)) (F0 m 82 ls [.int (gI x3_5)]) := by
            intro H locs ls hH hl h
            unfold DX9_arrowsOn_J82 at h
            refine lv_iconst (v := gI (0 : Int)) hx hb0 dX9_arrowsOn_82 (by decide) ?_
            exact hJ83 _ _ _ _ hH (lv_sub hl [0, 1, 2, 3] rfl) h
          refine g_if_eq (tgt := 82) hx hb0 dX9_arrowsOn_59 (by decide) h (fun h => ?_) (fun h => ?_)
          · exact hJ82  _ _ _ hH (lv_sub hl [1, 3, 4, 5] rfl) h
          · refine lv_aload_n hx hb0 dX9_arrowsOn_62 rfl (lv_at hl 3 rfl) ?_
            refine lv_iload hx hb0 dX9_arrowsOn_63 (lv_at hl 1 rfl) ?_
            refine lv_aload_n hx hb0 dX9_arrowsOn_65 rfl (lv_at hl 3 rfl) ?_
            refine g_getR hx hb0 hts q_ws_X9 hown hX hH (C := RX9) (T := TX9) (N := 19) (k := 136) (i := 0) (j := 137) (rfl : gKinds[136]? = _) rfl (by decide) (hts _ q_fl_X9_7) rfl rfl dX9_arrowsOn_66 ?_
            refine lv_iconst (v := gI (1 : Int)) hx hb0 dX9_arrowsOn_69 (by decide) ?_
            refine g_iald hx hb0 hX hH (k := 137) (rfl : gKinds[137]? = _) (by decide) dX9_arrowsOn_70 h (fun h => ?_)
            obtain ⟨q71, e71, h⟩ := gBind_some h
            refine g_callVi (k := 136) (T := TX9) (N := 19) (As := [.int (gI x4_5), .int (gI (σ 137 (Int.toNat (1 : Int))))]) (rest := [.int (gI x3_5)]) ⟨hx, hb0, hml, hown, hts⟩ (metX9_isExit l D G σ μ x4_5 (σ 137 (Int.toNat (1 : Int))) q71 e71) (g_cwV (C := RX9) 2 hts q_ml_X9_146 q_im_X9_isExit q_se_X9_isExit q_in_X9 q_co_X9_isExit ⟨rfl, rfl⟩ (by decide +kernel) ⟨Nat.le_of_ble_eq_true rfl, Nat.le_of_ble_eq_true rfl⟩) hX hH (rfl : gKinds[136]? = _) rfl rfl hl.1 rfl (Nat.le_of_ble_eq_true rfl) dX9_arrowsOn_71 ⟨Nat.zero_le _, Nat.zero_le _⟩ (fun H locs hH => ?_)
            refine lv_iload_n hx hb0 dX9_arrowsOn_74 rfl (lv_at hl 5 rfl) ?_
            refine g_icmp_ne (tgt := 82) hx hb0 dX9_arrowsOn_75 (by decide) h (fun h => ?_) (fun h => ?_)
            · exact hJ82  _ _ _ hH (lv_sub hl [1, 3, 4, 5] rfl) h
            · refine lv_iconst (v := gI (1 : Int)) hx hb0 dX9_arrowsOn_78 (by decide) ?_
              refine lv_goto (tgt := 83) hx hb0 dX9_arrowsOn_79 (by decide) ?_
              exact hJ83 _ _ _ _ hH (lv_sub hl [1, 3, 4, 5] rfl) h
        have hJ49 : ∀  (H : Heap) (locs : List Loc) (ls : Array Slot), gH D G s H locs σ μ → lv_has ls 6 [(4, .int (gI x4_5)), (3, .int (gI x3_5)), (0, .ref (G.1 136)), (1, .int (gI a1)), (2, .int (gI a2))] → (DX9_arrowsOn_J49 σ a2 (DX9_arrowsOn_L5 σ a1 a2 f5) x4_5 x3_5) = some r → W p l e (headSpec (gWs yX9_arrowsOn cX9_arrowsOn 6 (some (Jvm.ClassFile.FieldType.int))) ({ frames := 4, cells := 0, slots := 0, locals := 87 } : Room)).room s m ([.ref (G.1 136), .int (gI a1), .int (gI a2)] : List Value).toArray below meth c H locs 0 0 (MQ below (gQi D G r σ μ) ([.ref (G.1 136), .int (gI a1), .int (gI a2)] : List Value).toArray s 0 0 (gA G)) (F0 m 49 ls []) := by
          intro H locs ls hH hl h
          unfold DX9_arrowsOn_J49 at h
          refine lv_iconst (v := gI (1 : Int)) hx hb0 dX9_arrowsOn_49 (by decide) ?_
          refine lv_goto (tgt := 54) hx hb0 dX9_arrowsOn_50 (by decide) ?_
          exact hJ54 _ _ _ _ hH (lv_sub hl [0, 1, 2, 3, 4] rfl) h
        refine g_icmp_eq (tgt := 49) hx hb0 dX9_arrowsOn_30 (by decide) h (fun h => ?_) (fun h => ?_)
        · exact hJ49  _ _ _ hH (lv_sub hl [0, 1, 2, 3, 4] rfl) h
        · refine lv_aload_n hx hb0 dX9_arrowsOn_33 rfl (lv_at hl 2 rfl) ?_
          refine lv_iload hx hb0 dX9_arrowsOn_34 (lv_at hl 0 rfl) ?_
          refine lv_aload_n hx hb0 dX9_arrowsOn_36 rfl (lv_at hl 2 rfl) ?_
          refine g_getR hx hb0 hts q_ws_X9 hown hX hH (C := RX9) (T := TX9) (N := 19) (k := 136) (i := 0) (j := 137) (rfl : gKinds[136]? = _) rfl (by decide) (hts _ q_fl_X9_7) rfl rfl dX9_arrowsOn_37 ?_
          refine lv_iconst (v := gI (1 : Int)) hx hb0 dX9_arrowsOn_40 (by decide) ?_
          refine g_iald hx hb0 hX hH (k := 137) (rfl : gKinds[137]? = _) (by decide) dX9_arrowsOn_41 h (fun h => ?_)
          obtain ⟨q42, e42, h⟩ := gBind_some h
          refine g_callVi (k := 136) (T := TX9) (N := 19) (As := [.int (gI x4_5), .int (gI (σ 137 (Int.toNat (1 : Int))))]) (rest := []) ⟨hx, hb0, hml, hown, hts⟩ (metX9_arrives l D G σ μ x4_5 (σ 137 (Int.toNat (1 : Int))) q42 e42) (g_cwV (C := RX9) 2 hts q_ml_X9_143 q_im_X9_arrives q_se_X9_arrives q_in_X9 q_co_X9_arrives ⟨rfl, rfl⟩ (by decide +kernel) ⟨Nat.le_of_ble_eq_true rfl, Nat.le_of_ble_eq_true rfl⟩) hX hH (rfl : gKinds[136]? = _) rfl rfl hl.1 rfl (Nat.le_of_ble_eq_true rfl) dX9_arrowsOn_42 ⟨Nat.zero_le _, Nat.zero_le _⟩ (fun H locs hH => ?_)
          refine lv_iload_n hx hb0 dX9_arrowsOn_45 rfl (lv_at hl 3 rfl) ?_
          refine g_icmp_ne (tgt := 53) hx hb0 dX9_arrowsOn_46 (by decide) h (fun h => ?_) (fun h => ?_)
          · refine lv_iconst (v := gI (0 : Int)) hx hb0 dX9_arrowsOn_53 (by decide) ?_
            exact hJ54 _ _ _ _ hH (lv_sub hl [0, 1, 2, 3, 4] rfl) h
          · exact hJ49  _ _ _ hH (lv_sub hl [0, 1, 2, 3, 4] rfl) h
  exact hL5 gFuel _ _ _ _ _ hH (lv_sub hl [0, 1, 2, 3, 4] rfl) h
def DX9_sheetTold (σ : gSt) (a1 : Int) (a2 : Int) : Option (Int) :=
  gIf (a2 = (0 : Int)) a2 (0 : Int) (gAt a1 1248 (gDv (σ 145 (Int.toNat a1)) (52 : Int) (some ((σ 145 (Int.toNat a1)) / (52 : Int))))) (gIf (a2 = (1 : Int)) a2 (1 : Int) (gAt a1 1248 (gDv (σ 145 (Int.toNat a1)) (52 : Int) (some ((σ 145 (Int.toNat a1)) % (52 : Int))))) (gIf (a2 = (2 : Int)) a2 (2 : Int) ((DX9_partsOn σ a1).bind fun q54 => some q54) (gIf (a2 = (3 : Int)) a2 (3 : Int) ((DX9_arrowsOn σ a1 (1 : Int)).bind fun q61 => some q61) ((DX9_arrowsOn σ a1 (0 : Int)).bind fun q68 => some q68))))
set_option maxHeartbeats 4000000 in
set_option maxRecDepth 100000 in
theorem metX9_sheetTold (l : Launch) (D : va_G) (G : gAd) (σ : gSt) (μ : gLg) (a1 : Int) (a2 : Int) (r : Int) (h : DX9_sheetTold σ a1 a2 = some r) : Met l yX9_sheetTold (gWs yX9_sheetTold cX9_sheetTold 3 (some (Jvm.ClassFile.FieldType.int))) ({ frames := 5, cells := 0, slots := 0, locals := 112 } : Room) (gPc D G [.ref (G.1 136), .int (gI a1), .int (gI a2)] σ μ) (gQi D G r σ μ) 0 0 (gA G) := by
  refine Met.ofW (cc := cX9_sheetTold) (maxL := 3) (ret := (some (Jvm.ClassFile.FieldType.int))) (by decide) rfl ?_
  intro p e s m args below meth c s₁ B hml hv
  obtain ⟨rfl, hP, hX⟩ := hv
  have hx := B.exec
  have hb0 := B.bytes
  have hr := B.returns
  have hts0 := atoms_spec (ws := (gWs yX9_sheetTold cX9_sheetTold 3 (some (Jvm.ClassFile.FieldType.int)))) B.pre
  have hts : ∀ w ∈ gLW, w.before _ s = true := fun w hw => hts0 w (List.mem_cons_of_mem _ hw)
  have hown : s.vm.findClass RX9 = some m.cls := findClass_of_methodNamed B.named
  have hlocks := B.notSynchronized
  have hH : gH D G s s.heap [] σ μ := ⟨hP, va_S.rf⟩
  have hl := lv_entry ([.ref (G.1 136), .int (gI a1), .int (gI a2)]) (n := 3) (Nat.le_of_ble_eq_true rfl)
  rw [lg_entry_eq]
  generalize (lg_sl ([.ref (G.1 136), .int (gI a1), .int (gI a2)]) ++ List.replicate (3 - (lg_sl ([.ref (G.1 136), .int (gI a1), .int (gI a2)])).length) Slot.unset).toArray = ls at hl ⊢
  have hl : lv_has ls 3 [(0, .ref (G.1 136)), (1, .int (gI a1)), (2, .int (gI a2))] := hl
  unfold DX9_sheetTold at h
  refine lv_iload_n hx hb0 dX9_sheetTold_0 rfl (lv_at hl 2 rfl) ?_
  obtain ⟨hgr, -, h⟩ := gIf_some h
  rcases h with ⟨hc0, h⟩ | ⟨hc0, h⟩
  · refine g_tabIn (i := (0 : Int)) (tgt := 32) hx hb0 dX9_sheetTold_1 hc0 (by decide) (by decide) (by decide) rfl (by decide) ?_
    refine lv_aload_n hx hb0 dX9_sheetTold_32 rfl (lv_at hl 0 rfl) ?_
    refine g_getR hx hb0 hts q_ws_X9 hown hX hH (C := RX9) (T := TX9) (N := 19) (k := 136) (i := 14) (j := 145) (rfl : gKinds[136]? = _) rfl (by decide) (hts _ q_fl_X9_34) rfl rfl dX9_sheetTold_33 ?_
    refine lv_iload_n hx hb0 dX9_sheetTold_36 rfl (lv_at hl 1 rfl) ?_
    refine g_iald hx hb0 hX hH (k := 145) (rfl : gKinds[145]? = _) (by decide) dX9_sheetTold_37 h (fun h => ?_)
    refine lv_bipush (v := gI (52 : Int)) hx hb0 dX9_sheetTold_38 (by decide) ?_
    refine g_idiv hx hb0 dX9_sheetTold_40 h (fun h => ?_)
    exact g_iretP hx hb0 hr hH hlocks dX9_sheetTold_41 h
  · obtain ⟨hgr, -, h⟩ := gIf_some h
    rcases h with ⟨hc1, h⟩ | ⟨hc1, h⟩
    · refine g_tabIn (i := (1 : Int)) (tgt := 42) hx hb0 dX9_sheetTold_1 hc1 (by decide) (by decide) (by decide) rfl (by decide) ?_
      refine lv_aload_n hx hb0 dX9_sheetTold_42 rfl (lv_at hl 0 rfl) ?_
      refine g_getR hx hb0 hts q_ws_X9 hown hX hH (C := RX9) (T := TX9) (N := 19) (k := 136) (i := 14) (j := 145) (rfl : gKinds[136]? = _) rfl (by decide) (hts _ q_fl_X9_34) rfl rfl dX9_sheetTold_43 ?_
      refine lv_iload_n hx hb0 dX9_sheetTold_46 rfl (lv_at hl 1 rfl) ?_
      refine g_iald hx hb0 hX hH (k := 145) (rfl : gKinds[145]? = _) (by decide) dX9_sheetTold_47 h (fun h => ?_)
      refine lv_bipush (v := gI (52 : Int)) hx hb0 dX9_sheetTold_48 (by decide) ?_
      refine g_irem hx hb0 dX9_sheetTold_50 h (fun h => ?_)
      exact g_iretP hx hb0 hr hH hlocks dX9_sheetTold_51 h
    · obtain ⟨hgr, -, h⟩ := gIf_some h
      rcases h with ⟨hc2, h⟩ | ⟨hc2, h⟩
      · refine g_tabIn (i := (2 : Int)) (tgt := 52) hx hb0 dX9_sheetTold_1 hc2 (by decide) (by decide) (by decide) rfl (by decide) ?_
        refine lv_aload_n hx hb0 dX9_sheetTold_52 rfl (lv_at hl 0 rfl) ?_
        refine lv_iload_n hx hb0 dX9_sheetTold_53 rfl (lv_at hl 1 rfl) ?_
        obtain ⟨q54, e54, h⟩ := gBind_some h
        refine g_callVi (k := 136) (T := TX9) (N := 19) (As := [.int (gI a1)]) (rest := []) ⟨hx, hb0, hml, hown, hts⟩ (metX9_partsOn l D G σ μ a1 q54 e54) (g_cwV (C := RX9) 1 hts q_ml_X9_158 q_im_X9_partsOn q_se_X9_partsOn q_in_X9 q_co_X9_partsOn ⟨rfl, rfl⟩ (by decide +kernel) ⟨Nat.le_of_ble_eq_true rfl, Nat.le_of_ble_eq_true rfl⟩) hX hH (rfl : gKinds[136]? = _) rfl rfl hl.1 rfl (Nat.le_of_ble_eq_true rfl) dX9_sheetTold_54 ⟨Nat.zero_le _, Nat.zero_le _⟩ (fun H locs hH => ?_)
        exact g_iretP hx hb0 hr hH hlocks dX9_sheetTold_57 h
      · obtain ⟨hgr, -, h⟩ := gIf_some h
        rcases h with ⟨hc3, h⟩ | ⟨hc3, h⟩
        · refine g_tabIn (i := (3 : Int)) (tgt := 58) hx hb0 dX9_sheetTold_1 hc3 (by decide) (by decide) (by decide) rfl (by decide) ?_
          refine lv_aload_n hx hb0 dX9_sheetTold_58 rfl (lv_at hl 0 rfl) ?_
          refine lv_iload_n hx hb0 dX9_sheetTold_59 rfl (lv_at hl 1 rfl) ?_
          refine lv_iconst (v := gI (1 : Int)) hx hb0 dX9_sheetTold_60 (by decide) ?_
          obtain ⟨q61, e61, h⟩ := gBind_some h
          refine g_callVi (k := 136) (T := TX9) (N := 19) (As := [.int (gI a1), .int (gI (1 : Int))]) (rest := []) ⟨hx, hb0, hml, hown, hts⟩ (metX9_arrowsOn l D G σ μ a1 (1 : Int) q61 e61) (g_cwV (C := RX9) 2 hts q_ml_X9_161 q_im_X9_arrowsOn q_se_X9_arrowsOn q_in_X9 q_co_X9_arrowsOn ⟨rfl, rfl⟩ (by decide +kernel) ⟨Nat.le_of_ble_eq_true rfl, Nat.le_of_ble_eq_true rfl⟩) hX hH (rfl : gKinds[136]? = _) rfl rfl hl.1 rfl (Nat.le_of_ble_eq_true rfl) dX9_sheetTold_61 ⟨Nat.zero_le _, Nat.zero_le _⟩ (fun H locs hH => ?_)
          exact g_iretP hx hb0 hr hH hlocks dX9_sheetTold_64 h
        · refine g_tabOut (tgt := 65) hx hb0 dX9_sheetTold_1 hgr (by omega) (by decide) ?_
          refine lv_aload_n hx hb0 dX9_sheetTold_65 rfl (lv_at hl 0 rfl) ?_
          refine lv_iload_n hx hb0 dX9_sheetTold_66 rfl (lv_at hl 1 rfl) ?_
          refine lv_iconst (v := gI (0 : Int)) hx hb0 dX9_sheetTold_67 (by decide) ?_
          obtain ⟨q68, e68, h⟩ := gBind_some h
          refine g_callVi (k := 136) (T := TX9) (N := 19) (As := [.int (gI a1), .int (gI (0 : Int))]) (rest := []) ⟨hx, hb0, hml, hown, hts⟩ (metX9_arrowsOn l D G σ μ a1 (0 : Int) q68 e68) (g_cwV (C := RX9) 2 hts q_ml_X9_161 q_im_X9_arrowsOn q_se_X9_arrowsOn q_in_X9 q_co_X9_arrowsOn ⟨rfl, rfl⟩ (by decide +kernel) ⟨Nat.le_of_ble_eq_true rfl, Nat.le_of_ble_eq_true rfl⟩) hX hH (rfl : gKinds[136]? = _) rfl rfl hl.1 rfl (Nat.le_of_ble_eq_true rfl) dX9_sheetTold_68 ⟨Nat.zero_le _, Nat.zero_le _⟩ (fun H locs hH => ?_)
          exact g_iretP hx hb0 hr hH hlocks dX9_sheetTold_71 h
