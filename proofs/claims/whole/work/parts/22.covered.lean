theorem gX.drew {D : va_G} {G : gAd} {U : State} (d : Drawn) (h : gX D G U) : gX D G (U.setDrawn d) := by
  refine ⟨va_K.moved (u := U) (U := U.setDrawn d) (Vm.Alike.refl U.vm) h.1, h.2.1, ?_⟩
  have h3 := h.2.2
  refine ⟨fun q hm => ?_, ⟨va_Zq.moved (u := U) (U := U.setDrawn d) (Vm.Alike.refl U.vm) h3.2.1.1, vx_L.moved (u := U) (U := U.setDrawn d) (Vm.Alike.refl U.vm) h3.2.1.2⟩, ⟨va_Zq.moved (u := U) (U := U.setDrawn d) (Vm.Alike.refl U.vm) h3.2.2.1.1, vx_L.moved (u := U) (U := U.setDrawn d) (Vm.Alike.refl U.vm) h3.2.2.1.2⟩, fun q hm => ?_, fun q hm => va_Nw.same rfl rfl (h3.2.2.2.2.1 q hm), fun q hm => va_Nw.same rfl rfl (h3.2.2.2.2.2.1 q hm), fun q hm => va_Nw.same rfl rfl (h3.2.2.2.2.2.2.1 q hm), fun q hm => by rw [gCast_vm (s := U) (U := U.setDrawn d) (Vm.Alike.refl U.vm)]; exact h3.2.2.2.2.2.2.2.1 q hm, fun y hm => va_Nw.same rfl rfl (h3.2.2.2.2.2.2.2.2 y hm)⟩
  · obtain ⟨t, h1, h2⟩ := h3.1 q hm
    exact ⟨t, va_Z.moved (u := U) (U := U.setDrawn d) (Vm.Alike.refl U.vm) h1, va_T.moved (u := U) (U := U.setDrawn d) (Vm.Alike.refl U.vm) h2⟩
  · obtain ⟨a9, h1⟩ := h3.2.2.2.1 q hm
    exact ⟨a9, vk_R.same (u := U) (U := U.setDrawn d) rfl h1⟩
theorem g_nan {r : UInt64} (h : isNaN64 r = true) : FP.Core.decode FP.Core.b64 r.toNat = .nan := by
  rw [isNaN64_iff] at h
  have h1 : r.toNat &&& 0x7fffffffffffffff = r.toNat % 2 ^ 63 := Nat.and_two_pow_sub_one_eq_mod r.toNat 63
  rw [h1] at h
  have hl : r.toNat < 2 ^ 64 := r.toNat_lt
  have hE : FP.Core.fieldE FP.Core.b64 r.toNat = FP.Core.b64.exps - 1 := by
    show r.toNat / 4503599627370496 % 2048 = 2047
    omega
  have hT : ¬ FP.Core.fieldT FP.Core.b64 r.toNat = 0 := by
    show ¬ r.toNat % 4503599627370496 = 0
    omega
  unfold FP.Core.decode
  rw [if_pos hE, if_neg hT]
theorem g_ncmp {r q : UInt64} (h : isNaN64 r = true ∨ isNaN64 q = true) : Op.cmpValue (FP.dcmp r q) CmpOp.l = -1 := by
  have h1 : FP.dcmp r q = none := by
    show FP.Core.order (FP.Core.decode FP.Core.b64 r.toNat) (FP.Core.decode FP.Core.b64 q.toNat) = none
    rcases h with h | h
    · rw [g_nan h]
      cases FP.Core.decode FP.Core.b64 q.toNat <;> rfl
    · rw [g_nan h]
      cases FP.Core.decode FP.Core.b64 r.toNat <;> rfl
  rw [h1]
  rfl
/-- what covered answers: 0.0, or a quotient of two ints (a NaN's bits are anybody's) -/
def gCov (o : Option (Int × Int)) (r : UInt64) : Prop := match o with
  | none => r = FP.dconst0
  | some q => alike64 r (FP.ddiv (FP.i2d (gI q.1)) (FP.i2d (gI q.2))) = true
theorem gCov_two {o : Option (Int × Int)} {r q : UInt64} (h1 : gCov o r) (h2 : gCov o q) : r = q ∨ (isNaN64 r = true ∧ isNaN64 q = true) := by
  cases o with
  | none => exact Or.inl ((show r = _ from h1).trans (show q = _ from h2).symm)
  | some x =>
    have a1 : (decide (r = FP.ddiv (FP.i2d (gI x.1)) (FP.i2d (gI x.2))) || (isNaN64 r && isNaN64 (FP.ddiv (FP.i2d (gI x.1)) (FP.i2d (gI x.2))))) = true := h1
    have a2 : (decide (q = FP.ddiv (FP.i2d (gI x.1)) (FP.i2d (gI x.2))) || (isNaN64 q && isNaN64 (FP.ddiv (FP.i2d (gI x.1)) (FP.i2d (gI x.2))))) = true := h2
    simp only [Bool.or_eq_true, decide_eq_true_eq, Bool.and_eq_true] at a1 a2
    rcases a1 with a1 | a1
    · rcases a2 with a2 | a2
      · exact Or.inl (a1.trans a2.symm)
      · exact Or.inr ⟨by rw [a1]; exact a2.2, a2.1⟩
    · rcases a2 with a2 | a2
      · exact Or.inr ⟨a1.1, by rw [a2]; exact a1.2⟩
      · exact Or.inr ⟨a1.1, a2.1⟩
def gQd (D : va_G) (G : gAd) (o : Option (Int × Int)) (σ : gSt) (μ : gLg) : Array Value → State → Outcome → State → Prop := va_Qd (fun (x : UInt64) (_ : Unit) => gCov o x) (gB D G σ μ) (gA G)
section GCV
variable {cs : List Choice} {p : Program} {l : Launch} {e : Env} {R : Room} {s : State} {m : MethodId} {args : Array Value} {below : List Frame} {meth : Method} {c : Code} {H : Heap} {locs : List Loc} {cells slots : Nat} {Q : State → Prop}
variable {cc : ByteArray} {pc : Nat} {ls : Array Slot} {rest : List Value} {D : va_G} {G : gAd} {σ : gSt} {μ : gLg} {d0 : Drawn}
theorem g_dret (hd0 : s.drawn.sameBut d0 cs) (hexec : p.tables.exec = Jvm.exec) (hb : c.code = cc) (hr : meth.sig.returnType = some .double) (hH : gH D G (s.setDrawn d0) H locs σ μ) (hlocks : meth.locks = false) {v : UInt64} {o : Option (Int × Int)} (ho : gCov o v) (hdg : decode cc pc = .ok (.dreturn, 1)) : W p l e R (s.setDrawn d0) m args below meth c H locs cells slots (MQD cs below (gQd D G o σ μ) args s cells slots (gA G)) (F0 m pc ls [.double v]) := by
  refine W.endD hd0 ?_
  exact W.dret hexec hb hr (fun t ht hW => ⟨⟨v, (), rfl, ho, by
    have := hH.1
    rw [← ht] at this
    exact this⟩, hH.2.F ht⟩) (fun q hq => hH.2.2.2 q hq) hdg
theorem g_callVd {y : MethodName} {bytes : ByteArray} {maxL nL n index : Nat} {ret : Option FieldType} {rm : Room} {Ts : List Cond} {own C : String} {As st0 : List Value} {σ' : gSt} {μ' : gLg} {k ci : Nat} {sl : List (Nat ⊕ Bool)} {T : u_T} {N : Nat} {o : Option (Int × Int)} (hd0 : s.drawn.sameBut d0 cs) (S : CallFix p m c cc nL (s.setDrawn d0) args Ts own) (hM : MetD cs l y (gWs y bytes maxL ret) rm (gPc D G (.ref (G.1 k) :: As) σ μ) (gQd D G o σ' μ') 0 0 (gA G)) (cw : CallW R (s.setDrawn d0) args own C index y bytes maxL ret (gWs y bytes maxL ret) rm 0 0 n) (hX : gX D G (s.setDrawn d0)) (hH : gH D G (s.setDrawn d0) H locs σ μ) (hk : gKinds[k]? = some (.inr (.inl (ci, sl)))) (hc : vwCl[ci]? = some (C, T, N)) (hn : As.length = n) (hsize : ls.size = nL) (hst : st0 = As.reverse ++ .ref (G.1 k) :: rest) (hW : (rest.map fun v => v.category).sum ≤ 8) (hdg : decode cc pc = .ok (.invokevirtual index, 3)) (hf : cells ≤ R.cells ∧ slots ≤ R.slots)
    (kk : ∀ (r : UInt64) (H1 : Heap) (locs1 : List Loc) (d1 : Drawn), s.drawn.sameBut d1 cs → gCov o r → gH D G (s.setDrawn d1) H1 locs1 σ' μ' → W p l e R (s.setDrawn d1) m args below meth c H1 locs1 cells slots Q (F0 m (pc + 3) ls (.double r :: rest))) : W p l e R (s.setDrawn d0) m args below meth c H locs cells slots Q (F0 m pc ls st0) := by
  refine va_calldD (mc := 0) (ms := 0) (free := gA G) (A0 := gA G) (A1 := gA G) hd0 (va_runV_D (As := As) (rest := rest) S hM cw ⟨gPc_blind, va_recv hX.1 hH.1 hc (gW_get hk), fun U hU hW2 => ⟨rfl, by rw [hU]; exact hH.1, hX.go hH.2 hU hW2⟩⟩ rfl hn hsize hst (lv_room hW) hdg hf) hH.2 (fun q _ h => h) (fun q h => h) (fun r u t H1 locs1 ht hvm hp hB hz hq hS d1 hd1 => ?_)
  have hB2 : va_P D vwCl (gW G σ' μ') t.heap := hB
  rw [ht] at hB2
  exact kk r H1 locs1 d1 hd1 hp ⟨hB2, hS⟩
end GCV
def DX8_covered (σ : gSt) : Option (Option (Int × Int)) :=
  (DX5_setting 1 σ (0 : Int)).bind fun q5 => (DX5_setting 1 σ (1 : Int)).bind fun q13 => (DX6_count 96 σ).bind fun q21 => gIf ((0 : Int) < ((q5 * q13) * q21)) ((q5 * q13) * q21) (0 : Int) ((DX5_daysOfBars 1 σ).bind fun q34 => some (some (q34, ((q5 * q13) * q21)))) (some none)
set_option maxHeartbeats 4000000 in
set_option maxRecDepth 100000 in
theorem metX8_covered (l : Launch) (D : va_G) (G : gAd) (σ : gSt) (μ : gLg) (o : Option (Int × Int)) (h : DX8_covered σ = some o) : MetD lw_cs l yX8_covered (gWs yX8_covered cX8_covered 2 (some (Jvm.ClassFile.FieldType.double))) ({ frames := 3, cells := 0, slots := 0, locals := 64 } : Room) (gPc D G [.ref (G.1 0)] σ μ) (gQd D G o σ μ) 0 0 (gA G) := by
  refine MetD.ofW (cc := cX8_covered) (maxL := 2) (ret := (some (Jvm.ClassFile.FieldType.double))) (by decide) rfl ?_
  intro p e s m args below meth c s₁ B hml hv hd0
  obtain ⟨rfl, hP, hX⟩ := hv
  have hx := B.exec
  have hb0 := B.bytes
  have hr := B.returns
  have hts0 := atoms_spec (ws := (gWs yX8_covered cX8_covered 2 (some (Jvm.ClassFile.FieldType.double)))) B.pre
  have hts : ∀ w ∈ gLW, w.before _ s = true := fun w hw => hts0 w (List.mem_cons_of_mem _ hw)
  have hown : s.vm.findClass RX8 = some m.cls := findClass_of_methodNamed B.named
  have hlocks := B.notSynchronized
  have hH : gH D G s s.heap [] σ μ := ⟨hP, va_S.rf⟩
  have hl := lv_entry ([.ref (G.1 0)]) (n := 2) (Nat.le_of_ble_eq_true rfl)
  rw [lg_entry_eq]
  generalize (lg_sl ([.ref (G.1 0)]) ++ List.replicate (2 - (lg_sl ([.ref (G.1 0)])).length) Slot.unset).toArray = ls at hl ⊢
  have hl : lv_has ls 2 [(0, .ref (G.1 0))] := hl
  unfold DX8_covered at h
  suffices K : W p l e (headSpec (gWs yX8_covered cX8_covered 2 (some (Jvm.ClassFile.FieldType.double))) ({ frames := 3, cells := 0, slots := 0, locals := 64 } : Room)).room s m ([.ref (G.1 0)] : List Value).toArray below meth c s.heap [] 0 0 (MQD lw_cs below (gQd D G o σ μ) ([.ref (G.1 0)] : List Value).toArray s 0 0 (gA G)) (F0 m 0 ls []) from K
  refine lv_aload_n hx hb0 dX8_covered_0 rfl (lv_at hl 0 rfl) ?_
  refine g_getR hx hb0 hts q_ws_X8 hown hX hH (C := RX8) (T := TX8) (N := 10) (k := 0) (i := 0) (j := 1) (rfl : gKinds[0]? = _) rfl (by decide) (hts _ q_fl_X8_12) rfl rfl dX8_covered_1 ?_
  refine lv_iconst (v := gI (0 : Int)) hx hb0 dX8_covered_4 (by decide) ?_
  obtain ⟨q5, e5, h⟩ := gBind_some h
  refine g_callVi (k := 1) (T := TX5) (N := 8) (As := [.int (gI (0 : Int))]) (rest := []) ⟨hx, hb0, hml, hown, hts⟩ (metX5_setting l D G 1 gPlan_1 σ μ (0 : Int) q5 e5) (g_cwV (C := RX5) 1 hts q_ml_X8_82 q_im_X5_setting q_se_X5_setting q_in_X5 q_co_X5_setting ⟨rfl, rfl⟩ (by decide +kernel) ⟨Nat.le_of_ble_eq_true rfl, Nat.le_of_ble_eq_true rfl⟩) hX hH gPlan_1.k rfl rfl hl.1 rfl (Nat.le_of_ble_eq_true rfl) dX8_covered_5 ⟨Nat.zero_le _, Nat.zero_le _⟩ (fun H locs hH => ?_)
  refine lv_aload_n hx hb0 dX8_covered_8 rfl (lv_at hl 0 rfl) ?_
  refine g_getR hx hb0 hts q_ws_X8 hown hX hH (C := RX8) (T := TX8) (N := 10) (k := 0) (i := 0) (j := 1) (rfl : gKinds[0]? = _) rfl (by decide) (hts _ q_fl_X8_12) rfl rfl dX8_covered_9 ?_
  refine lv_iconst (v := gI (1 : Int)) hx hb0 dX8_covered_12 (by decide) ?_
  obtain ⟨q13, e13, h⟩ := gBind_some h
  refine g_callVi (k := 1) (T := TX5) (N := 8) (As := [.int (gI (1 : Int))]) (rest := [.int (gI q5)]) ⟨hx, hb0, hml, hown, hts⟩ (metX5_setting l D G 1 gPlan_1 σ μ (1 : Int) q13 e13) (g_cwV (C := RX5) 1 hts q_ml_X8_82 q_im_X5_setting q_se_X5_setting q_in_X5 q_co_X5_setting ⟨rfl, rfl⟩ (by decide +kernel) ⟨Nat.le_of_ble_eq_true rfl, Nat.le_of_ble_eq_true rfl⟩) hX hH gPlan_1.k rfl rfl hl.1 rfl (Nat.le_of_ble_eq_true rfl) dX8_covered_13 ⟨Nat.zero_le _, Nat.zero_le _⟩ (fun H locs hH => ?_)
  refine g_imul hx hb0 dX8_covered_16 ?_
  refine lv_aload_n hx hb0 dX8_covered_17 rfl (lv_at hl 0 rfl) ?_
  refine g_getR hx hb0 hts q_ws_X8 hown hX hH (C := RX8) (T := TX8) (N := 10) (k := 0) (i := 6) (j := 96) (rfl : gKinds[0]? = _) rfl (by decide) (hts _ q_fl_X8_50) rfl rfl dX8_covered_18 ?_
  obtain ⟨q21, e21, h⟩ := gBind_some h
  refine g_callVi (k := 96) (T := TX6) (N := 5) (As := []) (rest := [.int (gI (q5 * q13))]) ⟨hx, hb0, hml, hown, hts⟩ (metX6_count l D G 96 gSheets_96 σ μ q21 e21) (g_cwV (C := RX6) 0 hts q_ml_X8_169 q_im_X6_count q_se_X6_count q_in_X6 q_co_X6_count ⟨rfl, rfl⟩ (by decide +kernel) ⟨Nat.le_of_ble_eq_true rfl, Nat.le_of_ble_eq_true rfl⟩) hX hH gSheets_96.k rfl rfl hl.1 rfl (Nat.le_of_ble_eq_true rfl) dX8_covered_21 ⟨Nat.zero_le _, Nat.zero_le _⟩ (fun H locs hH => ?_)
  refine g_imul hx hb0 dX8_covered_24 ?_
  refine lv_istore_n (lv' := [(1, .int (gI ((q5 * q13) * q21))), (0, .ref (G.1 0))]) hx hb0 dX8_covered_25 rfl hl (by decide) rfl (fun ls hl => ?_)
  refine lv_iload_n hx hb0 dX8_covered_26 rfl (lv_at hl 0 rfl) ?_
  refine g_if_le (tgt := 44) hx hb0 dX8_covered_27 (by decide) h (fun h => ?_) (fun h => ?_)
  · refine lv_dconst0 hx hb0 dX8_covered_44 ?_
    cases h
    refine W.base ?_
    exact g_dret hd0 hx hb0 hr hH hlocks rfl dX8_covered_45
  · refine lv_aload_n hx hb0 dX8_covered_30 rfl (lv_at hl 1 rfl) ?_
    refine g_getR hx hb0 hts q_ws_X8 hown hX hH (C := RX8) (T := TX8) (N := 10) (k := 0) (i := 0) (j := 1) (rfl : gKinds[0]? = _) rfl (by decide) (hts _ q_fl_X8_12) rfl rfl dX8_covered_31 ?_
    obtain ⟨q34, e34, h⟩ := gBind_some h
    refine g_callVi (k := 1) (T := TX5) (N := 8) (As := []) (rest := []) ⟨hx, hb0, hml, hown, hts⟩ (metX5_daysOfBars l D G 1 gPlan_1 σ μ q34 e34) (g_cwV (C := RX5) 0 hts q_ml_X8_218 q_im_X5_daysOfBars q_se_X5_daysOfBars q_in_X5 q_co_X5_daysOfBars ⟨rfl, rfl⟩ (by decide +kernel) ⟨Nat.le_of_ble_eq_true rfl, Nat.le_of_ble_eq_true rfl⟩) hX hH gPlan_1.k rfl rfl hl.1 rfl (Nat.le_of_ble_eq_true rfl) dX8_covered_34 ⟨Nat.zero_le _, Nat.zero_le _⟩ (fun H locs hH => ?_)
    refine lv_i2d hx hb0 dX8_covered_37 ?_
    refine lv_iload_n hx hb0 dX8_covered_38 rfl (lv_at hl 0 rfl) ?_
    refine lv_i2d hx hb0 dX8_covered_39 ?_
    refine W.base ?_
    refine lv_ddiv_any hd0 lw_bits hx hb0 dX8_covered_40 (fun r d1 hal hd1 => ?_)
    refine lv_goto (tgt := 45) hx hb0 dX8_covered_41 (by decide) ?_
    cases h
    exact g_dret hd1 hx hb0 hr hH hlocks hal dX8_covered_45
def DX9_covered_K38 (x1_38 : Int) (σ : gSt) : Option (Option (Int × Int) × gSt) :=
  gIf ((σ 136 12) = (0 : Int)) (σ 136 12) (0 : Int) (some (none, σ)) (gAt (0 : Int) 138 (gAt (1 : Int) 138 (some (some (x1_38, (((σ 137 (Int.toNat (0 : Int))) * (σ 137 (Int.toNat (1 : Int)))) * (σ 136 12))), σ))))
def DX9_covered_L13 (σ : gSt) : Nat → Int → Int → Option (Option (Int × Int) × gSt)
  | 0, _, _ => none
  | f13 + 1, x2_13, x1_13 => gAt (4 : Int) 138 (gIf (x2_13 < (σ 137 (Int.toNat (4 : Int)))) x2_13 (σ 137 (Int.toNat (4 : Int))) ((DX9_of σ x2_13 (2 : Int)).bind fun q27 => ((DX9_covered_L13 σ f13) (x2_13 + (1 : Int)) (x1_13 + q27))) ((DX9_covered_K38 x1_13 σ)))
def DX9_covered (σ : gSt) : Option (Option (Int × Int) × gSt) :=
  (DX9_prints σ).bind fun q1 => (DX9_covered_L13 (gUp q1 136 6 (0 : Int)) gFuel (0 : Int) (0 : Int))
set_option maxHeartbeats 4000000 in
set_option maxRecDepth 100000 in
theorem metX9_covered (l : Launch) (D : va_G) (G : gAd) (σ : gSt) (μ : gLg) (o : Option (Int × Int)) (σ' : gSt) (h : DX9_covered σ = some (o, σ')) : MetD lw_cs l yX9_covered (gWs yX9_covered cX9_covered 3 (some (Jvm.ClassFile.FieldType.double))) ({ frames := 6, cells := 0, slots := 0, locals := 139 } : Room) (gPc D G [.ref (G.1 136)] σ μ) (gQd D G o σ' μ) 0 0 (gA G) := by
  refine MetD.ofW (cc := cX9_covered) (maxL := 3) (ret := (some (Jvm.ClassFile.FieldType.double))) (by decide) rfl ?_
  intro p e s m args below meth c s₁ B hml hv hd0
  obtain ⟨rfl, hP, hX⟩ := hv
  have hx := B.exec
  have hb0 := B.bytes
  have hr := B.returns
  have hts0 := atoms_spec (ws := (gWs yX9_covered cX9_covered 3 (some (Jvm.ClassFile.FieldType.double)))) B.pre
  have hts : ∀ w ∈ gLW, w.before _ s = true := fun w hw => hts0 w (List.mem_cons_of_mem _ hw)
  have hown : s.vm.findClass RX9 = some m.cls := findClass_of_methodNamed B.named
  have hlocks := B.notSynchronized
  have hH : gH D G s s.heap [] σ μ := ⟨hP, va_S.rf⟩
  have hl := lv_entry ([.ref (G.1 136)]) (n := 3) (Nat.le_of_ble_eq_true rfl)
  rw [lg_entry_eq]
  generalize (lg_sl ([.ref (G.1 136)]) ++ List.replicate (3 - (lg_sl ([.ref (G.1 136)])).length) Slot.unset).toArray = ls at hl ⊢
  have hl : lv_has ls 3 [(0, .ref (G.1 136))] := hl
  unfold DX9_covered at h
  suffices K : W p l e (headSpec (gWs yX9_covered cX9_covered 3 (some (Jvm.ClassFile.FieldType.double))) ({ frames := 6, cells := 0, slots := 0, locals := 139 } : Room)).room s m ([.ref (G.1 136)] : List Value).toArray below meth c s.heap [] 0 0 (MQD lw_cs below (gQd D G o σ' μ) ([.ref (G.1 136)] : List Value).toArray s 0 0 (gA G)) (F0 m 0 ls []) from K
  refine lv_aload_n hx hb0 dX9_covered_0 rfl (lv_at hl 0 rfl) ?_
  obtain ⟨q1, e1, h⟩ := gBind_some h
  refine g_callVv (k := 136) (T := TX9) (N := 19) (As := []) (rest := []) ⟨hx, hb0, hml, hown, hts⟩ (metX9_prints l D G σ μ q1 e1) (g_cwV (C := RX9) 0 hts q_ml_X9_155 q_im_X9_prints q_se_X9_prints q_in_X9 q_co_X9_prints ⟨rfl, rfl⟩ (by decide +kernel) ⟨Nat.le_of_ble_eq_true rfl, Nat.le_of_ble_eq_true rfl⟩) hX hH (rfl : gKinds[136]? = _) rfl rfl hl.1 rfl (Nat.le_of_ble_eq_true rfl) dX9_covered_1 ⟨Nat.zero_le _, Nat.zero_le _⟩ (fun H locs hH => ?_)
  refine lv_aload_n hx hb0 dX9_covered_4 rfl (lv_at hl 0 rfl) ?_
  refine lv_iconst (v := gI (0 : Int)) hx hb0 dX9_covered_5 (by decide) ?_
  refine g_putI hx hb0 hts q_ws_X9 tyX9 tyX9_ok nmX9 hown hX hH (C := RX9) (T := TX9) (N := 19) (k := 136) (i := 6) (rfl : gKinds[136]? = _) rfl (by decide) (hts _ q_fl_X9_40) rfl rfl rfl rfl dX9_covered_6 (fun H locs hH => ?_)
  refine lv_iconst (v := gI (0 : Int)) hx hb0 dX9_covered_9 (by decide) ?_
  refine lv_istore_n (lv' := [(1, .int (gI (0 : Int))), (0, .ref (G.1 136))]) hx hb0 dX9_covered_10 rfl hl (by decide) rfl (fun ls hl => ?_)
  refine lv_iconst (v := gI (0 : Int)) hx hb0 dX9_covered_11 (by decide) ?_
  refine lv_istore_n (lv' := [(2, .int (gI (0 : Int))), (1, .int (gI (0 : Int))), (0, .ref (G.1 136))]) hx hb0 dX9_covered_12 rfl hl (by decide) rfl (fun ls hl => ?_)
  generalize (gUp q1 136 6 (0 : Int)) = σ1 at hH h
  have hL13 : ∀ (f13 : Nat) (x2_13 : Int) (x1_13 : Int) (H : Heap) (locs : List Loc) (ls : Array Slot), gH D G s H locs σ1 μ → lv_has ls 3 [(2, .int (gI x2_13)), (1, .int (gI x1_13)), (0, .ref (G.1 136))] → (DX9_covered_L13 σ1 f13 x2_13 x1_13) = some (o, σ') → W p l e (headSpec (gWs yX9_covered cX9_covered 3 (some (Jvm.ClassFile.FieldType.double))) ({ frames := 6, cells := 0, slots := 0, locals := 139 } : Room)).room s m ([.ref (G.1 136)] : List Value).toArray below meth c H locs 0 0 (MQD lw_cs below (gQd D G o σ' μ) ([.ref (G.1 136)] : List Value).toArray s 0 0 (gA G)) (F0 m 13 ls []) := by
    intro f13
    induction f13 with
    | zero => intro x2_13 x1_13 H locs ls hH hl h; cases h
    | succ f13 ih13 =>
      intro x2_13 x1_13 H locs ls hH hl h
      unfold DX9_covered_L13 at h
      refine lv_iload_n hx hb0 dX9_covered_13 rfl (lv_at hl 0 rfl) ?_
      refine lv_aload_n hx hb0 dX9_covered_14 rfl (lv_at hl 2 rfl) ?_
      refine g_getR hx hb0 hts q_ws_X9 hown hX hH (C := RX9) (T := TX9) (N := 19) (k := 136) (i := 0) (j := 137) (rfl : gKinds[136]? = _) rfl (by decide) (hts _ q_fl_X9_7) rfl rfl dX9_covered_15 ?_
      refine lv_iconst (v := gI (4 : Int)) hx hb0 dX9_covered_18 (by decide) ?_
      refine g_iald hx hb0 hX hH (k := 137) (rfl : gKinds[137]? = _) (by decide) dX9_covered_19 h (fun h => ?_)
      refine g_icmp_ge (tgt := 38) hx hb0 dX9_covered_20 (by decide) h (fun h => ?_) (fun h => ?_)
      · unfold DX9_covered_K38 at h
        refine lv_aload_n hx hb0 dX9_covered_38 rfl (lv_at hl 2 rfl) ?_
        refine g_getI hx hb0 hts q_ws_X9 hown hX hH (C := RX9) (T := TX9) (N := 19) (k := 136) (i := 12) (rfl : gKinds[136]? = _) rfl (by decide) (hts _ q_fl_X9_130) rfl rfl dX9_covered_39 ?_
        refine g_if_ne (tgt := 49) hx hb0 dX9_covered_42 (by decide) h (fun h => ?_) (fun h => ?_)
        · refine lv_iload_n hx hb0 dX9_covered_49 rfl (lv_at hl 1 rfl) ?_
          refine lv_i2d hx hb0 dX9_covered_50 ?_
          refine lv_aload_n hx hb0 dX9_covered_51 rfl (lv_at hl 2 rfl) ?_
          refine g_getR hx hb0 hts q_ws_X9 hown hX hH (C := RX9) (T := TX9) (N := 19) (k := 136) (i := 0) (j := 137) (rfl : gKinds[136]? = _) rfl (by decide) (hts _ q_fl_X9_7) rfl rfl dX9_covered_52 ?_
          refine lv_iconst (v := gI (0 : Int)) hx hb0 dX9_covered_55 (by decide) ?_
          refine g_iald hx hb0 hX hH (k := 137) (rfl : gKinds[137]? = _) (by decide) dX9_covered_56 h (fun h => ?_)
          refine lv_aload_n hx hb0 dX9_covered_57 rfl (lv_at hl 2 rfl) ?_
          refine g_getR hx hb0 hts q_ws_X9 hown hX hH (C := RX9) (T := TX9) (N := 19) (k := 136) (i := 0) (j := 137) (rfl : gKinds[136]? = _) rfl (by decide) (hts _ q_fl_X9_7) rfl rfl dX9_covered_58 ?_
          refine lv_iconst (v := gI (1 : Int)) hx hb0 dX9_covered_61 (by decide) ?_
          refine g_iald hx hb0 hX hH (k := 137) (rfl : gKinds[137]? = _) (by decide) dX9_covered_62 h (fun h => ?_)
          refine g_imul hx hb0 dX9_covered_63 ?_
          refine lv_aload_n hx hb0 dX9_covered_64 rfl (lv_at hl 2 rfl) ?_
          refine g_getI hx hb0 hts q_ws_X9 hown hX hH (C := RX9) (T := TX9) (N := 19) (k := 136) (i := 12) (rfl : gKinds[136]? = _) rfl (by decide) (hts _ q_fl_X9_130) rfl rfl dX9_covered_65 ?_
          refine g_imul hx hb0 dX9_covered_68 ?_
          refine lv_i2d hx hb0 dX9_covered_69 ?_
          refine W.base ?_
          refine lv_ddiv_any hd0 lw_bits hx hb0 dX9_covered_70 (fun r d1 hal hd1 => ?_)
          cases h
          exact g_dret hd1 hx hb0 hr hH hlocks hal dX9_covered_71
        · refine lv_dconst0 hx hb0 dX9_covered_45 ?_
          refine lv_goto (tgt := 71) hx hb0 dX9_covered_46 (by decide) ?_
          cases h
          refine W.base ?_
          exact g_dret hd0 hx hb0 hr hH hlocks rfl dX9_covered_71
      · refine lv_iload_n hx hb0 dX9_covered_23 rfl (lv_at hl 1 rfl) ?_
        refine lv_aload_n hx hb0 dX9_covered_24 rfl (lv_at hl 2 rfl) ?_
        refine lv_iload_n hx hb0 dX9_covered_25 rfl (lv_at hl 0 rfl) ?_
        refine lv_iconst (v := gI (2 : Int)) hx hb0 dX9_covered_26 (by decide) ?_
        obtain ⟨q27, e27, h⟩ := gBind_some h
        refine g_callVi (k := 136) (T := TX9) (N := 19) (As := [.int (gI x2_13), .int (gI (2 : Int))]) (rest := [.int (gI x1_13)]) ⟨hx, hb0, hml, hown, hts⟩ (metX9_of l D G σ1 μ x2_13 (2 : Int) q27 e27) (g_cwV (C := RX9) 2 hts q_ml_X9_55 q_im_X9_of q_se_X9_of q_in_X9 q_co_X9_of ⟨rfl, rfl⟩ (by decide +kernel) ⟨Nat.le_of_ble_eq_true rfl, Nat.le_of_ble_eq_true rfl⟩) hX hH (rfl : gKinds[136]? = _) rfl rfl hl.1 rfl (Nat.le_of_ble_eq_true rfl) dX9_covered_27 ⟨Nat.zero_le _, Nat.zero_le _⟩ (fun H locs hH => ?_)
        refine g_iadd hx hb0 dX9_covered_30 ?_
        refine lv_istore_n (lv' := [(1, .int (gI (x1_13 + q27))), (2, .int (gI x2_13)), (0, .ref (G.1 136))]) hx hb0 dX9_covered_31 rfl hl (by decide) rfl (fun ls hl => ?_)
        refine g_iinc (k := 1) (n := (1 : Int)) (lv' := [(2, .int (gI (x2_13 + (1 : Int)))), (1, .int (gI (x1_13 + q27))), (0, .ref (G.1 136))]) hx hb0 dX9_covered_32 hl rfl (by decide) rfl (fun ls hl => ?_)
        refine lv_goto (tgt := 13) hx hb0 dX9_covered_35 (by decide) ?_
        exact ih13 _ _ _ _ _ hH hl h
  exact hL13 gFuel _ _ _ _ _ hH hl h
def DL_c17 (σ : gSt) (μ : gLg) : Option (gSt × gLg) :=
  (DX8_covered σ).bind fun o => (DX9_covered σ).bind fun q => if o = q.1 then some (q.2, μ) else none
set_option maxHeartbeats 4000000 in
set_option maxRecDepth 100000 in
theorem lawc_17 {p : Program} {l : Launch} {e : Env} {s : State} {m : MethodId} {below : List Frame} {meth : Method} {c : Code} {b : Nat} {j : Nat} {D : va_G} {G : gAd} {Q : State → Prop} {d0 : Drawn} (hd0 : s.drawn.sameBut d0 lw_cs) (hx : p.tables.exec = Jvm.exec) (hb : c.code = cL_law) (hml : c.maxLocals = 9) (hown : s.vm.findClass RL = some m.cls) (hts : ∀ w ∈ gLW, w.before #[Value.ref b] s = true) (hX : gX D G s) {H : Heap} {locs : List Loc} {ls : Array Slot} {cells slots : Nat} (hc : cells ≤ 500 + 3 * j) (hs : slots ≤ 20000 + 18 * j) (hj : j ≤ 2048) {σ σ' : gSt} {μ μ' : gLg} (hH : gH D G (s.setDrawn d0) H locs σ μ) (hl : lv_has ls 9 [(0, .ref b), (1, .ref (G.1 0)), (2, .ref (G.1 136)), (3, .ref (G.1 147)), (4, .int (gI (4 * (j : Int))))]) (h : DL_c17 σ μ = some (σ', μ')) (kk : ∀ (H1 : Heap) (locs1 : List Loc) (ls1 : Array Slot) (d1 : Drawn), s.drawn.sameBut d1 lw_cs → gH D G (s.setDrawn d1) H1 locs1 σ' μ' → lv_has ls1 9 [(0, .ref b), (1, .ref (G.1 0)), (2, .ref (G.1 136)), (3, .ref (G.1 147)), (4, .int (gI (4 * (j : Int))))] → W p l e room_1 (s.setDrawn d1) m #[Value.ref b] below meth c H1 locs1 cells slots Q (F0 m 1537 ls1 [])) : W p l e room_1 (s.setDrawn d0) m #[Value.ref b] below meth c H locs cells slots Q (F0 m 1206 ls []) := by
  unfold DL_c17 at h
  obtain ⟨o, e1, h⟩ := gBind_some h
  obtain ⟨q, e2, h⟩ := gBind_some h
  obtain ⟨o2, σ2⟩ := q
  have ho : o = o2 := by
    by_cases ho : o = o2
    · exact ho
    · rw [if_neg ho] at h
      cases h
  rw [if_pos ho] at h
  cases h
  subst ho
  refine lv_aload_n hx hb dL_law_1206 rfl (lv_at hl 1 rfl) ?_
  refine g_callVd (k := 0) (T := TX8) (N := 10) (As := []) (rest := []) hd0 ⟨hx, hb, hml, hown, dr_words hts _⟩ (metX8_covered l D G σ μ o e1) (g_cwV (C := RX8) 0 (dr_words hts _) q_ml_L_141 q_im_X8_covered q_se_X8_covered q_in_X8 q_co_X8_covered ⟨rfl, rfl⟩ (by decide +kernel) ⟨Nat.le_of_ble_eq_true rfl, Nat.le_of_ble_eq_true rfl⟩) (hX.drew _) hH (rfl : gKinds[0]? = _) rfl rfl hl.1 rfl (Nat.le_of_ble_eq_true rfl) dL_law_1207 ⟨by show _ ≤ 601024; omega, by show _ ≤ 7293034; omega⟩ (fun r H locs d1 hd1 hr1 hH => ?_)
  refine lv_dstore (lv' := [(5, .double r), (0, .ref b), (1, .ref (G.1 0)), (2, .ref (G.1 136)), (3, .ref (G.1 147)), (4, .int (gI (4 * (j : Int))))]) hx hb dL_law_1210 hl (by decide) rfl (fun ls hl => ?_)
  refine lv_aload_n hx hb dL_law_1212 rfl (lv_at hl 3 rfl) ?_
  refine g_callVd (k := 136) (T := TX9) (N := 19) (As := []) (rest := []) hd1 ⟨hx, hb, hml, hown, dr_words hts _⟩ (metX9_covered l D G σ μ o σ2 e2) (g_cwV (C := RX9) 0 (dr_words hts _) q_ml_L_145 q_im_X9_covered q_se_X9_covered q_in_X9 q_co_X9_covered ⟨rfl, rfl⟩ (by decide +kernel) ⟨Nat.le_of_ble_eq_true rfl, Nat.le_of_ble_eq_true rfl⟩) (hX.drew _) hH (rfl : gKinds[136]? = _) rfl rfl hl.1 rfl (Nat.le_of_ble_eq_true rfl) dL_law_1213 ⟨by show _ ≤ 601024; omega, by show _ ≤ 7293034; omega⟩ (fun r2 H locs d2 hd2 hr2 hH => ?_)
  refine lv_dstore (lv' := [(7, .double r2), (5, .double r), (0, .ref b), (1, .ref (G.1 0)), (2, .ref (G.1 136)), (3, .ref (G.1 147)), (4, .int (gI (4 * (j : Int))))]) hx hb dL_law_1216 hl (by decide) rfl (fun ls hl => ?_)
  refine lv_dload hx hb dL_law_1218 (lv_at hl 1 rfl) ?_
  refine lv_dload hx hb dL_law_1220 (lv_at hl 0 rfl) ?_
  refine lv_dcmp hx hb dL_law_1222 ?_
  have hl5 : ∀ ls : Array Slot, lv_has ls 9 [(7, .double r2), (5, .double r), (0, .ref b), (1, .ref (G.1 0)), (2, .ref (G.1 136)), (3, .ref (G.1 147)), (4, .int (gI (4 * (j : Int))))] → W p l e room_1 (s.setDrawn d2) m #[Value.ref b] below meth c H locs cells slots Q (F0 m 1244 ls []) := by
    intro ls hl
    refine lv_goto (tgt := 1537) hx hb dL_law_1244 (by decide) ?_
    exact kk _ _ _ d2 hd2 hH (lv_sub hl [2, 3, 4, 5, 6] rfl)
  rcases gCov_two hr1 hr2 with hrr | ⟨hn1, hn2⟩
  · subst hrr
    obtain ⟨v, hv0⟩ : ∃ v, v = Op.cmpValue (FP.dcmp r r) CmpOp.l := ⟨_, rfl⟩
    rw [← hv0]
    refine lv_if_eq (tgt := 1244) hx hb dL_law_1223 (by decide) (fun hv => ?_) (fun hv => ?_)
    · exact hl5 _ hl
    · refine lv_dload hx hb dL_law_1226 (lv_at hl 1 rfl) ?_
      refine lv_dload hx hb dL_law_1228 (lv_at hl 1 rfl) ?_
      refine lv_dcmp hx hb dL_law_1230 ?_
      rw [← hv0]
      refine lv_if_eq (tgt := 1242) hx hb dL_law_1231 (by decide) (fun h0 => absurd h0 hv) (fun _ => ?_)
      refine lv_dload hx hb dL_law_1234 (lv_at hl 0 rfl) ?_
      refine lv_dload hx hb dL_law_1236 (lv_at hl 0 rfl) ?_
      refine lv_dcmp hx hb dL_law_1238 ?_
      rw [← hv0]
      refine lv_if_ne (tgt := 1244) hx hb dL_law_1239 (by decide) (fun _ => ?_) (fun h0 => absurd h0 hv)
      exact hl5 _ hl
  · rw [g_ncmp (Or.inl hn1)]
    refine lv_if_eq (tgt := 1244) hx hb dL_law_1223 (by decide) (fun hv => absurd hv (by decide)) (fun hv => ?_)
    refine lv_dload hx hb dL_law_1226 (lv_at hl 1 rfl) ?_
    refine lv_dload hx hb dL_law_1228 (lv_at hl 1 rfl) ?_
    refine lv_dcmp hx hb dL_law_1230 ?_
    rw [g_ncmp (Or.inl hn1)]
    refine lv_if_eq (tgt := 1242) hx hb dL_law_1231 (by decide) (fun h0 => absurd h0 (by decide)) (fun _ => ?_)
    refine lv_dload hx hb dL_law_1234 (lv_at hl 0 rfl) ?_
    refine lv_dload hx hb dL_law_1236 (lv_at hl 0 rfl) ?_
    refine lv_dcmp hx hb dL_law_1238 ?_
    rw [g_ncmp (Or.inl hn2)]
    refine lv_if_ne (tgt := 1244) hx hb dL_law_1239 (by decide) (fun _ => ?_) (fun h0 => absurd h0 (by decide))
    exact hl5 _ hl
