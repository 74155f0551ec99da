/-! the law's cases -/
section GL2
variable {p : Program} {l : Launch} {e : Env} {R : Room} {s : State} {m : MethodId} {args : Array Value} {below : List Frame} {meth : Method} {c : Code} {H : Heap} {locs : List Loc} {cells slots : Nat} {Q : State → Prop}
variable {cc : ByteArray} {pc : Nat} {ls : Array Slot} {rest : List Value} {D : va_G} {G : gAd} {σ : gSt} {μ : gLg}
theorem g_sld (hexec : p.tables.exec = Jvm.exec) (hb : c.code = cc) {b L : Nat} {xs : Nat → Int32} (hXs : va_X b L xs s s.heap) (hbl : b < s.heap.size) (hbA : ¬ gA G b) (hH : gH D G s H locs σ μ) {i : Int} (h0 : 0 ≤ i ∧ i < L) (hL : L ≤ 2048) (hdg : decode cc pc = .ok (.iaload, 1))
    (kk : W p l e R s m args below meth c H locs cells slots Q (F0 m (pc + 1) ls (.int (gI (xs (Int.toNat i)).toInt) :: rest))) : W p l e R s m args below meth c H locs cells slots Q (F0 m pc ls (.int (gI i) :: .ref b :: rest)) := by
  refine va_sld hexec hb hXs hbl hbA hH.2 (gI_in h0.1 h0.2 (by omega)) hdg ?_
  rw [gI_c h0.1 ⟨by omega, by omega⟩, gI_x (xs (Int.toNat i))]
  exact kk
theorem g_callWi {y : MethodName} {bytes : ByteArray} {maxL nL n index mc ms : Nat} {ret : Option FieldType} {hh : List (Nat × Nat × Nat × Nat)} {rm : Room} {Ts : List Cond} {own : String} {As st0 : List Value} {σ' : gSt} {μ' : gLg} {r : Int} (S : CallFix p m c cc nL s args Ts own) (hM : Met l y (gWw y bytes maxL ret hh) rm (gPc D G As σ μ) (gQi D G r σ' μ') mc ms (gA G)) (cw : vx_CSW R s args own index y bytes maxL ret hh (gWw y bytes maxL ret hh) rm mc ms n) (hX : gX D G s) (hH : gH D G s H locs σ μ) (hn : As.length = n) (hsize : ls.size = nL) (hst : st0 = As.reverse ++ rest) (hW : (rest.map fun v => v.category).sum ≤ 8) (hdg : decode cc pc = .ok (.invokestatic index, 3)) (hf : cells + mc ≤ R.cells ∧ slots + ms ≤ R.slots)
    (kk : ∀ (H1 : Heap) (locs1 : List Loc), gH D G s H1 locs1 σ' μ' → W p l e R s m args below meth c H1 locs1 (cells + mc) (slots + ms) Q (F0 m (pc + 3) ls (.int (gI r) :: rest))) : W p l e R s m args below meth c H locs cells slots Q (F0 m pc ls st0) := by
  refine va_calli (mc := mc) (ms := ms) (free := gA G) (A0 := gA G) (A1 := gA G) (vx_runSW (As := As) (rest := rest) S hM cw ⟨gPc_blind, fun U hU hW2 => ⟨rfl, by rw [hU]; exact hH.1, hX.go hH.2 hU hW2⟩⟩ rfl hn hsize hst (lv_room hW) hdg hf) hH.2 (fun q _ h => h) (fun q h => h) (fun r0 u t H1 locs1 ht hvm hp hB hz hq hS => ?_)
  have hB2 : va_P D vwCl (gW G σ' μ') t.heap := hB
  rw [ht] at hB2
  subst hp
  exact kk H1 locs1 ⟨hB2, hS⟩
end GL2
theorem g_cwW {R : Room} {s : State} {args : Array Value} {own : String} {idx maxL mc ms : Nat} {y : MethodName} {bytes : ByteArray} {ret : Option FieldType} {hh : List (Nat × Nat × Nat × Nat)} {rm : Room} (n : Nat) (hts : ∀ w ∈ gLW, w.before args s = true) (h1 : Cond.methodLink own idx y ∈ gLW) (h2 : Cond.static y ∈ gLW) (h4 : Cond.initialized y.cls ∈ gLW) (h5 : Cond.codeWith y bytes maxL ret hh ∈ gLW) (hz : rm.cells = mc ∧ rm.slots = ms) (hd : y.cls ≠ "java/lang/invoke/MethodHandle" ∧ y.cls ≠ "java/lang/invoke/VarHandle" ∧ (parseMethodDescriptor y.desc).map (fun d => d.parameters.length) = some n) (hR : rm.frames + 1 ≤ R.frames ∧ 8 + (maxL + 11) + rm.locals ≤ R.locals) : vx_CSW R s args own idx y bytes maxL ret hh (gWw y bytes maxL ret hh) rm mc ms n := by
  refine vx_cwSW n hts (fun w hw => ?_) rfl hz.1 hz.2 hd hR
  have hg : ∀ w ∈ gLW, w ∈ gLW ∧ ((w.onTables && w.keeps) = true ∨ ∃ ty, w = .arrayClass ty) := fun w h => ⟨h, good_of_word (gLW_good h)⟩
  rcases List.mem_append.mp hw with hw | hw
  · simp only [List.mem_cons, List.not_mem_nil, or_false] at hw
    rcases hw with rfl | rfl | rfl
    · exact hg _ h1
    · exact hg _ h2
    · exact hg _ h4
  · rcases List.mem_cons.mp hw with rfl | hw
    · exact hg _ h5
    · exact hg _ hw
def gEq {α : Type} (x y : Int64) (a : Option α) : Option α := if x = y then a else none
theorem gEq_some {α : Type} {x y : Int64} {a : Option α} {r : α} (h : gEq x y a = some r) : x = y ∧ a = some r := by
  unfold gEq at h
  split at h
  · exact ⟨by assumption, h⟩
  · cases h
def DL_c0 (xs : Nat → Int32) (j : Nat) (σ : gSt) (μ : gLg) : Option (gSt × gLg) :=
  (gWrS (DX8_set σ (xs (Int.toNat ((4 * (j : Int)) + (1 : Int)))).toInt (xs (Int.toNat ((4 * (j : Int)) + (2 : Int)))).toInt) [(1, 1)] σ μ).bind fun q174 => (DX9_set q174.2.1 (xs (Int.toNat ((4 * (j : Int)) + (1 : Int)))).toInt (xs (Int.toNat ((4 * (j : Int)) + (2 : Int)))).toInt).bind fun q192 => (DX9_thrown q192.2).bind fun q198 => gIf (q198 = q174.1) q198 q174.1 (gIf (q174.1 = 0) q174.1 0 (gEq (q174.2.2 147) ((gI q192.1).toInt64) (some (q192.2, q174.2.2))) (some (q192.2, q174.2.2))) none
set_option maxHeartbeats 4000000 in
set_option maxRecDepth 100000 in
theorem lawc_0 {p : Program} {l : Launch} {e : Env} {s : State} {m : MethodId} {below : List Frame} {meth : Method} {c : Code} {b L j : Nat} {xs : Nat → Int32} {D : va_G} {G : gAd} {Q : State → Prop} (hlt : l.stackTraces = false) (hx : p.tables.exec = Jvm.exec) (hb : c.code = cL_law) (hml : c.maxLocals = 9) (hown : s.vm.findClass RL = some m.cls) (hts : ∀ w ∈ gLW, w.before #[Value.ref b] s = true) (hX : gX D G s) (hXs : va_X b L xs s s.heap) (hbl : b < s.heap.size) (hbA : ¬ gA G b) (hL : L ≤ 2048) (hj : 4 * j + 4 ≤ L) {H : Heap} {locs : List Loc} {ls : Array Slot} {cells slots : Nat} (hc : cells ≤ 500 + 3 * j) (hs : slots ≤ 20000 + 18 * j) {σ σ' : gSt} {μ μ' : gLg} (hH : gH D G s H locs σ μ) (hl : lv_has ls 9 [(0, .ref b), (1, .ref (G.1 0)), (2, .ref (G.1 136)), (3, .ref (G.1 147)), (4, .int (gI (4 * (j : Int))))]) (h : DL_c0 xs j σ μ = some (σ', μ')) (kk : ∀ (H1 : Heap) (locs1 : List Loc) (ls1 : Array Slot), gH D G s H1 locs1 σ' μ' → lv_has ls1 9 [(0, .ref b), (1, .ref (G.1 0)), (2, .ref (G.1 136)), (3, .ref (G.1 147)), (4, .int (gI (4 * (j : Int))))] → W p l e room_1 s m #[Value.ref b] below meth c H1 locs1 (cells + 1) (slots + 6) Q (F0 m 1537 ls1 [])) : W p l e room_1 s m #[Value.ref b] below meth c H locs cells slots Q (F0 m 160 ls []) := by
  unfold DL_c0 at h
  refine lv_aload_n hx hb dL_law_160 rfl (lv_at hl 1 rfl) ?_
  refine lv_aload_n hx hb dL_law_161 rfl (lv_at hl 0 rfl) ?_
  refine lv_iload hx hb dL_law_162 (lv_at hl 4 rfl) ?_
  refine lv_iconst (v := gI (1 : Int)) hx hb dL_law_164 (by decide) ?_
  refine g_iadd hx hb dL_law_165 ?_
  refine g_sld hx hb hXs hbl hbA hH ⟨by omega, by omega⟩ hL dL_law_166 ?_
  refine lv_aload_n hx hb dL_law_167 rfl (lv_at hl 0 rfl) ?_
  refine lv_iload hx hb dL_law_168 (lv_at hl 4 rfl) ?_
  refine lv_iconst (v := gI (2 : Int)) hx hb dL_law_170 (by decide) ?_
  refine g_iadd hx hb dL_law_171 ?_
  refine g_sld hx hb hXs hbl hbA hH ⟨by omega, by omega⟩ hL dL_law_172 ?_
  refine lv_aload_n hx hb dL_law_173 rfl (lv_at hl 3 rfl) ?_
  obtain ⟨q174, e174, h⟩ := gBind_some h
  refine g_callWi (As := [.ref (G.1 0), .int (gI (xs (Int.toNat ((4 * (j : Int)) + (1 : Int)))).toInt), .int (gI (xs (Int.toNat ((4 * (j : Int)) + (2 : Int)))).toInt), .ref (G.1 147)]) (rest := []) ⟨hx, hb, hml, hown, hts⟩ (metL_set l hlt D G σ μ (xs (Int.toNat ((4 * (j : Int)) + (1 : Int)))).toInt (xs (Int.toNat ((4 * (j : Int)) + (2 : Int)))).toInt q174.1 q174.2.1 q174.2.2 e174) (g_cwW 4 hts q_ml_L_80 q_st_L_set q_in_L q_cw_L_set ⟨rfl, rfl⟩ (by decide +kernel) ⟨Nat.le_of_ble_eq_true rfl, Nat.le_of_ble_eq_true rfl⟩) hX hH rfl hl.1 rfl (Nat.le_of_ble_eq_true rfl) dL_law_174 ⟨by show _ ≤ 601024; omega, by show _ ≤ 7293034; omega⟩ (fun H locs hH => ?_)
  refine lv_istore (lv' := [(5, .int (gI q174.1)), (0, .ref b), (1, .ref (G.1 0)), (2, .ref (G.1 136)), (3, .ref (G.1 147)), (4, .int (gI (4 * (j : Int))))]) hx hb dL_law_177 hl (by decide) rfl (fun ls hl => ?_)
  refine lv_aload_n hx hb dL_law_179 rfl (lv_at hl 3 rfl) ?_
  refine lv_aload_n hx hb dL_law_180 rfl (lv_at hl 1 rfl) ?_
  refine lv_iload hx hb dL_law_181 (lv_at hl 5 rfl) ?_
  refine lv_iconst (v := gI (1 : Int)) hx hb dL_law_183 (by decide) ?_
  refine g_iadd hx hb dL_law_184 ?_
  refine g_sld hx hb hXs hbl hbA hH ⟨by omega, by omega⟩ hL dL_law_185 ?_
  refine lv_aload_n hx hb dL_law_186 rfl (lv_at hl 1 rfl) ?_
  refine lv_iload hx hb dL_law_187 (lv_at hl 5 rfl) ?_
  refine lv_iconst (v := gI (2 : Int)) hx hb dL_law_189 (by decide) ?_
  refine g_iadd hx hb dL_law_190 ?_
  refine g_sld hx hb hXs hbl hbA hH ⟨by omega, by omega⟩ hL dL_law_191 ?_
  obtain ⟨q192, e192, h⟩ := gBind_some h
  refine g_callVi (k := 136) (T := TX9) (N := 19) (As := [.int (gI (xs (Int.toNat ((4 * (j : Int)) + (1 : Int)))).toInt), .int (gI (xs (Int.toNat ((4 * (j : Int)) + (2 : Int)))).toInt)]) (rest := []) ⟨hx, hb, hml, hown, hts⟩ (metX9_set l D G q174.2.1 q174.2.2 (xs (Int.toNat ((4 * (j : Int)) + (1 : Int)))).toInt (xs (Int.toNat ((4 * (j : Int)) + (2 : Int)))).toInt q192.1 q192.2 e192) (g_cwV (C := RX9) 2 hts q_ml_L_85 q_im_X9_set q_se_X9_set q_in_X9 q_co_X9_set ⟨rfl, rfl⟩ (by decide +kernel) ⟨Nat.le_of_ble_eq_true rfl, Nat.le_of_ble_eq_true rfl⟩) hX hH (rfl : gKinds[136]? = _) rfl rfl hl.1 rfl (Nat.le_of_ble_eq_true rfl) dL_law_192 ⟨by show _ ≤ 601024; omega, by show _ ≤ 7293034; omega⟩ (fun H locs hH => ?_)
  refine lv_istore (lv' := [(6, .int (gI q192.1)), (5, .int (gI q174.1)), (0, .ref b), (1, .ref (G.1 0)), (2, .ref (G.1 136)), (3, .ref (G.1 147)), (4, .int (gI (4 * (j : Int))))]) hx hb dL_law_195 hl (by decide) rfl (fun ls hl => ?_)
  refine lv_aload_n hx hb dL_law_197 rfl (lv_at hl 4 rfl) ?_
  obtain ⟨q198, e198, h⟩ := gBind_some h
  refine g_callVi (k := 136) (T := TX9) (N := 19) (As := []) (rest := []) ⟨hx, hb, hml, hown, hts⟩ (metX9_thrown l D G q192.2 q174.2.2 q198 e198) (g_cwV (C := RX9) 0 hts q_ml_L_86 q_im_X9_thrown q_se_X9_thrown q_in_X9 q_co_X9_thrown ⟨rfl, rfl⟩ (by decide +kernel) ⟨Nat.le_of_ble_eq_true rfl, Nat.le_of_ble_eq_true rfl⟩) hX hH (rfl : gKinds[136]? = _) rfl rfl hl.1 rfl (Nat.le_of_ble_eq_true rfl) dL_law_198 ⟨by show _ ≤ 601024; omega, by show _ ≤ 7293034; omega⟩ (fun H locs hH => ?_)
  refine lv_iload hx hb dL_law_201 (lv_at hl 1 rfl) ?_
  refine g_icmp_eq (tgt := 208) hx hb dL_law_203 (by decide) h (fun h => ?_) (fun h => absurd h (fun z => by cases z))
  refine lv_iload hx hb dL_law_208 (lv_at hl 1 rfl) ?_
  refine g_if_ne (tgt := 225) hx hb dL_law_210 (by decide) h (fun h => ?_) (fun h => ?_)
  · refine lv_goto (tgt := 1537) hx hb dL_law_225 (by decide) ?_
    cases h
    exact kk _ _ _ hH (lv_sub hl [2, 3, 4, 5, 6] rfl)
  · refine lv_aload_n hx hb dL_law_213 rfl (lv_at hl 5 rfl) ?_
    refine lv_iconst (v := gI (0 : Int)) hx hb dL_law_214 (by decide) ?_
    refine g_lald hx hb hX hH (k := 147) (rfl : gKinds[147]? = _) dL_law_215 ?_
    refine lv_iload hx hb dL_law_216 (lv_at hl 0 rfl) ?_
    refine lv_i2l (v := (gI q192.1).toInt64) hx hb dL_law_218 rfl ?_
    have hcmp : (q174.2.2 147) = ((gI q192.1).toInt64) := (gEq_some h).1
    have h := (gEq_some h).2
    refine W.lcmp hx hb dL_law_219 ?_
    have hc0 : lg_cmp (q174.2.2 147) ((gI q192.1).toInt64) = 0 := by rw [hcmp]; simp [lg_cmp]
    rw [hc0]
    refine lv_if_eq (tgt := 225) hx hb dL_law_220 (by decide) (fun _ => ?_) (fun z => absurd rfl z)
    refine lv_goto (tgt := 1537) hx hb dL_law_225 (by decide) ?_
    cases h
    exact kk _ _ _ hH (lv_sub hl [2, 3, 4, 5, 6] rfl)
def DL_c1 (xs : Nat → Int32) (j : Nat) (σ : gSt) (μ : gLg) : Option (gSt × gLg) :=
  (gWrP (DX8_value σ (xs (Int.toNat ((4 * (j : Int)) + (1 : Int)))).toInt) [(1, 1)] μ).bind fun q236 => (DX9_value σ (xs (Int.toNat ((4 * (j : Int)) + (1 : Int)))).toInt).bind fun q248 => (DX9_thrown q248.2).bind fun q254 => gIf (q254 = q236.1) q254 q236.1 (gIf (q236.1 = 0) q236.1 0 (gEq (q236.2 147) ((gI q248.1).toInt64) (some (q248.2, q236.2))) (some (q248.2, q236.2))) none
set_option maxHeartbeats 4000000 in
set_option maxRecDepth 100000 in
theorem lawc_1 {p : Program} {l : Launch} {e : Env} {s : State} {m : MethodId} {below : List Frame} {meth : Method} {c : Code} {b L j : Nat} {xs : Nat → Int32} {D : va_G} {G : gAd} {Q : State → Prop} (hlt : l.stackTraces = false) (hx : p.tables.exec = Jvm.exec) (hb : c.code = cL_law) (hml : c.maxLocals = 9) (hown : s.vm.findClass RL = some m.cls) (hts : ∀ w ∈ gLW, w.before #[Value.ref b] s = true) (hX : gX D G s) (hXs : va_X b L xs s s.heap) (hbl : b < s.heap.size) (hbA : ¬ gA G b) (hL : L ≤ 2048) (hj : 4 * j + 4 ≤ L) {H : Heap} {locs : List Loc} {ls : Array Slot} {cells slots : Nat} (hc : cells ≤ 500 + 3 * j) (hs : slots ≤ 20000 + 18 * j) {σ σ' : gSt} {μ μ' : gLg} (hH : gH D G s H locs σ μ) (hl : lv_has ls 9 [(0, .ref b), (1, .ref (G.1 0)), (2, .ref (G.1 136)), (3, .ref (G.1 147)), (4, .int (gI (4 * (j : Int))))]) (h : DL_c1 xs j σ μ = some (σ', μ')) (kk : ∀ (H1 : Heap) (locs1 : List Loc) (ls1 : Array Slot), gH D G s H1 locs1 σ' μ' → lv_has ls1 9 [(0, .ref b), (1, .ref (G.1 0)), (2, .ref (G.1 136)), (3, .ref (G.1 147)), (4, .int (gI (4 * (j : Int))))] → W p l e room_1 s m #[Value.ref b] below meth c H1 locs1 (cells + 1) (slots + 6) Q (F0 m 1537 ls1 [])) : W p l e room_1 s m #[Value.ref b] below meth c H locs cells slots Q (F0 m 228 ls []) := by
  unfold DL_c1 at h
  refine lv_aload_n hx hb dL_law_228 rfl (lv_at hl 1 rfl) ?_
  refine lv_aload_n hx hb dL_law_229 rfl (lv_at hl 0 rfl) ?_
  refine lv_iload hx hb dL_law_230 (lv_at hl 4 rfl) ?_
  refine lv_iconst (v := gI (1 : Int)) hx hb dL_law_232 (by decide) ?_
  refine g_iadd hx hb dL_law_233 ?_
  refine g_sld hx hb hXs hbl hbA hH ⟨by omega, by omega⟩ hL dL_law_234 ?_
  refine lv_aload_n hx hb dL_law_235 rfl (lv_at hl 3 rfl) ?_
  obtain ⟨q236, e236, h⟩ := gBind_some h
  refine g_callWi (As := [.ref (G.1 0), .int (gI (xs (Int.toNat ((4 * (j : Int)) + (1 : Int)))).toInt), .ref (G.1 147)]) (rest := []) ⟨hx, hb, hml, hown, hts⟩ (metL_value l hlt D G σ μ (xs (Int.toNat ((4 * (j : Int)) + (1 : Int)))).toInt q236.1 q236.2 e236) (g_cwW 3 hts q_ml_L_89 q_st_L_value q_in_L q_cw_L_value ⟨rfl, rfl⟩ (by decide +kernel) ⟨Nat.le_of_ble_eq_true rfl, Nat.le_of_ble_eq_true rfl⟩) hX hH rfl hl.1 rfl (Nat.le_of_ble_eq_true rfl) dL_law_236 ⟨by show _ ≤ 601024; omega, by show _ ≤ 7293034; omega⟩ (fun H locs hH => ?_)
  refine lv_istore (lv' := [(5, .int (gI q236.1)), (0, .ref b), (1, .ref (G.1 0)), (2, .ref (G.1 136)), (3, .ref (G.1 147)), (4, .int (gI (4 * (j : Int))))]) hx hb dL_law_239 hl (by decide) rfl (fun ls hl => ?_)
  refine lv_aload_n hx hb dL_law_241 rfl (lv_at hl 3 rfl) ?_
  refine lv_aload_n hx hb dL_law_242 rfl (lv_at hl 1 rfl) ?_
  refine lv_iload hx hb dL_law_243 (lv_at hl 5 rfl) ?_
  refine lv_iconst (v := gI (1 : Int)) hx hb dL_law_245 (by decide) ?_
  refine g_iadd hx hb dL_law_246 ?_
  refine g_sld hx hb hXs hbl hbA hH ⟨by omega, by omega⟩ hL dL_law_247 ?_
  obtain ⟨q248, e248, h⟩ := gBind_some h
  refine g_callVi (k := 136) (T := TX9) (N := 19) (As := [.int (gI (xs (Int.toNat ((4 * (j : Int)) + (1 : Int)))).toInt)]) (rest := []) ⟨hx, hb, hml, hown, hts⟩ (metX9_value l D G σ q236.2 (xs (Int.toNat ((4 * (j : Int)) + (1 : Int)))).toInt q248.1 q248.2 e248) (g_cwV (C := RX9) 1 hts q_ml_L_92 q_im_X9_value q_se_X9_value q_in_X9 q_co_X9_value ⟨rfl, rfl⟩ (by decide +kernel) ⟨Nat.le_of_ble_eq_true rfl, Nat.le_of_ble_eq_true rfl⟩) hX hH (rfl : gKinds[136]? = _) rfl rfl hl.1 rfl (Nat.le_of_ble_eq_true rfl) dL_law_248 ⟨by show _ ≤ 601024; omega, by show _ ≤ 7293034; omega⟩ (fun H locs hH => ?_)
  refine lv_istore (lv' := [(6, .int (gI q248.1)), (5, .int (gI q236.1)), (0, .ref b), (1, .ref (G.1 0)), (2, .ref (G.1 136)), (3, .ref (G.1 147)), (4, .int (gI (4 * (j : Int))))]) hx hb dL_law_251 hl (by decide) rfl (fun ls hl => ?_)
  refine lv_aload_n hx hb dL_law_253 rfl (lv_at hl 4 rfl) ?_
  obtain ⟨q254, e254, h⟩ := gBind_some h
  refine g_callVi (k := 136) (T := TX9) (N := 19) (As := []) (rest := []) ⟨hx, hb, hml, hown, hts⟩ (metX9_thrown l D G q248.2 q236.2 q254 e254) (g_cwV (C := RX9) 0 hts q_ml_L_86 q_im_X9_thrown q_se_X9_thrown q_in_X9 q_co_X9_thrown ⟨rfl, rfl⟩ (by decide +kernel) ⟨Nat.le_of_ble_eq_true rfl, Nat.le_of_ble_eq_true rfl⟩) hX hH (rfl : gKinds[136]? = _) rfl rfl hl.1 rfl (Nat.le_of_ble_eq_true rfl) dL_law_254 ⟨by show _ ≤ 601024; omega, by show _ ≤ 7293034; omega⟩ (fun H locs hH => ?_)
  refine lv_iload hx hb dL_law_257 (lv_at hl 1 rfl) ?_
  refine g_icmp_eq (tgt := 264) hx hb dL_law_259 (by decide) h (fun h => ?_) (fun h => absurd h (fun z => by cases z))
  refine lv_iload hx hb dL_law_264 (lv_at hl 1 rfl) ?_
  refine g_if_ne (tgt := 281) hx hb dL_law_266 (by decide) h (fun h => ?_) (fun h => ?_)
  · refine lv_goto (tgt := 1537) hx hb dL_law_281 (by decide) ?_
    cases h
    exact kk _ _ _ hH (lv_sub hl [2, 3, 4, 5, 6] rfl)
  · refine lv_aload_n hx hb dL_law_269 rfl (lv_at hl 5 rfl) ?_
    refine lv_iconst (v := gI (0 : Int)) hx hb dL_law_270 (by decide) ?_
    refine g_lald hx hb hX hH (k := 147) (rfl : gKinds[147]? = _) dL_law_271 ?_
    refine lv_iload hx hb dL_law_272 (lv_at hl 0 rfl) ?_
    refine lv_i2l (v := (gI q248.1).toInt64) hx hb dL_law_274 rfl ?_
    have hcmp : (q236.2 147) = ((gI q248.1).toInt64) := (gEq_some h).1
    have h := (gEq_some h).2
    refine W.lcmp hx hb dL_law_275 ?_
    have hc0 : lg_cmp (q236.2 147) ((gI q248.1).toInt64) = 0 := by rw [hcmp]; simp [lg_cmp]
    rw [hc0]
    refine lv_if_eq (tgt := 281) hx hb dL_law_276 (by decide) (fun _ => ?_) (fun z => absurd rfl z)
    refine lv_goto (tgt := 1537) hx hb dL_law_281 (by decide) ?_
    cases h
    exact kk _ _ _ hH (lv_sub hl [2, 3, 4, 5, 6] rfl)
def DL_c2 (xs : Nat → Int32) (j : Nat) (σ : gSt) (μ : gLg) : Option (gSt × gLg) :=
  (gWrS (DX8_addTask σ (xs (Int.toNat ((4 * (j : Int)) + (1 : Int)))).toInt (xs (Int.toNat ((4 * (j : Int)) + (2 : Int)))).toInt (xs (Int.toNat ((4 * (j : Int)) + (3 : Int)))).toInt) [(1, 1), (2, 2)] σ μ).bind fun q304 => (DX9_addTask q304.2.1 (xs (Int.toNat ((4 * (j : Int)) + (1 : Int)))).toInt (xs (Int.toNat ((4 * (j : Int)) + (2 : Int)))).toInt (xs (Int.toNat ((4 * (j : Int)) + (3 : Int)))).toInt).bind fun q328 => (DX9_thrown q328.2).bind fun q334 => gIf (q334 = q304.1) q334 q304.1 (gIf (q304.1 = 0) q304.1 0 (gEq (q304.2.2 147) ((gI q328.1).toInt64) (some (q328.2, q304.2.2))) (some (q328.2, q304.2.2))) none
set_option maxHeartbeats 4000000 in
set_option maxRecDepth 100000 in
theorem lawc_2 {p : Program} {l : Launch} {e : Env} {s : State} {m : MethodId} {below : List Frame} {meth : Method} {c : Code} {b L j : Nat} {xs : Nat → Int32} {D : va_G} {G : gAd} {Q : State → Prop} (hlt : l.stackTraces = false) (hx : p.tables.exec = Jvm.exec) (hb : c.code = cL_law) (hml : c.maxLocals = 9) (hown : s.vm.findClass RL = some m.cls) (hts : ∀ w ∈ gLW, w.before #[Value.ref b] s = true) (hX : gX D G s) (hXs : va_X b L xs s s.heap) (hbl : b < s.heap.size) (hbA : ¬ gA G b) (hL : L ≤ 2048) (hj : 4 * j + 4 ≤ L) {H : Heap} {locs : List Loc} {ls : Array Slot} {cells slots : Nat} (hc : cells ≤ 500 + 3 * j) (hs : slots ≤ 20000 + 18 * j) {σ σ' : gSt} {μ μ' : gLg} (hH : gH D G s H locs σ μ) (hl : lv_has ls 9 [(0, .ref b), (1, .ref (G.1 0)), (2, .ref (G.1 136)), (3, .ref (G.1 147)), (4, .int (gI (4 * (j : Int))))]) (h : DL_c2 xs j σ μ = some (σ', μ')) (kk : ∀ (H1 : Heap) (locs1 : List Loc) (ls1 : Array Slot), gH D G s H1 locs1 σ' μ' → lv_has ls1 9 [(0, .ref b), (1, .ref (G.1 0)), (2, .ref (G.1 136)), (3, .ref (G.1 147)), (4, .int (gI (4 * (j : Int))))] → W p l e room_1 s m #[Value.ref b] below meth c H1 locs1 (cells + 1) (slots + 6) Q (F0 m 1537 ls1 [])) : W p l e room_1 s m #[Value.ref b] below meth c H locs cells slots Q (F0 m 284 ls []) := by
  unfold DL_c2 at h
  refine lv_aload_n hx hb dL_law_284 rfl (lv_at hl 1 rfl) ?_
  refine lv_aload_n hx hb dL_law_285 rfl (lv_at hl 0 rfl) ?_
  refine lv_iload hx hb dL_law_286 (lv_at hl 4 rfl) ?_
  refine lv_iconst (v := gI (1 : Int)) hx hb dL_law_288 (by decide) ?_
  refine g_iadd hx hb dL_law_289 ?_
  refine g_sld hx hb hXs hbl hbA hH ⟨by omega, by omega⟩ hL dL_law_290 ?_
  refine lv_aload_n hx hb dL_law_291 rfl (lv_at hl 0 rfl) ?_
  refine lv_iload hx hb dL_law_292 (lv_at hl 4 rfl) ?_
  refine lv_iconst (v := gI (2 : Int)) hx hb dL_law_294 (by decide) ?_
  refine g_iadd hx hb dL_law_295 ?_
  refine g_sld hx hb hXs hbl hbA hH ⟨by omega, by omega⟩ hL dL_law_296 ?_
  refine lv_aload_n hx hb dL_law_297 rfl (lv_at hl 0 rfl) ?_
  refine lv_iload hx hb dL_law_298 (lv_at hl 4 rfl) ?_
  refine lv_iconst (v := gI (3 : Int)) hx hb dL_law_300 (by decide) ?_
  refine g_iadd hx hb dL_law_301 ?_
  refine g_sld hx hb hXs hbl hbA hH ⟨by omega, by omega⟩ hL dL_law_302 ?_
  refine lv_aload_n hx hb dL_law_303 rfl (lv_at hl 3 rfl) ?_
  obtain ⟨q304, e304, h⟩ := gBind_some h
  refine g_callWi (As := [.ref (G.1 0), .int (gI (xs (Int.toNat ((4 * (j : Int)) + (1 : Int)))).toInt), .int (gI (xs (Int.toNat ((4 * (j : Int)) + (2 : Int)))).toInt), .int (gI (xs (Int.toNat ((4 * (j : Int)) + (3 : Int)))).toInt), .ref (G.1 147)]) (rest := []) ⟨hx, hb, hml, hown, hts⟩ (metL_addTask l hlt D G σ μ (xs (Int.toNat ((4 * (j : Int)) + (1 : Int)))).toInt (xs (Int.toNat ((4 * (j : Int)) + (2 : Int)))).toInt (xs (Int.toNat ((4 * (j : Int)) + (3 : Int)))).toInt q304.1 q304.2.1 q304.2.2 e304) (g_cwW 5 hts q_ml_L_93 q_st_L_addTask q_in_L q_cw_L_addTask ⟨rfl, rfl⟩ (by decide +kernel) ⟨Nat.le_of_ble_eq_true rfl, Nat.le_of_ble_eq_true rfl⟩) hX hH rfl hl.1 rfl (Nat.le_of_ble_eq_true rfl) dL_law_304 ⟨by show _ ≤ 601024; omega, by show _ ≤ 7293034; omega⟩ (fun H locs hH => ?_)
  refine lv_istore (lv' := [(5, .int (gI q304.1)), (0, .ref b), (1, .ref (G.1 0)), (2, .ref (G.1 136)), (3, .ref (G.1 147)), (4, .int (gI (4 * (j : Int))))]) hx hb dL_law_307 hl (by decide) rfl (fun ls hl => ?_)
  refine lv_aload_n hx hb dL_law_309 rfl (lv_at hl 3 rfl) ?_
  refine lv_aload_n hx hb dL_law_310 rfl (lv_at hl 1 rfl) ?_
  refine lv_iload hx hb dL_law_311 (lv_at hl 5 rfl) ?_
  refine lv_iconst (v := gI (1 : Int)) hx hb dL_law_313 (by decide) ?_
  refine g_iadd hx hb dL_law_314 ?_
  refine g_sld hx hb hXs hbl hbA hH ⟨by omega, by omega⟩ hL dL_law_315 ?_
  refine lv_aload_n hx hb dL_law_316 rfl (lv_at hl 1 rfl) ?_
  refine lv_iload hx hb dL_law_317 (lv_at hl 5 rfl) ?_
  refine lv_iconst (v := gI (2 : Int)) hx hb dL_law_319 (by decide) ?_
  refine g_iadd hx hb dL_law_320 ?_
  refine g_sld hx hb hXs hbl hbA hH ⟨by omega, by omega⟩ hL dL_law_321 ?_
  refine lv_aload_n hx hb dL_law_322 rfl (lv_at hl 1 rfl) ?_
  refine lv_iload hx hb dL_law_323 (lv_at hl 5 rfl) ?_
  refine lv_iconst (v := gI (3 : Int)) hx hb dL_law_325 (by decide) ?_
  refine g_iadd hx hb dL_law_326 ?_
  refine g_sld hx hb hXs hbl hbA hH ⟨by omega, by omega⟩ hL dL_law_327 ?_
  obtain ⟨q328, e328, h⟩ := gBind_some h
  refine g_callVi (k := 136) (T := TX9) (N := 19) (As := [.int (gI (xs (Int.toNat ((4 * (j : Int)) + (1 : Int)))).toInt), .int (gI (xs (Int.toNat ((4 * (j : Int)) + (2 : Int)))).toInt), .int (gI (xs (Int.toNat ((4 * (j : Int)) + (3 : Int)))).toInt)]) (rest := []) ⟨hx, hb, hml, hown, hts⟩ (metX9_addTask l D G q304.2.1 q304.2.2 (xs (Int.toNat ((4 * (j : Int)) + (1 : Int)))).toInt (xs (Int.toNat ((4 * (j : Int)) + (2 : Int)))).toInt (xs (Int.toNat ((4 * (j : Int)) + (3 : Int)))).toInt q328.1 q328.2 e328) (g_cwV (C := RX9) 3 hts q_ml_L_96 q_im_X9_addTask q_se_X9_addTask q_in_X9 q_co_X9_addTask ⟨rfl, rfl⟩ (by decide +kernel) ⟨Nat.le_of_ble_eq_true rfl, Nat.le_of_ble_eq_true rfl⟩) hX hH (rfl : gKinds[136]? = _) rfl rfl hl.1 rfl (Nat.le_of_ble_eq_true rfl) dL_law_328 ⟨by show _ ≤ 601024; omega, by show _ ≤ 7293034; omega⟩ (fun H locs hH => ?_)
  refine lv_istore (lv' := [(6, .int (gI q328.1)), (5, .int (gI q304.1)), (0, .ref b), (1, .ref (G.1 0)), (2, .ref (G.1 136)), (3, .ref (G.1 147)), (4, .int (gI (4 * (j : Int))))]) hx hb dL_law_331 hl (by decide) rfl (fun ls hl => ?_)
  refine lv_aload_n hx hb dL_law_333 rfl (lv_at hl 4 rfl) ?_
  obtain ⟨q334, e334, h⟩ := gBind_some h
  refine g_callVi (k := 136) (T := TX9) (N := 19) (As := []) (rest := []) ⟨hx, hb, hml, hown, hts⟩ (metX9_thrown l D G q328.2 q304.2.2 q334 e334) (g_cwV (C := RX9) 0 hts q_ml_L_86 q_im_X9_thrown q_se_X9_thrown q_in_X9 q_co_X9_thrown ⟨rfl, rfl⟩ (by decide +kernel) ⟨Nat.le_of_ble_eq_true rfl, Nat.le_of_ble_eq_true rfl⟩) hX hH (rfl : gKinds[136]? = _) rfl rfl hl.1 rfl (Nat.le_of_ble_eq_true rfl) dL_law_334 ⟨by show _ ≤ 601024; omega, by show _ ≤ 7293034; omega⟩ (fun H locs hH => ?_)
  refine lv_iload hx hb dL_law_337 (lv_at hl 1 rfl) ?_
  refine g_icmp_eq (tgt := 344) hx hb dL_law_339 (by decide) h (fun h => ?_) (fun h => absurd h (fun z => by cases z))
  refine lv_iload hx hb dL_law_344 (lv_at hl 1 rfl) ?_
  refine g_if_ne (tgt := 361) hx hb dL_law_346 (by decide) h (fun h => ?_) (fun h => ?_)
  · refine lv_goto (tgt := 1537) hx hb dL_law_361 (by decide) ?_
    cases h
    exact kk _ _ _ hH (lv_sub hl [2, 3, 4, 5, 6] rfl)
  · refine lv_aload_n hx hb dL_law_349 rfl (lv_at hl 5 rfl) ?_
    refine lv_iconst (v := gI (0 : Int)) hx hb dL_law_350 (by decide) ?_
    refine g_lald hx hb hX hH (k := 147) (rfl : gKinds[147]? = _) dL_law_351 ?_
    refine lv_iload hx hb dL_law_352 (lv_at hl 0 rfl) ?_
    refine lv_i2l (v := (gI q328.1).toInt64) hx hb dL_law_354 rfl ?_
    have hcmp : (q304.2.2 147) = ((gI q328.1).toInt64) := (gEq_some h).1
    have h := (gEq_some h).2
    refine W.lcmp hx hb dL_law_355 ?_
    have hc0 : lg_cmp (q304.2.2 147) ((gI q328.1).toInt64) = 0 := by rw [hcmp]; simp [lg_cmp]
    rw [hc0]
    refine lv_if_eq (tgt := 361) hx hb dL_law_356 (by decide) (fun _ => ?_) (fun z => absurd rfl z)
    refine lv_goto (tgt := 1537) hx hb dL_law_361 (by decide) ?_
    cases h
    exact kk _ _ _ hH (lv_sub hl [2, 3, 4, 5, 6] rfl)
def DL_c3 (xs : Nat → Int32) (j : Nat) (σ : gSt) (μ : gLg) : Option (gSt × gLg) :=
  (gWrS (DX8_move σ (xs (Int.toNat ((4 * (j : Int)) + (1 : Int)))).toInt (xs (Int.toNat ((4 * (j : Int)) + (2 : Int)))).toInt (xs (Int.toNat ((4 * (j : Int)) + (3 : Int)))).toInt) [(3, 1), (1, 2)] σ μ).bind fun q384 => (DX9_move q384.2.1 (xs (Int.toNat ((4 * (j : Int)) + (1 : Int)))).toInt (xs (Int.toNat ((4 * (j : Int)) + (2 : Int)))).toInt (xs (Int.toNat ((4 * (j : Int)) + (3 : Int)))).toInt).bind fun q408 => (DX9_thrown q408.2).bind fun q414 => gIf (q414 = q384.1) q414 q384.1 (gIf (q384.1 = 0) q384.1 0 (gEq (q384.2.2 147) ((gI q408.1).toInt64) (some (q408.2, q384.2.2))) (some (q408.2, q384.2.2))) none
set_option maxHeartbeats 4000000 in
set_option maxRecDepth 100000 in
theorem lawc_3 {p : Program} {l : Launch} {e : Env} {s : State} {m : MethodId} {below : List Frame} {meth : Method} {c : Code} {b L j : Nat} {xs : Nat → Int32} {D : va_G} {G : gAd} {Q : State → Prop} (hlt : l.stackTraces = false) (hx : p.tables.exec = Jvm.exec) (hb : c.code = cL_law) (hml : c.maxLocals = 9) (hown : s.vm.findClass RL = some m.cls) (hts : ∀ w ∈ gLW, w.before #[Value.ref b] s = true) (hX : gX D G s) (hXs : va_X b L xs s s.heap) (hbl : b < s.heap.size) (hbA : ¬ gA G b) (hL : L ≤ 2048) (hj : 4 * j + 4 ≤ L) {H : Heap} {locs : List Loc} {ls : Array Slot} {cells slots : Nat} (hc : cells ≤ 500 + 3 * j) (hs : slots ≤ 20000 + 18 * j) {σ σ' : gSt} {μ μ' : gLg} (hH : gH D G s H locs σ μ) (hl : lv_has ls 9 [(0, .ref b), (1, .ref (G.1 0)), (2, .ref (G.1 136)), (3, .ref (G.1 147)), (4, .int (gI (4 * (j : Int))))]) (h : DL_c3 xs j σ μ = some (σ', μ')) (kk : ∀ (H1 : Heap) (locs1 : List Loc) (ls1 : Array Slot), gH D G s H1 locs1 σ' μ' → lv_has ls1 9 [(0, .ref b), (1, .ref (G.1 0)), (2, .ref (G.1 136)), (3, .ref (G.1 147)), (4, .int (gI (4 * (j : Int))))] → W p l e room_1 s m #[Value.ref b] below meth c H1 locs1 (cells + 2) (slots + 12) Q (F0 m 1537 ls1 [])) : W p l e room_1 s m #[Value.ref b] below meth c H locs cells slots Q (F0 m 364 ls []) := by
  unfold DL_c3 at h
  refine lv_aload_n hx hb dL_law_364 rfl (lv_at hl 1 rfl) ?_
  refine lv_aload_n hx hb dL_law_365 rfl (lv_at hl 0 rfl) ?_
  refine lv_iload hx hb dL_law_366 (lv_at hl 4 rfl) ?_
  refine lv_iconst (v := gI (1 : Int)) hx hb dL_law_368 (by decide) ?_
  refine g_iadd hx hb dL_law_369 ?_
  refine g_sld hx hb hXs hbl hbA hH ⟨by omega, by omega⟩ hL dL_law_370 ?_
  refine lv_aload_n hx hb dL_law_371 rfl (lv_at hl 0 rfl) ?_
  refine lv_iload hx hb dL_law_372 (lv_at hl 4 rfl) ?_
  refine lv_iconst (v := gI (2 : Int)) hx hb dL_law_374 (by decide) ?_
  refine g_iadd hx hb dL_law_375 ?_
  refine g_sld hx hb hXs hbl hbA hH ⟨by omega, by omega⟩ hL dL_law_376 ?_
  refine lv_aload_n hx hb dL_law_377 rfl (lv_at hl 0 rfl) ?_
  refine lv_iload hx hb dL_law_378 (lv_at hl 4 rfl) ?_
  refine lv_iconst (v := gI (3 : Int)) hx hb dL_law_380 (by decide) ?_
  refine g_iadd hx hb dL_law_381 ?_
  refine g_sld hx hb hXs hbl hbA hH ⟨by omega, by omega⟩ hL dL_law_382 ?_
  refine lv_aload_n hx hb dL_law_383 rfl (lv_at hl 3 rfl) ?_
  obtain ⟨q384, e384, h⟩ := gBind_some h
  refine g_callWi (As := [.ref (G.1 0), .int (gI (xs (Int.toNat ((4 * (j : Int)) + (1 : Int)))).toInt), .int (gI (xs (Int.toNat ((4 * (j : Int)) + (2 : Int)))).toInt), .int (gI (xs (Int.toNat ((4 * (j : Int)) + (3 : Int)))).toInt), .ref (G.1 147)]) (rest := []) ⟨hx, hb, hml, hown, hts⟩ (metL_move l hlt D G σ μ (xs (Int.toNat ((4 * (j : Int)) + (1 : Int)))).toInt (xs (Int.toNat ((4 * (j : Int)) + (2 : Int)))).toInt (xs (Int.toNat ((4 * (j : Int)) + (3 : Int)))).toInt q384.1 q384.2.1 q384.2.2 e384) (g_cwW 5 hts q_ml_L_97 q_st_L_move q_in_L q_cw_L_move ⟨rfl, rfl⟩ (by decide +kernel) ⟨Nat.le_of_ble_eq_true rfl, Nat.le_of_ble_eq_true rfl⟩) hX hH rfl hl.1 rfl (Nat.le_of_ble_eq_true rfl) dL_law_384 ⟨by show _ ≤ 601024; omega, by show _ ≤ 7293034; omega⟩ (fun H locs hH => ?_)
  refine lv_istore (lv' := [(5, .int (gI q384.1)), (0, .ref b), (1, .ref (G.1 0)), (2, .ref (G.1 136)), (3, .ref (G.1 147)), (4, .int (gI (4 * (j : Int))))]) hx hb dL_law_387 hl (by decide) rfl (fun ls hl => ?_)
  refine lv_aload_n hx hb dL_law_389 rfl (lv_at hl 3 rfl) ?_
  refine lv_aload_n hx hb dL_law_390 rfl (lv_at hl 1 rfl) ?_
  refine lv_iload hx hb dL_law_391 (lv_at hl 5 rfl) ?_
  refine lv_iconst (v := gI (1 : Int)) hx hb dL_law_393 (by decide) ?_
  refine g_iadd hx hb dL_law_394 ?_
  refine g_sld hx hb hXs hbl hbA hH ⟨by omega, by omega⟩ hL dL_law_395 ?_
  refine lv_aload_n hx hb dL_law_396 rfl (lv_at hl 1 rfl) ?_
  refine lv_iload hx hb dL_law_397 (lv_at hl 5 rfl) ?_
  refine lv_iconst (v := gI (2 : Int)) hx hb dL_law_399 (by decide) ?_
  refine g_iadd hx hb dL_law_400 ?_
  refine g_sld hx hb hXs hbl hbA hH ⟨by omega, by omega⟩ hL dL_law_401 ?_
  refine lv_aload_n hx hb dL_law_402 rfl (lv_at hl 1 rfl) ?_
  refine lv_iload hx hb dL_law_403 (lv_at hl 5 rfl) ?_
  refine lv_iconst (v := gI (3 : Int)) hx hb dL_law_405 (by decide) ?_
  refine g_iadd hx hb dL_law_406 ?_
  refine g_sld hx hb hXs hbl hbA hH ⟨by omega, by omega⟩ hL dL_law_407 ?_
  obtain ⟨q408, e408, h⟩ := gBind_some h
  refine g_callVi (k := 136) (T := TX9) (N := 19) (As := [.int (gI (xs (Int.toNat ((4 * (j : Int)) + (1 : Int)))).toInt), .int (gI (xs (Int.toNat ((4 * (j : Int)) + (2 : Int)))).toInt), .int (gI (xs (Int.toNat ((4 * (j : Int)) + (3 : Int)))).toInt)]) (rest := []) ⟨hx, hb, hml, hown, hts⟩ (metX9_move l D G q384.2.1 q384.2.2 (xs (Int.toNat ((4 * (j : Int)) + (1 : Int)))).toInt (xs (Int.toNat ((4 * (j : Int)) + (2 : Int)))).toInt (xs (Int.toNat ((4 * (j : Int)) + (3 : Int)))).toInt q408.1 q408.2 e408) (g_cwV (C := RX9) 3 hts q_ml_L_99 q_im_X9_move q_se_X9_move q_in_X9 q_co_X9_move ⟨rfl, rfl⟩ (by decide +kernel) ⟨Nat.le_of_ble_eq_true rfl, Nat.le_of_ble_eq_true rfl⟩) hX hH (rfl : gKinds[136]? = _) rfl rfl hl.1 rfl (Nat.le_of_ble_eq_true rfl) dL_law_408 ⟨by show _ ≤ 601024; omega, by show _ ≤ 7293034; omega⟩ (fun H locs hH => ?_)
  refine lv_istore (lv' := [(6, .int (gI q408.1)), (5, .int (gI q384.1)), (0, .ref b), (1, .ref (G.1 0)), (2, .ref (G.1 136)), (3, .ref (G.1 147)), (4, .int (gI (4 * (j : Int))))]) hx hb dL_law_411 hl (by decide) rfl (fun ls hl => ?_)
  refine lv_aload_n hx hb dL_law_413 rfl (lv_at hl 4 rfl) ?_
  obtain ⟨q414, e414, h⟩ := gBind_some h
  refine g_callVi (k := 136) (T := TX9) (N := 19) (As := []) (rest := []) ⟨hx, hb, hml, hown, hts⟩ (metX9_thrown l D G q408.2 q384.2.2 q414 e414) (g_cwV (C := RX9) 0 hts q_ml_L_86 q_im_X9_thrown q_se_X9_thrown q_in_X9 q_co_X9_thrown ⟨rfl, rfl⟩ (by decide +kernel) ⟨Nat.le_of_ble_eq_true rfl, Nat.le_of_ble_eq_true rfl⟩) hX hH (rfl : gKinds[136]? = _) rfl rfl hl.1 rfl (Nat.le_of_ble_eq_true rfl) dL_law_414 ⟨by show _ ≤ 601024; omega, by show _ ≤ 7293034; omega⟩ (fun H locs hH => ?_)
  refine lv_iload hx hb dL_law_417 (lv_at hl 1 rfl) ?_
  refine g_icmp_eq (tgt := 424) hx hb dL_law_419 (by decide) h (fun h => ?_) (fun h => absurd h (fun z => by cases z))
  refine lv_iload hx hb dL_law_424 (lv_at hl 1 rfl) ?_
  refine g_if_ne (tgt := 441) hx hb dL_law_426 (by decide) h (fun h => ?_) (fun h => ?_)
  · refine lv_goto (tgt := 1537) hx hb dL_law_441 (by decide) ?_
    cases h
    exact kk _ _ _ hH (lv_sub hl [2, 3, 4, 5, 6] rfl)
  · refine lv_aload_n hx hb dL_law_429 rfl (lv_at hl 5 rfl) ?_
    refine lv_iconst (v := gI (0 : Int)) hx hb dL_law_430 (by decide) ?_
    refine g_lald hx hb hX hH (k := 147) (rfl : gKinds[147]? = _) dL_law_431 ?_
    refine lv_iload hx hb dL_law_432 (lv_at hl 0 rfl) ?_
    refine lv_i2l (v := (gI q408.1).toInt64) hx hb dL_law_434 rfl ?_
    have hcmp : (q384.2.2 147) = ((gI q408.1).toInt64) := (gEq_some h).1
    have h := (gEq_some h).2
    refine W.lcmp hx hb dL_law_435 ?_
    have hc0 : lg_cmp (q384.2.2 147) ((gI q408.1).toInt64) = 0 := by rw [hcmp]; simp [lg_cmp]
    rw [hc0]
    refine lv_if_eq (tgt := 441) hx hb dL_law_436 (by decide) (fun _ => ?_) (fun z => absurd rfl z)
    refine lv_goto (tgt := 1537) hx hb dL_law_441 (by decide) ?_
    cases h
    exact kk _ _ _ hH (lv_sub hl [2, 3, 4, 5, 6] rfl)
def DL_c4 (xs : Nat → Int32) (j : Nat) (σ : gSt) (μ : gLg) : Option (gSt × gLg) :=
  (gWrS (DX8_removeTask σ (xs (Int.toNat ((4 * (j : Int)) + (1 : Int)))).toInt) [(3, 1)] σ μ).bind fun q452 => (DX9_removeTask q452.2.1 (xs (Int.toNat ((4 * (j : Int)) + (1 : Int)))).toInt).bind fun q464 => (DX9_thrown q464.2).bind fun q470 => gIf (q470 = q452.1) q470 q452.1 (gIf (q452.1 = 0) q452.1 0 (gEq (q452.2.2 147) ((gI q464.1).toInt64) (some (q464.2, q452.2.2))) (some (q464.2, q452.2.2))) none
set_option maxHeartbeats 4000000 in
set_option maxRecDepth 100000 in
theorem lawc_4 {p : Program} {l : Launch} {e : Env} {s : State} {m : MethodId} {below : List Frame} {meth : Method} {c : Code} {b L j : Nat} {xs : Nat → Int32} {D : va_G} {G : gAd} {Q : State → Prop} (hlt : l.stackTraces = false) (hx : p.tables.exec = Jvm.exec) (hb : c.code = cL_law) (hml : c.maxLocals = 9) (hown : s.vm.findClass RL = some m.cls) (hts : ∀ w ∈ gLW, w.before #[Value.ref b] s = true) (hX : gX D G s) (hXs : va_X b L xs s s.heap) (hbl : b < s.heap.size) (hbA : ¬ gA G b) (hL : L ≤ 2048) (hj : 4 * j + 4 ≤ L) {H : Heap} {locs : List Loc} {ls : Array Slot} {cells slots : Nat} (hc : cells ≤ 500 + 3 * j) (hs : slots ≤ 20000 + 18 * j) {σ σ' : gSt} {μ μ' : gLg} (hH : gH D G s H locs σ μ) (hl : lv_has ls 9 [(0, .ref b), (1, .ref (G.1 0)), (2, .ref (G.1 136)), (3, .ref (G.1 147)), (4, .int (gI (4 * (j : Int))))]) (h : DL_c4 xs j σ μ = some (σ', μ')) (kk : ∀ (H1 : Heap) (locs1 : List Loc) (ls1 : Array Slot), gH D G s H1 locs1 σ' μ' → lv_has ls1 9 [(0, .ref b), (1, .ref (G.1 0)), (2, .ref (G.1 136)), (3, .ref (G.1 147)), (4, .int (gI (4 * (j : Int))))] → W p l e room_1 s m #[Value.ref b] below meth c H1 locs1 (cells + 1) (slots + 6) Q (F0 m 1537 ls1 [])) : W p l e room_1 s m #[Value.ref b] below meth c H locs cells slots Q (F0 m 444 ls []) := by
  unfold DL_c4 at h
  refine lv_aload_n hx hb dL_law_444 rfl (lv_at hl 1 rfl) ?_
  refine lv_aload_n hx hb dL_law_445 rfl (lv_at hl 0 rfl) ?_
  refine lv_iload hx hb dL_law_446 (lv_at hl 4 rfl) ?_
  refine lv_iconst (v := gI (1 : Int)) hx hb dL_law_448 (by decide) ?_
  refine g_iadd hx hb dL_law_449 ?_
  refine g_sld hx hb hXs hbl hbA hH ⟨by omega, by omega⟩ hL dL_law_450 ?_
  refine lv_aload_n hx hb dL_law_451 rfl (lv_at hl 3 rfl) ?_
  obtain ⟨q452, e452, h⟩ := gBind_some h
  refine g_callWi (As := [.ref (G.1 0), .int (gI (xs (Int.toNat ((4 * (j : Int)) + (1 : Int)))).toInt), .ref (G.1 147)]) (rest := []) ⟨hx, hb, hml, hown, hts⟩ (metL_removeTask l hlt D G σ μ (xs (Int.toNat ((4 * (j : Int)) + (1 : Int)))).toInt q452.1 q452.2.1 q452.2.2 e452) (g_cwW 3 hts q_ml_L_100 q_st_L_removeTask q_in_L q_cw_L_removeTask ⟨rfl, rfl⟩ (by decide +kernel) ⟨Nat.le_of_ble_eq_true rfl, Nat.le_of_ble_eq_true rfl⟩) hX hH rfl hl.1 rfl (Nat.le_of_ble_eq_true rfl) dL_law_452 ⟨by show _ ≤ 601024; omega, by show _ ≤ 7293034; omega⟩ (fun H locs hH => ?_)
  refine lv_istore (lv' := [(5, .int (gI q452.1)), (0, .ref b), (1, .ref (G.1 0)), (2, .ref (G.1 136)), (3, .ref (G.1 147)), (4, .int (gI (4 * (j : Int))))]) hx hb dL_law_455 hl (by decide) rfl (fun ls hl => ?_)
  refine lv_aload_n hx hb dL_law_457 rfl (lv_at hl 3 rfl) ?_
  refine lv_aload_n hx hb dL_law_458 rfl (lv_at hl 1 rfl) ?_
  refine lv_iload hx hb dL_law_459 (lv_at hl 5 rfl) ?_
  refine lv_iconst (v := gI (1 : Int)) hx hb dL_law_461 (by decide) ?_
  refine g_iadd hx hb dL_law_462 ?_
  refine g_sld hx hb hXs hbl hbA hH ⟨by omega, by omega⟩ hL dL_law_463 ?_
  obtain ⟨q464, e464, h⟩ := gBind_some h
  refine g_callVi (k := 136) (T := TX9) (N := 19) (As := [.int (gI (xs (Int.toNat ((4 * (j : Int)) + (1 : Int)))).toInt)]) (rest := []) ⟨hx, hb, hml, hown, hts⟩ (metX9_removeTask l D G q452.2.1 q452.2.2 (xs (Int.toNat ((4 * (j : Int)) + (1 : Int)))).toInt q464.1 q464.2 e464) (g_cwV (C := RX9) 1 hts q_ml_L_102 q_im_X9_removeTask q_se_X9_removeTask q_in_X9 q_co_X9_removeTask ⟨rfl, rfl⟩ (by decide +kernel) ⟨Nat.le_of_ble_eq_true rfl, Nat.le_of_ble_eq_true rfl⟩) hX hH (rfl : gKinds[136]? = _) rfl rfl hl.1 rfl (Nat.le_of_ble_eq_true rfl) dL_law_464 ⟨by show _ ≤ 601024; omega, by show _ ≤ 7293034; omega⟩ (fun H locs hH => ?_)
  refine lv_istore (lv' := [(6, .int (gI q464.1)), (5, .int (gI q452.1)), (0, .ref b), (1, .ref (G.1 0)), (2, .ref (G.1 136)), (3, .ref (G.1 147)), (4, .int (gI (4 * (j : Int))))]) hx hb dL_law_467 hl (by decide) rfl (fun ls hl => ?_)
  refine lv_aload_n hx hb dL_law_469 rfl (lv_at hl 4 rfl) ?_
  obtain ⟨q470, e470, h⟩ := gBind_some h
  refine g_callVi (k := 136) (T := TX9) (N := 19) (As := []) (rest := []) ⟨hx, hb, hml, hown, hts⟩ (metX9_thrown l D G q464.2 q452.2.2 q470 e470) (g_cwV (C := RX9) 0 hts q_ml_L_86 q_im_X9_thrown q_se_X9_thrown q_in_X9 q_co_X9_thrown ⟨rfl, rfl⟩ (by decide +kernel) ⟨Nat.le_of_ble_eq_true rfl, Nat.le_of_ble_eq_true rfl⟩) hX hH (rfl : gKinds[136]? = _) rfl rfl hl.1 rfl (Nat.le_of_ble_eq_true rfl) dL_law_470 ⟨by show _ ≤ 601024; omega, by show _ ≤ 7293034; omega⟩ (fun H locs hH => ?_)
  refine lv_iload hx hb dL_law_473 (lv_at hl 1 rfl) ?_
  refine g_icmp_eq (tgt := 480) hx hb dL_law_475 (by decide) h (fun h => ?_) (fun h => absurd h (fun z => by cases z))
  refine lv_iload hx hb dL_law_480 (lv_at hl 1 rfl) ?_
  refine g_if_ne (tgt := 497) hx hb dL_law_482 (by decide) h (fun h => ?_) (fun h => ?_)
  · refine lv_goto (tgt := 1537) hx hb dL_law_497 (by decide) ?_
    cases h
    exact kk _ _ _ hH (lv_sub hl [2, 3, 4, 5, 6] rfl)
  · refine lv_aload_n hx hb dL_law_485 rfl (lv_at hl 5 rfl) ?_
    refine lv_iconst (v := gI (0 : Int)) hx hb dL_law_486 (by decide) ?_
    refine g_lald hx hb hX hH (k := 147) (rfl : gKinds[147]? = _) dL_law_487 ?_
    refine lv_iload hx hb dL_law_488 (lv_at hl 0 rfl) ?_
    refine lv_i2l (v := (gI q464.1).toInt64) hx hb dL_law_490 rfl ?_
    have hcmp : (q452.2.2 147) = ((gI q464.1).toInt64) := (gEq_some h).1
    have h := (gEq_some h).2
    refine W.lcmp hx hb dL_law_491 ?_
    have hc0 : lg_cmp (q452.2.2 147) ((gI q464.1).toInt64) = 0 := by rw [hcmp]; simp [lg_cmp]
    rw [hc0]
    refine lv_if_eq (tgt := 497) hx hb dL_law_492 (by decide) (fun _ => ?_) (fun z => absurd rfl z)
    refine lv_goto (tgt := 1537) hx hb dL_law_497 (by decide) ?_
    cases h
    exact kk _ _ _ hH (lv_sub hl [2, 3, 4, 5, 6] rfl)
def DL_c5 (xs : Nat → Int32) (j : Nat) (σ : gSt) (μ : gLg) : Option (gSt × gLg) :=
  (gWrS (DX8_addArrow σ (xs (Int.toNat ((4 * (j : Int)) + (1 : Int)))).toInt (xs (Int.toNat ((4 * (j : Int)) + (2 : Int)))).toInt) [(3, 1), (1, 2), (2, 3)] σ μ).bind fun q514 => (DX9_addArrow q514.2.1 (xs (Int.toNat ((4 * (j : Int)) + (1 : Int)))).toInt (xs (Int.toNat ((4 * (j : Int)) + (2 : Int)))).toInt).bind fun q532 => (DX9_thrown q532.2).bind fun q538 => gIf (q538 = q514.1) q538 q514.1 (gIf (q514.1 = 0) q514.1 0 (gEq (q514.2.2 147) ((gI q532.1).toInt64) (some (q532.2, q514.2.2))) (some (q532.2, q514.2.2))) none
set_option maxHeartbeats 4000000 in
set_option maxRecDepth 100000 in
theorem lawc_5 {p : Program} {l : Launch} {e : Env} {s : State} {m : MethodId} {below : List Frame} {meth : Method} {c : Code} {b L j : Nat} {xs : Nat → Int32} {D : va_G} {G : gAd} {Q : State → Prop} (hlt : l.stackTraces = false) (hx : p.tables.exec = Jvm.exec) (hb : c.code = cL_law) (hml : c.maxLocals = 9) (hown : s.vm.findClass RL = some m.cls) (hts : ∀ w ∈ gLW, w.before #[Value.ref b] s = true) (hX : gX D G s) (hXs : va_X b L xs s s.heap) (hbl : b < s.heap.size) (hbA : ¬ gA G b) (hL : L ≤ 2048) (hj : 4 * j + 4 ≤ L) {H : Heap} {locs : List Loc} {ls : Array Slot} {cells slots : Nat} (hc : cells ≤ 500 + 3 * j) (hs : slots ≤ 20000 + 18 * j) {σ σ' : gSt} {μ μ' : gLg} (hH : gH D G s H locs σ μ) (hl : lv_has ls 9 [(0, .ref b), (1, .ref (G.1 0)), (2, .ref (G.1 136)), (3, .ref (G.1 147)), (4, .int (gI (4 * (j : Int))))]) (h : DL_c5 xs j σ μ = some (σ', μ')) (kk : ∀ (H1 : Heap) (locs1 : List Loc) (ls1 : Array Slot), gH D G s H1 locs1 σ' μ' → lv_has ls1 9 [(0, .ref b), (1, .ref (G.1 0)), (2, .ref (G.1 136)), (3, .ref (G.1 147)), (4, .int (gI (4 * (j : Int))))] → W p l e room_1 s m #[Value.ref b] below meth c H1 locs1 (cells + 3) (slots + 18) Q (F0 m 1537 ls1 [])) : W p l e room_1 s m #[Value.ref b] below meth c H locs cells slots Q (F0 m 500 ls []) := by
  unfold DL_c5 at h
  refine lv_aload_n hx hb dL_law_500 rfl (lv_at hl 1 rfl) ?_
  refine lv_aload_n hx hb dL_law_501 rfl (lv_at hl 0 rfl) ?_
  refine lv_iload hx hb dL_law_502 (lv_at hl 4 rfl) ?_
  refine lv_iconst (v := gI (1 : Int)) hx hb dL_law_504 (by decide) ?_
  refine g_iadd hx hb dL_law_505 ?_
  refine g_sld hx hb hXs hbl hbA hH ⟨by omega, by omega⟩ hL dL_law_506 ?_
  refine lv_aload_n hx hb dL_law_507 rfl (lv_at hl 0 rfl) ?_
  refine lv_iload hx hb dL_law_508 (lv_at hl 4 rfl) ?_
  refine lv_iconst (v := gI (2 : Int)) hx hb dL_law_510 (by decide) ?_
  refine g_iadd hx hb dL_law_511 ?_
  refine g_sld hx hb hXs hbl hbA hH ⟨by omega, by omega⟩ hL dL_law_512 ?_
  refine lv_aload_n hx hb dL_law_513 rfl (lv_at hl 3 rfl) ?_
  obtain ⟨q514, e514, h⟩ := gBind_some h
  refine g_callWi (As := [.ref (G.1 0), .int (gI (xs (Int.toNat ((4 * (j : Int)) + (1 : Int)))).toInt), .int (gI (xs (Int.toNat ((4 * (j : Int)) + (2 : Int)))).toInt), .ref (G.1 147)]) (rest := []) ⟨hx, hb, hml, hown, hts⟩ (metL_addArrow l hlt D G σ μ (xs (Int.toNat ((4 * (j : Int)) + (1 : Int)))).toInt (xs (Int.toNat ((4 * (j : Int)) + (2 : Int)))).toInt q514.1 q514.2.1 q514.2.2 e514) (g_cwW 4 hts q_ml_L_103 q_st_L_addArrow q_in_L q_cw_L_addArrow ⟨rfl, rfl⟩ (by decide +kernel) ⟨Nat.le_of_ble_eq_true rfl, Nat.le_of_ble_eq_true rfl⟩) hX hH rfl hl.1 rfl (Nat.le_of_ble_eq_true rfl) dL_law_514 ⟨by show _ ≤ 601024; omega, by show _ ≤ 7293034; omega⟩ (fun H locs hH => ?_)
  refine lv_istore (lv' := [(5, .int (gI q514.1)), (0, .ref b), (1, .ref (G.1 0)), (2, .ref (G.1 136)), (3, .ref (G.1 147)), (4, .int (gI (4 * (j : Int))))]) hx hb dL_law_517 hl (by decide) rfl (fun ls hl => ?_)
  refine lv_aload_n hx hb dL_law_519 rfl (lv_at hl 3 rfl) ?_
  refine lv_aload_n hx hb dL_law_520 rfl (lv_at hl 1 rfl) ?_
  refine lv_iload hx hb dL_law_521 (lv_at hl 5 rfl) ?_
  refine lv_iconst (v := gI (1 : Int)) hx hb dL_law_523 (by decide) ?_
  refine g_iadd hx hb dL_law_524 ?_
  refine g_sld hx hb hXs hbl hbA hH ⟨by omega, by omega⟩ hL dL_law_525 ?_
  refine lv_aload_n hx hb dL_law_526 rfl (lv_at hl 1 rfl) ?_
  refine lv_iload hx hb dL_law_527 (lv_at hl 5 rfl) ?_
  refine lv_iconst (v := gI (2 : Int)) hx hb dL_law_529 (by decide) ?_
  refine g_iadd hx hb dL_law_530 ?_
  refine g_sld hx hb hXs hbl hbA hH ⟨by omega, by omega⟩ hL dL_law_531 ?_
  obtain ⟨q532, e532, h⟩ := gBind_some h
  refine g_callVi (k := 136) (T := TX9) (N := 19) (As := [.int (gI (xs (Int.toNat ((4 * (j : Int)) + (1 : Int)))).toInt), .int (gI (xs (Int.toNat ((4 * (j : Int)) + (2 : Int)))).toInt)]) (rest := []) ⟨hx, hb, hml, hown, hts⟩ (metX9_addArrow l D G q514.2.1 q514.2.2 (xs (Int.toNat ((4 * (j : Int)) + (1 : Int)))).toInt (xs (Int.toNat ((4 * (j : Int)) + (2 : Int)))).toInt q532.1 q532.2 e532) (g_cwV (C := RX9) 2 hts q_ml_L_105 q_im_X9_addArrow q_se_X9_addArrow q_in_X9 q_co_X9_addArrow ⟨rfl, rfl⟩ (by decide +kernel) ⟨Nat.le_of_ble_eq_true rfl, Nat.le_of_ble_eq_true rfl⟩) hX hH (rfl : gKinds[136]? = _) rfl rfl hl.1 rfl (Nat.le_of_ble_eq_true rfl) dL_law_532 ⟨by show _ ≤ 601024; omega, by show _ ≤ 7293034; omega⟩ (fun H locs hH => ?_)
  refine lv_istore (lv' := [(6, .int (gI q532.1)), (5, .int (gI q514.1)), (0, .ref b), (1, .ref (G.1 0)), (2, .ref (G.1 136)), (3, .ref (G.1 147)), (4, .int (gI (4 * (j : Int))))]) hx hb dL_law_535 hl (by decide) rfl (fun ls hl => ?_)
  refine lv_aload_n hx hb dL_law_537 rfl (lv_at hl 4 rfl) ?_
  obtain ⟨q538, e538, h⟩ := gBind_some h
  refine g_callVi (k := 136) (T := TX9) (N := 19) (As := []) (rest := []) ⟨hx, hb, hml, hown, hts⟩ (metX9_thrown l D G q532.2 q514.2.2 q538 e538) (g_cwV (C := RX9) 0 hts q_ml_L_86 q_im_X9_thrown q_se_X9_thrown q_in_X9 q_co_X9_thrown ⟨rfl, rfl⟩ (by decide +kernel) ⟨Nat.le_of_ble_eq_true rfl, Nat.le_of_ble_eq_true rfl⟩) hX hH (rfl : gKinds[136]? = _) rfl rfl hl.1 rfl (Nat.le_of_ble_eq_true rfl) dL_law_538 ⟨by show _ ≤ 601024; omega, by show _ ≤ 7293034; omega⟩ (fun H locs hH => ?_)
  refine lv_iload hx hb dL_law_541 (lv_at hl 1 rfl) ?_
  refine g_icmp_eq (tgt := 548) hx hb dL_law_543 (by decide) h (fun h => ?_) (fun h => absurd h (fun z => by cases z))
  refine lv_iload hx hb dL_law_548 (lv_at hl 1 rfl) ?_
  refine g_if_ne (tgt := 565) hx hb dL_law_550 (by decide) h (fun h => ?_) (fun h => ?_)
  · refine lv_goto (tgt := 1537) hx hb dL_law_565 (by decide) ?_
    cases h
    exact kk _ _ _ hH (lv_sub hl [2, 3, 4, 5, 6] rfl)
  · refine lv_aload_n hx hb dL_law_553 rfl (lv_at hl 5 rfl) ?_
    refine lv_iconst (v := gI (0 : Int)) hx hb dL_law_554 (by decide) ?_
    refine g_lald hx hb hX hH (k := 147) (rfl : gKinds[147]? = _) dL_law_555 ?_
    refine lv_iload hx hb dL_law_556 (lv_at hl 0 rfl) ?_
    refine lv_i2l (v := (gI q532.1).toInt64) hx hb dL_law_558 rfl ?_
    have hcmp : (q514.2.2 147) = ((gI q532.1).toInt64) := (gEq_some h).1
    have h := (gEq_some h).2
    refine W.lcmp hx hb dL_law_559 ?_
    have hc0 : lg_cmp (q514.2.2 147) ((gI q532.1).toInt64) = 0 := by rw [hcmp]; simp [lg_cmp]
    rw [hc0]
    refine lv_if_eq (tgt := 565) hx hb dL_law_560 (by decide) (fun _ => ?_) (fun z => absurd rfl z)
    refine lv_goto (tgt := 1537) hx hb dL_law_565 (by decide) ?_
    cases h
    exact kk _ _ _ hH (lv_sub hl [2, 3, 4, 5, 6] rfl)
def DL_c6 (xs : Nat → Int32) (j : Nat) (σ : gSt) (μ : gLg) : Option (gSt × gLg) :=
  (gWrS (DX8_removeArrow σ (xs (Int.toNat ((4 * (j : Int)) + (1 : Int)))).toInt) [(3, 1)] σ μ).bind fun q576 => (DX9_removeArrow q576.2.1 (xs (Int.toNat ((4 * (j : Int)) + (1 : Int)))).toInt).bind fun q588 => (DX9_thrown q588.2).bind fun q594 => gIf (q594 = q576.1) q594 q576.1 (gIf (q576.1 = 0) q576.1 0 (gEq (q576.2.2 147) ((gI q588.1).toInt64) (some (q588.2, q576.2.2))) (some (q588.2, q576.2.2))) none
set_option maxHeartbeats 4000000 in
set_option maxRecDepth 100000 in
theorem lawc_6 {p : Program} {l : Launch} {e : Env} {s : State} {m : MethodId} {below : List Frame} {meth : Method} {c : Code} {b L j : Nat} {xs : Nat → Int32} {D : va_G} {G : gAd} {Q : State → Prop} (hlt : l.stackTraces = false) (hx : p.tables.exec = Jvm.exec) (hb : c.code = cL_law) (hml : c.maxLocals = 9) (hown : s.vm.findClass RL = some m.cls) (hts : ∀ w ∈ gLW, w.before #[Value.ref b] s = true) (hX : gX D G s) (hXs : va_X b L xs s s.heap) (hbl : b < s.heap.size) (hbA : ¬ gA G b) (hL : L ≤ 2048) (hj : 4 * j + 4 ≤ L) {H : Heap} {locs : List Loc} {ls : Array Slot} {cells slots : Nat} (hc : cells ≤ 500 + 3 * j) (hs : slots ≤ 20000 + 18 * j) {σ σ' : gSt} {μ μ' : gLg} (hH : gH D G s H locs σ μ) (hl : lv_has ls 9 [(0, .ref b), (1, .ref (G.1 0)), (2, .ref (G.1 136)), (3, .ref (G.1 147)), (4, .int (gI (4 * (j : Int))))]) (h : DL_c6 xs j σ μ = some (σ', μ')) (kk : ∀ (H1 : Heap) (locs1 : List Loc) (ls1 : Array Slot), gH D G s H1 locs1 σ' μ' → lv_has ls1 9 [(0, .ref b), (1, .ref (G.1 0)), (2, .ref (G.1 136)), (3, .ref (G.1 147)), (4, .int (gI (4 * (j : Int))))] → W p l e room_1 s m #[Value.ref b] below meth c H1 locs1 (cells + 1) (slots + 6) Q (F0 m 1537 ls1 [])) : W p l e room_1 s m #[Value.ref b] below meth c H locs cells slots Q (F0 m 568 ls []) := by
  unfold DL_c6 at h
  refine lv_aload_n hx hb dL_law_568 rfl (lv_at hl 1 rfl) ?_
  refine lv_aload_n hx hb dL_law_569 rfl (lv_at hl 0 rfl) ?_
  refine lv_iload hx hb dL_law_570 (lv_at hl 4 rfl) ?_
  refine lv_iconst (v := gI (1 : Int)) hx hb dL_law_572 (by decide) ?_
  refine g_iadd hx hb dL_law_573 ?_
  refine g_sld hx hb hXs hbl hbA hH ⟨by omega, by omega⟩ hL dL_law_574 ?_
  refine lv_aload_n hx hb dL_law_575 rfl (lv_at hl 3 rfl) ?_
  obtain ⟨q576, e576, h⟩ := gBind_some h
  refine g_callWi (As := [.ref (G.1 0), .int (gI (xs (Int.toNat ((4 * (j : Int)) + (1 : Int)))).toInt), .ref (G.1 147)]) (rest := []) ⟨hx, hb, hml, hown, hts⟩ (metL_removeArrow l hlt D G σ μ (xs (Int.toNat ((4 * (j : Int)) + (1 : Int)))).toInt q576.1 q576.2.1 q576.2.2 e576) (g_cwW 3 hts q_ml_L_106 q_st_L_removeArrow q_in_L q_cw_L_removeArrow ⟨rfl, rfl⟩ (by decide +kernel) ⟨Nat.le_of_ble_eq_true rfl, Nat.le_of_ble_eq_true rfl⟩) hX hH rfl hl.1 rfl (Nat.le_of_ble_eq_true rfl) dL_law_576 ⟨by show _ ≤ 601024; omega, by show _ ≤ 7293034; omega⟩ (fun H locs hH => ?_)
  refine lv_istore (lv' := [(5, .int (gI q576.1)), (0, .ref b), (1, .ref (G.1 0)), (2, .ref (G.1 136)), (3, .ref (G.1 147)), (4, .int (gI (4 * (j : Int))))]) hx hb dL_law_579 hl (by decide) rfl (fun ls hl => ?_)
  refine lv_aload_n hx hb dL_law_581 rfl (lv_at hl 3 rfl) ?_
  refine lv_aload_n hx hb dL_law_582 rfl (lv_at hl 1 rfl) ?_
  refine lv_iload hx hb dL_law_583 (lv_at hl 5 rfl) ?_
  refine lv_iconst (v := gI (1 : Int)) hx hb dL_law_585 (by decide) ?_
  refine g_iadd hx hb dL_law_586 ?_
  refine g_sld hx hb hXs hbl hbA hH ⟨by omega, by omega⟩ hL dL_law_587 ?_
  obtain ⟨q588, e588, h⟩ := gBind_some h
  refine g_callVi (k := 136) (T := TX9) (N := 19) (As := [.int (gI (xs (Int.toNat ((4 * (j : Int)) + (1 : Int)))).toInt)]) (rest := []) ⟨hx, hb, hml, hown, hts⟩ (metX9_removeArrow l D G q576.2.1 q576.2.2 (xs (Int.toNat ((4 * (j : Int)) + (1 : Int)))).toInt q588.1 q588.2 e588) (g_cwV (C := RX9) 1 hts q_ml_L_108 q_im_X9_removeArrow q_se_X9_removeArrow q_in_X9 q_co_X9_removeArrow ⟨rfl, rfl⟩ (by decide +kernel) ⟨Nat.le_of_ble_eq_true rfl, Nat.le_of_ble_eq_true rfl⟩) hX hH (rfl : gKinds[136]? = _) rfl rfl hl.1 rfl (Nat.le_of_ble_eq_true rfl) dL_law_588 ⟨by show _ ≤ 601024; omega, by show _ ≤ 7293034; omega⟩ (fun H locs hH => ?_)
  refine lv_istore (lv' := [(6, .int (gI q588.1)), (5, .int (gI q576.1)), (0, .ref b), (1, .ref (G.1 0)), (2, .ref (G.1 136)), (3, .ref (G.1 147)), (4, .int (gI (4 * (j : Int))))]) hx hb dL_law_591 hl (by decide) rfl (fun ls hl => ?_)
  refine lv_aload_n hx hb dL_law_593 rfl (lv_at hl 4 rfl) ?_
  obtain ⟨q594, e594, h⟩ := gBind_some h
  refine g_callVi (k := 136) (T := TX9) (N := 19) (As := []) (rest := []) ⟨hx, hb, hml, hown, hts⟩ (metX9_thrown l D G q588.2 q576.2.2 q594 e594) (g_cwV (C := RX9) 0 hts q_ml_L_86 q_im_X9_thrown q_se_X9_thrown q_in_X9 q_co_X9_thrown ⟨rfl, rfl⟩ (by decide +kernel) ⟨Nat.le_of_ble_eq_true rfl, Nat.le_of_ble_eq_true rfl⟩) hX hH (rfl : gKinds[136]? = _) rfl rfl hl.1 rfl (Nat.le_of_ble_eq_true rfl) dL_law_594 ⟨by show _ ≤ 601024; omega, by show _ ≤ 7293034; omega⟩ (fun H locs hH => ?_)
  refine lv_iload hx hb dL_law_597 (lv_at hl 1 rfl) ?_
  refine g_icmp_eq (tgt := 604) hx hb dL_law_599 (by decide) h (fun h => ?_) (fun h => absurd h (fun z => by cases z))
  refine lv_iload hx hb dL_law_604 (lv_at hl 1 rfl) ?_
  refine g_if_ne (tgt := 621) hx hb dL_law_606 (by decide) h (fun h => ?_) (fun h => ?_)
  · refine lv_goto (tgt := 1537) hx hb dL_law_621 (by decide) ?_
    cases h
    exact kk _ _ _ hH (lv_sub hl [2, 3, 4, 5, 6] rfl)
  · refine lv_aload_n hx hb dL_law_609 rfl (lv_at hl 5 rfl) ?_
    refine lv_iconst (v := gI (0 : Int)) hx hb dL_law_610 (by decide) ?_
    refine g_lald hx hb hX hH (k := 147) (rfl : gKinds[147]? = _) dL_law_611 ?_
    refine lv_iload hx hb dL_law_612 (lv_at hl 0 rfl) ?_
    refine lv_i2l (v := (gI q588.1).toInt64) hx hb dL_law_614 rfl ?_
    have hcmp : (q576.2.2 147) = ((gI q588.1).toInt64) := (gEq_some h).1
    have h := (gEq_some h).2
    refine W.lcmp hx hb dL_law_615 ?_
    have hc0 : lg_cmp (q576.2.2 147) ((gI q588.1).toInt64) = 0 := by rw [hcmp]; simp [lg_cmp]
    rw [hc0]
    refine lv_if_eq (tgt := 621) hx hb dL_law_616 (by decide) (fun _ => ?_) (fun z => absurd rfl z)
    refine lv_goto (tgt := 1537) hx hb dL_law_621 (by decide) ?_
    cases h
    exact kk _ _ _ hH (lv_sub hl [2, 3, 4, 5, 6] rfl)
def DL_c7 (xs : Nat → Int32) (j : Nat) (σ : gSt) (μ : gLg) : Option (gSt × gLg) :=
  (gWrP (DX8_task σ (xs (Int.toNat ((4 * (j : Int)) + (1 : Int)))).toInt (xs (Int.toNat ((4 * (j : Int)) + (2 : Int)))).toInt) [(3, 1), (1, 2)] μ).bind fun q638 => (DX9_task σ (xs (Int.toNat ((4 * (j : Int)) + (1 : Int)))).toInt (xs (Int.toNat ((4 * (j : Int)) + (2 : Int)))).toInt).bind fun q656 => (DX9_thrown q656.2).bind fun q662 => gIf (q662 = q638.1) q662 q638.1 (gIf (q638.1 = 0) q638.1 0 (gEq (q638.2 147) ((gI q656.1).toInt64) (some (q656.2, q638.2))) (some (q656.2, q638.2))) none
set_option maxHeartbeats 4000000 in
set_option maxRecDepth 100000 in
theorem lawc_7 {p : Program} {l : Launch} {e : Env} {s : State} {m : MethodId} {below : List Frame} {meth : Method} {c : Code} {b L j : Nat} {xs : Nat → Int32} {D : va_G} {G : gAd} {Q : State → Prop} (hlt : l.stackTraces = false) (hx : p.tables.exec = Jvm.exec) (hb : c.code = cL_law) (hml : c.maxLocals = 9) (hown : s.vm.findClass RL = some m.cls) (hts : ∀ w ∈ gLW, w.before #[Value.ref b] s = true) (hX : gX D G s) (hXs : va_X b L xs s s.heap) (hbl : b < s.heap.size) (hbA : ¬ gA G b) (hL : L ≤ 2048) (hj : 4 * j + 4 ≤ L) {H : Heap} {locs : List Loc} {ls : Array Slot} {cells slots : Nat} (hc : cells ≤ 500 + 3 * j) (hs : slots ≤ 20000 + 18 * j) {σ σ' : gSt} {μ μ' : gLg} (hH : gH D G s H locs σ μ) (hl : lv_has ls 9 [(0, .ref b), (1, .ref (G.1 0)), (2, .ref (G.1 136)), (3, .ref (G.1 147)), (4, .int (gI (4 * (j : Int))))]) (h : DL_c7 xs j σ μ = some (σ', μ')) (kk : ∀ (H1 : Heap) (locs1 : List Loc) (ls1 : Array Slot), gH D G s H1 locs1 σ' μ' → lv_has ls1 9 [(0, .ref b), (1, .ref (G.1 0)), (2, .ref (G.1 136)), (3, .ref (G.1 147)), (4, .int (gI (4 * (j : Int))))] → W p l e room_1 s m #[Value.ref b] below meth c H1 locs1 (cells + 2) (slots + 12) Q (F0 m 1537 ls1 [])) : W p l e room_1 s m #[Value.ref b] below meth c H locs cells slots Q (F0 m 624 ls []) := by
  unfold DL_c7 at h
  refine lv_aload_n hx hb dL_law_624 rfl (lv_at hl 1 rfl) ?_
  refine lv_aload_n hx hb dL_law_625 rfl (lv_at hl 0 rfl) ?_
  refine lv_iload hx hb dL_law_626 (lv_at hl 4 rfl) ?_
  refine lv_iconst (v := gI (1 : Int)) hx hb dL_law_628 (by decide) ?_
  refine g_iadd hx hb dL_law_629 ?_
  refine g_sld hx hb hXs hbl hbA hH ⟨by omega, by omega⟩ hL dL_law_630 ?_
  refine lv_aload_n hx hb dL_law_631 rfl (lv_at hl 0 rfl) ?_
  refine lv_iload hx hb dL_law_632 (lv_at hl 4 rfl) ?_
  refine lv_iconst (v := gI (2 : Int)) hx hb dL_law_634 (by decide) ?_
  refine g_iadd hx hb dL_law_635 ?_
  refine g_sld hx hb hXs hbl hbA hH ⟨by omega, by omega⟩ hL dL_law_636 ?_
  refine lv_aload_n hx hb dL_law_637 rfl (lv_at hl 3 rfl) ?_
  obtain ⟨q638, e638, h⟩ := gBind_some h
  refine g_callWi (As := [.ref (G.1 0), .int (gI (xs (Int.toNat ((4 * (j : Int)) + (1 : Int)))).toInt), .int (gI (xs (Int.toNat ((4 * (j : Int)) + (2 : Int)))).toInt), .ref (G.1 147)]) (rest := []) ⟨hx, hb, hml, hown, hts⟩ (metL_task l hlt D G σ μ (xs (Int.toNat ((4 * (j : Int)) + (1 : Int)))).toInt (xs (Int.toNat ((4 * (j : Int)) + (2 : Int)))).toInt q638.1 q638.2 e638) (g_cwW 4 hts q_ml_L_109 q_st_L_task q_in_L q_cw_L_task ⟨rfl, rfl⟩ (by decide +kernel) ⟨Nat.le_of_ble_eq_true rfl, Nat.le_of_ble_eq_true rfl⟩) hX hH rfl hl.1 rfl (Nat.le_of_ble_eq_true rfl) dL_law_638 ⟨by show _ ≤ 601024; omega, by show _ ≤ 7293034; omega⟩ (fun H locs hH => ?_)
  refine lv_istore (lv' := [(5, .int (gI q638.1)), (0, .ref b), (1, .ref (G.1 0)), (2, .ref (G.1 136)), (3, .ref (G.1 147)), (4, .int (gI (4 * (j : Int))))]) hx hb dL_law_641 hl (by decide) rfl (fun ls hl => ?_)
  refine lv_aload_n hx hb dL_law_643 rfl (lv_at hl 3 rfl) ?_
  refine lv_aload_n hx hb dL_law_644 rfl (lv_at hl 1 rfl) ?_
  refine lv_iload hx hb dL_law_645 (lv_at hl 5 rfl) ?_
  refine lv_iconst (v := gI (1 : Int)) hx hb dL_law_647 (by decide) ?_
  refine g_iadd hx hb dL_law_648 ?_
  refine g_sld hx hb hXs hbl hbA hH ⟨by omega, by omega⟩ hL dL_law_649 ?_
  refine lv_aload_n hx hb dL_law_650 rfl (lv_at hl 1 rfl) ?_
  refine lv_iload hx hb dL_law_651 (lv_at hl 5 rfl) ?_
  refine lv_iconst (v := gI (2 : Int)) hx hb dL_law_653 (by decide) ?_
  refine g_iadd hx hb dL_law_654 ?_
  refine g_sld hx hb hXs hbl hbA hH ⟨by omega, by omega⟩ hL dL_law_655 ?_
  obtain ⟨q656, e656, h⟩ := gBind_some h
  refine g_callVi (k := 136) (T := TX9) (N := 19) (As := [.int (gI (xs (Int.toNat ((4 * (j : Int)) + (1 : Int)))).toInt), .int (gI (xs (Int.toNat ((4 * (j : Int)) + (2 : Int)))).toInt)]) (rest := []) ⟨hx, hb, hml, hown, hts⟩ (metX9_task l D G σ q638.2 (xs (Int.toNat ((4 * (j : Int)) + (1 : Int)))).toInt (xs (Int.toNat ((4 * (j : Int)) + (2 : Int)))).toInt q656.1 q656.2 e656) (g_cwV (C := RX9) 2 hts q_ml_L_111 q_im_X9_task q_se_X9_task q_in_X9 q_co_X9_task ⟨rfl, rfl⟩ (by decide +kernel) ⟨Nat.le_of_ble_eq_true rfl, Nat.le_of_ble_eq_true rfl⟩) hX hH (rfl : gKinds[136]? = _) rfl rfl hl.1 rfl (Nat.le_of_ble_eq_true rfl) dL_law_656 ⟨by show _ ≤ 601024; omega, by show _ ≤ 7293034; omega⟩ (fun H locs hH => ?_)
  refine lv_istore (lv' := [(6, .int (gI q656.1)), (5, .int (gI q638.1)), (0, .ref b), (1, .ref (G.1 0)), (2, .ref (G.1 136)), (3, .ref (G.1 147)), (4, .int (gI (4 * (j : Int))))]) hx hb dL_law_659 hl (by decide) rfl (fun ls hl => ?_)
  refine lv_aload_n hx hb dL_law_661 rfl (lv_at hl 4 rfl) ?_
  obtain ⟨q662, e662, h⟩ := gBind_some h
  refine g_callVi (k := 136) (T := TX9) (N := 19) (As := []) (rest := []) ⟨hx, hb, hml, hown, hts⟩ (metX9_thrown l D G q656.2 q638.2 q662 e662) (g_cwV (C := RX9) 0 hts q_ml_L_86 q_im_X9_thrown q_se_X9_thrown q_in_X9 q_co_X9_thrown ⟨rfl, rfl⟩ (by decide +kernel) ⟨Nat.le_of_ble_eq_true rfl, Nat.le_of_ble_eq_true rfl⟩) hX hH (rfl : gKinds[136]? = _) rfl rfl hl.1 rfl (Nat.le_of_ble_eq_true rfl) dL_law_662 ⟨by show _ ≤ 601024; omega, by show _ ≤ 7293034; omega⟩ (fun H locs hH => ?_)
  refine lv_iload hx hb dL_law_665 (lv_at hl 1 rfl) ?_
  refine g_icmp_eq (tgt := 672) hx hb dL_law_667 (by decide) h (fun h => ?_) (fun h => absurd h (fun z => by cases z))
  refine lv_iload hx hb dL_law_672 (lv_at hl 1 rfl) ?_
  refine g_if_ne (tgt := 689) hx hb dL_law_674 (by decide) h (fun h => ?_) (fun h => ?_)
  · refine lv_goto (tgt := 1537) hx hb dL_law_689 (by decide) ?_
    cases h
    exact kk _ _ _ hH (lv_sub hl [2, 3, 4, 5, 6] rfl)
  · refine lv_aload_n hx hb dL_law_677 rfl (lv_at hl 5 rfl) ?_
    refine lv_iconst (v := gI (0 : Int)) hx hb dL_law_678 (by decide) ?_
    refine g_lald hx hb hX hH (k := 147) (rfl : gKinds[147]? = _) dL_law_679 ?_
    refine lv_iload hx hb dL_law_680 (lv_at hl 0 rfl) ?_
    refine lv_i2l (v := (gI q656.1).toInt64) hx hb dL_law_682 rfl ?_
    have hcmp : (q638.2 147) = ((gI q656.1).toInt64) := (gEq_some h).1
    have h := (gEq_some h).2
    refine W.lcmp hx hb dL_law_683 ?_
    have hc0 : lg_cmp (q638.2 147) ((gI q656.1).toInt64) = 0 := by rw [hcmp]; simp [lg_cmp]
    rw [hc0]
    refine lv_if_eq (tgt := 689) hx hb dL_law_684 (by decide) (fun _ => ?_) (fun z => absurd rfl z)
    refine lv_goto (tgt := 1537) hx hb dL_law_689 (by decide) ?_
    cases h
    exact kk _ _ _ hH (lv_sub hl [2, 3, 4, 5, 6] rfl)
def DL_c8 (xs : Nat → Int32) (j : Nat) (σ : gSt) (μ : gLg) : Option (gSt × gLg) :=
  (DX8_bands σ).bind fun q693 => (DX9_bands σ).bind fun q697 => gIf (q693 = q697.1) q693 q697.1 (some (q697.2, μ)) none
set_option maxHeartbeats 4000000 in
set_option maxRecDepth 100000 in
theorem lawc_8 {p : Program} {l : Launch} {e : Env} {s : State} {m : MethodId} {below : List Frame} {meth : Method} {c : Code} {b L j : Nat} {xs : Nat → Int32} {D : va_G} {G : gAd} {Q : State → Prop} (hlt : l.stackTraces = false) (hx : p.tables.exec = Jvm.exec) (hb : c.code = cL_law) (hml : c.maxLocals = 9) (hown : s.vm.findClass RL = some m.cls) (hts : ∀ w ∈ gLW, w.before #[Value.ref b] s = true) (hX : gX D G s) (hXs : va_X b L xs s s.heap) (hbl : b < s.heap.size) (hbA : ¬ gA G b) (hL : L ≤ 2048) (hj : 4 * j + 4 ≤ L) {H : Heap} {locs : List Loc} {ls : Array Slot} {cells slots : Nat} (hc : cells ≤ 500 + 3 * j) (hs : slots ≤ 20000 + 18 * j) {σ σ' : gSt} {μ μ' : gLg} (hH : gH D G s H locs σ μ) (hl : lv_has ls 9 [(0, .ref b), (1, .ref (G.1 0)), (2, .ref (G.1 136)), (3, .ref (G.1 147)), (4, .int (gI (4 * (j : Int))))]) (h : DL_c8 xs j σ μ = some (σ', μ')) (kk : ∀ (H1 : Heap) (locs1 : List Loc) (ls1 : Array Slot), gH D G s H1 locs1 σ' μ' → lv_has ls1 9 [(0, .ref b), (1, .ref (G.1 0)), (2, .ref (G.1 136)), (3, .ref (G.1 147)), (4, .int (gI (4 * (j : Int))))] → W p l e room_1 s m #[Value.ref b] below meth c H1 locs1 (cells + 0) (slots + 0) Q (F0 m 1537 ls1 [])) : W p l e room_1 s m #[Value.ref b] below meth c H locs cells slots Q (F0 m 692 ls []) := by
  unfold DL_c8 at h
  refine lv_aload_n hx hb dL_law_692 rfl (lv_at hl 1 rfl) ?_
  obtain ⟨q693, e693, h⟩ := gBind_some h
  refine g_callVi (k := 0) (T := TX8) (N := 10) (As := []) (rest := []) ⟨hx, hb, hml, hown, hts⟩ (metX8_bands l D G σ μ q693 e693) (g_cwV (C := RX8) 0 hts q_ml_L_112 q_im_X8_bands q_se_X8_bands q_in_X8 q_co_X8_bands ⟨rfl, rfl⟩ (by decide +kernel) ⟨Nat.le_of_ble_eq_true rfl, Nat.le_of_ble_eq_true rfl⟩) hX hH (rfl : gKinds[0]? = _) rfl rfl hl.1 rfl (Nat.le_of_ble_eq_true rfl) dL_law_693 ⟨by show _ ≤ 601024; omega, by show _ ≤ 7293034; omega⟩ (fun H locs hH => ?_)
  refine lv_aload_n hx hb dL_law_696 rfl (lv_at hl 2 rfl) ?_
  obtain ⟨q697, e697, h⟩ := gBind_some h
  refine g_callVi (k := 136) (T := TX9) (N := 19) (As := []) (rest := [.int (gI q693)]) ⟨hx, hb, hml, hown, hts⟩ (metX9_bands l D G σ μ q697.1 q697.2 e697) (g_cwV (C := RX9) 0 hts q_ml_L_115 q_im_X9_bands q_se_X9_bands q_in_X9 q_co_X9_bands ⟨rfl, rfl⟩ (by decide +kernel) ⟨Nat.le_of_ble_eq_true rfl, Nat.le_of_ble_eq_true rfl⟩) hX hH (rfl : gKinds[136]? = _) rfl rfl hl.1 rfl (Nat.le_of_ble_eq_true rfl) dL_law_697 ⟨by show _ ≤ 601024; omega, by show _ ≤ 7293034; omega⟩ (fun H locs hH => ?_)
  refine g_icmp_eq (tgt := 1537) hx hb dL_law_700 (by decide) h (fun h => ?_) (fun h => absurd h (fun z => by cases z))
  cases h
  exact kk _ _ _ hH (lv_sub hl [0, 1, 2, 3, 4] rfl)
def DL_c9 (xs : Nat → Int32) (j : Nat) (σ : gSt) (μ : gLg) : Option (gSt × gLg) :=
  (gWrP (DX8_row σ (xs (Int.toNat ((4 * (j : Int)) + (1 : Int)))).toInt (xs (Int.toNat ((4 * (j : Int)) + (2 : Int)))).toInt) [(3, 1)] μ).bind fun q719 => (DX9_row σ (xs (Int.toNat ((4 * (j : Int)) + (1 : Int)))).toInt (xs (Int.toNat ((4 * (j : Int)) + (2 : Int)))).toInt).bind fun q737 => (DX9_thrown q737.2).bind fun q743 => gIf (q743 = q719.1) q743 q719.1 (gIf (q719.1 = 0) q719.1 0 (gEq (q719.2 147) ((gI q737.1).toInt64) (some (q737.2, q719.2))) (some (q737.2, q719.2))) none
set_option maxHeartbeats 4000000 in
set_option maxRecDepth 100000 in
theorem lawc_9 {p : Program} {l : Launch} {e : Env} {s : State} {m : MethodId} {below : List Frame} {meth : Method} {c : Code} {b L j : Nat} {xs : Nat → Int32} {D : va_G} {G : gAd} {Q : State → Prop} (hlt : l.stackTraces = false) (hx : p.tables.exec = Jvm.exec) (hb : c.code = cL_law) (hml : c.maxLocals = 9) (hown : s.vm.findClass RL = some m.cls) (hts : ∀ w ∈ gLW, w.before #[Value.ref b] s = true) (hX : gX D G s) (hXs : va_X b L xs s s.heap) (hbl : b < s.heap.size) (hbA : ¬ gA G b) (hL : L ≤ 2048) (hj : 4 * j + 4 ≤ L) {H : Heap} {locs : List Loc} {ls : Array Slot} {cells slots : Nat} (hc : cells ≤ 500 + 3 * j) (hs : slots ≤ 20000 + 18 * j) {σ σ' : gSt} {μ μ' : gLg} (hH : gH D G s H locs σ μ) (hl : lv_has ls 9 [(0, .ref b), (1, .ref (G.1 0)), (2, .ref (G.1 136)), (3, .ref (G.1 147)), (4, .int (gI (4 * (j : Int))))]) (h : DL_c9 xs j σ μ = some (σ', μ')) (kk : ∀ (H1 : Heap) (locs1 : List Loc) (ls1 : Array Slot), gH D G s H1 locs1 σ' μ' → lv_has ls1 9 [(0, .ref b), (1, .ref (G.1 0)), (2, .ref (G.1 136)), (3, .ref (G.1 147)), (4, .int (gI (4 * (j : Int))))] → W p l e room_1 s m #[Value.ref b] below meth c H1 locs1 (cells + 2) (slots + 12) Q (F0 m 1537 ls1 [])) : W p l e room_1 s m #[Value.ref b] below meth c H locs cells slots Q (F0 m 705 ls []) := by
  unfold DL_c9 at h
  refine lv_aload_n hx hb dL_law_705 rfl (lv_at hl 1 rfl) ?_
  refine lv_aload_n hx hb dL_law_706 rfl (lv_at hl 0 rfl) ?_
  refine lv_iload hx hb dL_law_707 (lv_at hl 4 rfl) ?_
  refine lv_iconst (v := gI (1 : Int)) hx hb dL_law_709 (by decide) ?_
  refine g_iadd hx hb dL_law_710 ?_
  refine g_sld hx hb hXs hbl hbA hH ⟨by omega, by omega⟩ hL dL_law_711 ?_
  refine lv_aload_n hx hb dL_law_712 rfl (lv_at hl 0 rfl) ?_
  refine lv_iload hx hb dL_law_713 (lv_at hl 4 rfl) ?_
  refine lv_iconst (v := gI (2 : Int)) hx hb dL_law_715 (by decide) ?_
  refine g_iadd hx hb dL_law_716 ?_
  refine g_sld hx hb hXs hbl hbA hH ⟨by omega, by omega⟩ hL dL_law_717 ?_
  refine lv_aload_n hx hb dL_law_718 rfl (lv_at hl 3 rfl) ?_
  obtain ⟨q719, e719, h⟩ := gBind_some h
  refine g_callWi (As := [.ref (G.1 0), .int (gI (xs (Int.toNat ((4 * (j : Int)) + (1 : Int)))).toInt), .int (gI (xs (Int.toNat ((4 * (j : Int)) + (2 : Int)))).toInt), .ref (G.1 147)]) (rest := []) ⟨hx, hb, hml, hown, hts⟩ (metL_row l hlt D G σ μ (xs (Int.toNat ((4 * (j : Int)) + (1 : Int)))).toInt (xs (Int.toNat ((4 * (j : Int)) + (2 : Int)))).toInt q719.1 q719.2 e719) (g_cwW 4 hts q_ml_L_116 q_st_L_row q_in_L q_cw_L_row ⟨rfl, rfl⟩ (by decide +kernel) ⟨Nat.le_of_ble_eq_true rfl, Nat.le_of_ble_eq_true rfl⟩) hX hH rfl hl.1 rfl (Nat.le_of_ble_eq_true rfl) dL_law_719 ⟨by show _ ≤ 601024; omega, by show _ ≤ 7293034; omega⟩ (fun H locs hH => ?_)
  refine lv_istore (lv' := [(5, .int (gI q719.1)), (0, .ref b), (1, .ref (G.1 0)), (2, .ref (G.1 136)), (3, .ref (G.1 147)), (4, .int (gI (4 * (j : Int))))]) hx hb dL_law_722 hl (by decide) rfl (fun ls hl => ?_)
  refine lv_aload_n hx hb dL_law_724 rfl (lv_at hl 3 rfl) ?_
  refine lv_aload_n hx hb dL_law_725 rfl (lv_at hl 1 rfl) ?_
  refine lv_iload hx hb dL_law_726 (lv_at hl 5 rfl) ?_
  refine lv_iconst (v := gI (1 : Int)) hx hb dL_law_728 (by decide) ?_
  refine g_iadd hx hb dL_law_729 ?_
  refine g_sld hx hb hXs hbl hbA hH ⟨by omega, by omega⟩ hL dL_law_730 ?_
  refine lv_aload_n hx hb dL_law_731 rfl (lv_at hl 1 rfl) ?_
  refine lv_iload hx hb dL_law_732 (lv_at hl 5 rfl) ?_
  refine lv_iconst (v := gI (2 : Int)) hx hb dL_law_734 (by decide) ?_
  refine g_iadd hx hb dL_law_735 ?_
  refine g_sld hx hb hXs hbl hbA hH ⟨by omega, by omega⟩ hL dL_law_736 ?_
  obtain ⟨q737, e737, h⟩ := gBind_some h
  refine g_callVi (k := 136) (T := TX9) (N := 19) (As := [.int (gI (xs (Int.toNat ((4 * (j : Int)) + (1 : Int)))).toInt), .int (gI (xs (Int.toNat ((4 * (j : Int)) + (2 : Int)))).toInt)]) (rest := []) ⟨hx, hb, hml, hown, hts⟩ (metX9_row l D G σ q719.2 (xs (Int.toNat ((4 * (j : Int)) + (1 : Int)))).toInt (xs (Int.toNat ((4 * (j : Int)) + (2 : Int)))).toInt q737.1 q737.2 e737) (g_cwV (C := RX9) 2 hts q_ml_L_118 q_im_X9_row q_se_X9_row q_in_X9 q_co_X9_row ⟨rfl, rfl⟩ (by decide +kernel) ⟨Nat.le_of_ble_eq_true rfl, Nat.le_of_ble_eq_true rfl⟩) hX hH (rfl : gKinds[136]? = _) rfl rfl hl.1 rfl (Nat.le_of_ble_eq_true rfl) dL_law_737 ⟨by show _ ≤ 601024; omega, by show _ ≤ 7293034; omega⟩ (fun H locs hH => ?_)
  refine lv_istore (lv' := [(6, .int (gI q737.1)), (5, .int (gI q719.1)), (0, .ref b), (1, .ref (G.1 0)), (2, .ref (G.1 136)), (3, .ref (G.1 147)), (4, .int (gI (4 * (j : Int))))]) hx hb dL_law_740 hl (by decide) rfl (fun ls hl => ?_)
  refine lv_aload_n hx hb dL_law_742 rfl (lv_at hl 4 rfl) ?_
  obtain ⟨q743, e743, h⟩ := gBind_some h
  refine g_callVi (k := 136) (T := TX9) (N := 19) (As := []) (rest := []) ⟨hx, hb, hml, hown, hts⟩ (metX9_thrown l D G q737.2 q719.2 q743 e743) (g_cwV (C := RX9) 0 hts q_ml_L_86 q_im_X9_thrown q_se_X9_thrown q_in_X9 q_co_X9_thrown ⟨rfl, rfl⟩ (by decide +kernel) ⟨Nat.le_of_ble_eq_true rfl, Nat.le_of_ble_eq_true rfl⟩) hX hH (rfl : gKinds[136]? = _) rfl rfl hl.1 rfl (Nat.le_of_ble_eq_true rfl) dL_law_743 ⟨by show _ ≤ 601024; omega, by show _ ≤ 7293034; omega⟩ (fun H locs hH => ?_)
  refine lv_iload hx hb dL_law_746 (lv_at hl 1 rfl) ?_
  refine g_icmp_eq (tgt := 753) hx hb dL_law_748 (by decide) h (fun h => ?_) (fun h => absurd h (fun z => by cases z))
  refine lv_iload hx hb dL_law_753 (lv_at hl 1 rfl) ?_
  refine g_if_ne (tgt := 770) hx hb dL_law_755 (by decide) h (fun h => ?_) (fun h => ?_)
  · refine lv_goto (tgt := 1537) hx hb dL_law_770 (by decide) ?_
    cases h
    exact kk _ _ _ hH (lv_sub hl [2, 3, 4, 5, 6] rfl)
  · refine lv_aload_n hx hb dL_law_758 rfl (lv_at hl 5 rfl) ?_
    refine lv_iconst (v := gI (0 : Int)) hx hb dL_law_759 (by decide) ?_
    refine g_lald hx hb hX hH (k := 147) (rfl : gKinds[147]? = _) dL_law_760 ?_
    refine lv_iload hx hb dL_law_761 (lv_at hl 0 rfl) ?_
    refine lv_i2l (v := (gI q737.1).toInt64) hx hb dL_law_763 rfl ?_
    have hcmp : (q719.2 147) = ((gI q737.1).toInt64) := (gEq_some h).1
    have h := (gEq_some h).2
    refine W.lcmp hx hb dL_law_764 ?_
    have hc0 : lg_cmp (q719.2 147) ((gI q737.1).toInt64) = 0 := by rw [hcmp]; simp [lg_cmp]
    rw [hc0]
    refine lv_if_eq (tgt := 770) hx hb dL_law_765 (by decide) (fun _ => ?_) (fun z => absurd rfl z)
    refine lv_goto (tgt := 1537) hx hb dL_law_770 (by decide) ?_
    cases h
    exact kk _ _ _ hH (lv_sub hl [2, 3, 4, 5, 6] rfl)
def DL_c10 (xs : Nat → Int32) (j : Nat) (σ : gSt) (μ : gLg) : Option (gSt × gLg) :=
  (DX8_sheets σ).bind fun q774 => (DX9_sheets σ).bind fun q778 => gIf (q774 = q778.1) q774 q778.1 (some (q778.2, μ)) none
set_option maxHeartbeats 4000000 in
set_option maxRecDepth 100000 in
theorem lawc_10 {p : Program} {l : Launch} {e : Env} {s : State} {m : MethodId} {below : List Frame} {meth : Method} {c : Code} {b L j : Nat} {xs : Nat → Int32} {D : va_G} {G : gAd} {Q : State → Prop} (hlt : l.stackTraces = false) (hx : p.tables.exec = Jvm.exec) (hb : c.code = cL_law) (hml : c.maxLocals = 9) (hown : s.vm.findClass RL = some m.cls) (hts : ∀ w ∈ gLW, w.before #[Value.ref b] s = true) (hX : gX D G s) (hXs : va_X b L xs s s.heap) (hbl : b < s.heap.size) (hbA : ¬ gA G b) (hL : L ≤ 2048) (hj : 4 * j + 4 ≤ L) {H : Heap} {locs : List Loc} {ls : Array Slot} {cells slots : Nat} (hc : cells ≤ 500 + 3 * j) (hs : slots ≤ 20000 + 18 * j) {σ σ' : gSt} {μ μ' : gLg} (hH : gH D G s H locs σ μ) (hl : lv_has ls 9 [(0, .ref b), (1, .ref (G.1 0)), (2, .ref (G.1 136)), (3, .ref (G.1 147)), (4, .int (gI (4 * (j : Int))))]) (h : DL_c10 xs j σ μ = some (σ', μ')) (kk : ∀ (H1 : Heap) (locs1 : List Loc) (ls1 : Array Slot), gH D G s H1 locs1 σ' μ' → lv_has ls1 9 [(0, .ref b), (1, .ref (G.1 0)), (2, .ref (G.1 136)), (3, .ref (G.1 147)), (4, .int (gI (4 * (j : Int))))] → W p l e room_1 s m #[Value.ref b] below meth c H1 locs1 (cells + 0) (slots + 0) Q (F0 m 1537 ls1 [])) : W p l e room_1 s m #[Value.ref b] below meth c H locs cells slots Q (F0 m 773 ls []) := by
  unfold DL_c10 at h
  refine lv_aload_n hx hb dL_law_773 rfl (lv_at hl 1 rfl) ?_
  obtain ⟨q774, e774, h⟩ := gBind_some h
  refine g_callVi (k := 0) (T := TX8) (N := 10) (As := []) (rest := []) ⟨hx, hb, hml, hown, hts⟩ (metX8_sheets l D G σ μ q774 e774) (g_cwV (C := RX8) 0 hts q_ml_L_119 q_im_X8_sheets q_se_X8_sheets q_in_X8 q_co_X8_sheets ⟨rfl, rfl⟩ (by decide +kernel) ⟨Nat.le_of_ble_eq_true rfl, Nat.le_of_ble_eq_true rfl⟩) hX hH (rfl : gKinds[0]? = _) rfl rfl hl.1 rfl (Nat.le_of_ble_eq_true rfl) dL_law_774 ⟨by show _ ≤ 601024; omega, by show _ ≤ 7293034; omega⟩ (fun H locs hH => ?_)
  refine lv_aload_n hx hb dL_law_777 rfl (lv_at hl 2 rfl) ?_
  obtain ⟨q778, e778, h⟩ := gBind_some h
  refine g_callVi (k := 136) (T := TX9) (N := 19) (As := []) (rest := [.int (gI q774)]) ⟨hx, hb, hml, hown, hts⟩ (metX9_sheets l D G σ μ q778.1 q778.2 e778) (g_cwV (C := RX9) 0 hts q_ml_L_122 q_im_X9_sheets q_se_X9_sheets q_in_X9 q_co_X9_sheets ⟨rfl, rfl⟩ (by decide +kernel) ⟨Nat.le_of_ble_eq_true rfl, Nat.le_of_ble_eq_true rfl⟩) hX hH (rfl : gKinds[136]? = _) rfl rfl hl.1 rfl (Nat.le_of_ble_eq_true rfl) dL_law_778 ⟨by show _ ≤ 601024; omega, by show _ ≤ 7293034; omega⟩ (fun H locs hH => ?_)
  refine g_icmp_eq (tgt := 1537) hx hb dL_law_781 (by decide) h (fun h => ?_) (fun h => absurd h (fun z => by cases z))
  cases h
  exact kk _ _ _ hH (lv_sub hl [0, 1, 2, 3, 4] rfl)
def DL_c11 (xs : Nat → Int32) (j : Nat) (σ : gSt) (μ : gLg) : Option (gSt × gLg) :=
  (gWrP (DX8_sheet σ (xs (Int.toNat ((4 * (j : Int)) + (1 : Int)))).toInt (xs (Int.toNat ((4 * (j : Int)) + (2 : Int)))).toInt) [(3, 1), (1, 2)] μ).bind fun q800 => (DX9_sheet σ (xs (Int.toNat ((4 * (j : Int)) + (1 : Int)))).toInt (xs (Int.toNat ((4 * (j : Int)) + (2 : Int)))).toInt).bind fun q818 => (DX9_thrown q818.2).bind fun q824 => gIf (q824 = q800.1) q824 q800.1 (gIf (q800.1 = 0) q800.1 0 (gEq (q800.2 147) ((gI q818.1).toInt64) (some (q818.2, q800.2))) (some (q818.2, q800.2))) none
set_option maxHeartbeats 4000000 in
set_option maxRecDepth 100000 in
theorem lawc_11 {p : Program} {l : Launch} {e : Env} {s : State} {m : MethodId} {below : List Frame} {meth : Method} {c : Code} {b L j : Nat} {xs : Nat → Int32} {D : va_G} {G : gAd} {Q : State → Prop} (hlt : l.stackTraces = false) (hx : p.tables.exec = Jvm.exec) (hb : c.code = cL_law) (hml : c.maxLocals = 9) (hown : s.vm.findClass RL = some m.cls) (hts : ∀ w ∈ gLW, w.before #[Value.ref b] s = true) (hX : gX D G s) (hXs : va_X b L xs s s.heap) (hbl : b < s.heap.size) (hbA : ¬ gA G b) (hL : L ≤ 2048) (hj : 4 * j + 4 ≤ L) {H : Heap} {locs : List Loc} {ls : Array Slot} {cells slots : Nat} (hc : cells ≤ 500 + 3 * j) (hs : slots ≤ 20000 + 18 * j) {σ σ' : gSt} {μ μ' : gLg} (hH : gH D G s H locs σ μ) (hl : lv_has ls 9 [(0, .ref b), (1, .ref (G.1 0)), (2, .ref (G.1 136)), (3, .ref (G.1 147)), (4, .int (gI (4 * (j : Int))))]) (h : DL_c11 xs j σ μ = some (σ', μ')) (kk : ∀ (H1 : Heap) (locs1 : List Loc) (ls1 : Array Slot), gH D G s H1 locs1 σ' μ' → lv_has ls1 9 [(0, .ref b), (1, .ref (G.1 0)), (2, .ref (G.1 136)), (3, .ref (G.1 147)), (4, .int (gI (4 * (j : Int))))] → W p l e room_1 s m #[Value.ref b] below meth c H1 locs1 (cells + 2) (slots + 12) Q (F0 m 1537 ls1 [])) : W p l e room_1 s m #[Value.ref b] below meth c H locs cells slots Q (F0 m 786 ls []) := by
  unfold DL_c11 at h
  refine lv_aload_n hx hb dL_law_786 rfl (lv_at hl 1 rfl) ?_
  refine lv_aload_n hx hb dL_law_787 rfl (lv_at hl 0 rfl) ?_
  refine lv_iload hx hb dL_law_788 (lv_at hl 4 rfl) ?_
  refine lv_iconst (v := gI (1 : Int)) hx hb dL_law_790 (by decide) ?_
  refine g_iadd hx hb dL_law_791 ?_
  refine g_sld hx hb hXs hbl hbA hH ⟨by omega, by omega⟩ hL dL_law_792 ?_
  refine lv_aload_n hx hb dL_law_793 rfl (lv_at hl 0 rfl) ?_
  refine lv_iload hx hb dL_law_794 (lv_at hl 4 rfl) ?_
  refine lv_iconst (v := gI (2 : Int)) hx hb dL_law_796 (by decide) ?_
  refine g_iadd hx hb dL_law_797 ?_
  refine g_sld hx hb hXs hbl hbA hH ⟨by omega, by omega⟩ hL dL_law_798 ?_
  refine lv_aload_n hx hb dL_law_799 rfl (lv_at hl 3 rfl) ?_
  obtain ⟨q800, e800, h⟩ := gBind_some h
  refine g_callWi (As := [.ref (G.1 0), .int (gI (xs (Int.toNat ((4 * (j : Int)) + (1 : Int)))).toInt), .int (gI (xs (Int.toNat ((4 * (j : Int)) + (2 : Int)))).toInt), .ref (G.1 147)]) (rest := []) ⟨hx, hb, hml, hown, hts⟩ (metL_sheet l hlt D G σ μ (xs (Int.toNat ((4 * (j : Int)) + (1 : Int)))).toInt (xs (Int.toNat ((4 * (j : Int)) + (2 : Int)))).toInt q800.1 q800.2 e800) (g_cwW 4 hts q_ml_L_123 q_st_L_sheet q_in_L q_cw_L_sheet ⟨rfl, rfl⟩ (by decide +kernel) ⟨Nat.le_of_ble_eq_true rfl, Nat.le_of_ble_eq_true rfl⟩) hX hH rfl hl.1 rfl (Nat.le_of_ble_eq_true rfl) dL_law_800 ⟨by show _ ≤ 601024; omega, by show _ ≤ 7293034; omega⟩ (fun H locs hH => ?_)
  refine lv_istore (lv' := [(5, .int (gI q800.1)), (0, .ref b), (1, .ref (G.1 0)), (2, .ref (G.1 136)), (3, .ref (G.1 147)), (4, .int (gI (4 * (j : Int))))]) hx hb dL_law_803 hl (by decide) rfl (fun ls hl => ?_)
  refine lv_aload_n hx hb dL_law_805 rfl (lv_at hl 3 rfl) ?_
  refine lv_aload_n hx hb dL_law_806 rfl (lv_at hl 1 rfl) ?_
  refine lv_iload hx hb dL_law_807 (lv_at hl 5 rfl) ?_
  refine lv_iconst (v := gI (1 : Int)) hx hb dL_law_809 (by decide) ?_
  refine g_iadd hx hb dL_law_810 ?_
  refine g_sld hx hb hXs hbl hbA hH ⟨by omega, by omega⟩ hL dL_law_811 ?_
  refine lv_aload_n hx hb dL_law_812 rfl (lv_at hl 1 rfl) ?_
  refine lv_iload hx hb dL_law_813 (lv_at hl 5 rfl) ?_
  refine lv_iconst (v := gI (2 : Int)) hx hb dL_law_815 (by decide) ?_
  refine g_iadd hx hb dL_law_816 ?_
  refine g_sld hx hb hXs hbl hbA hH ⟨by omega, by omega⟩ hL dL_law_817 ?_
  obtain ⟨q818, e818, h⟩ := gBind_some h
  refine g_callVi (k := 136) (T := TX9) (N := 19) (As := [.int (gI (xs (Int.toNat ((4 * (j : Int)) + (1 : Int)))).toInt), .int (gI (xs (Int.toNat ((4 * (j : Int)) + (2 : Int)))).toInt)]) (rest := []) ⟨hx, hb, hml, hown, hts⟩ (metX9_sheet l D G σ q800.2 (xs (Int.toNat ((4 * (j : Int)) + (1 : Int)))).toInt (xs (Int.toNat ((4 * (j : Int)) + (2 : Int)))).toInt q818.1 q818.2 e818) (g_cwV (C := RX9) 2 hts q_ml_L_125 q_im_X9_sheet q_se_X9_sheet q_in_X9 q_co_X9_sheet ⟨rfl, rfl⟩ (by decide +kernel) ⟨Nat.le_of_ble_eq_true rfl, Nat.le_of_ble_eq_true rfl⟩) hX hH (rfl : gKinds[136]? = _) rfl rfl hl.1 rfl (Nat.le_of_ble_eq_true rfl) dL_law_818 ⟨by show _ ≤ 601024; omega, by show _ ≤ 7293034; omega⟩ (fun H locs hH => ?_)
  refine lv_istore (lv' := [(6, .int (gI q818.1)), (5, .int (gI q800.1)), (0, .ref b), (1, .ref (G.1 0)), (2, .ref (G.1 136)), (3, .ref (G.1 147)), (4, .int (gI (4 * (j : Int))))]) hx hb dL_law_821 hl (by decide) rfl (fun ls hl => ?_)
  refine lv_aload_n hx hb dL_law_823 rfl (lv_at hl 4 rfl) ?_
  obtain ⟨q824, e824, h⟩ := gBind_some h
  refine g_callVi (k := 136) (T := TX9) (N := 19) (As := []) (rest := []) ⟨hx, hb, hml, hown, hts⟩ (metX9_thrown l D G q818.2 q800.2 q824 e824) (g_cwV (C := RX9) 0 hts q_ml_L_86 q_im_X9_thrown q_se_X9_thrown q_in_X9 q_co_X9_thrown ⟨rfl, rfl⟩ (by decide +kernel) ⟨Nat.le_of_ble_eq_true rfl, Nat.le_of_ble_eq_true rfl⟩) hX hH (rfl : gKinds[136]? = _) rfl rfl hl.1 rfl (Nat.le_of_ble_eq_true rfl) dL_law_824 ⟨by show _ ≤ 601024; omega, by show _ ≤ 7293034; omega⟩ (fun H locs hH => ?_)
  refine lv_iload hx hb dL_law_827 (lv_at hl 1 rfl) ?_
  refine g_icmp_eq (tgt := 834) hx hb dL_law_829 (by decide) h (fun h => ?_) (fun h => absurd h (fun z => by cases z))
  refine lv_iload hx hb dL_law_834 (lv_at hl 1 rfl) ?_
  refine g_if_ne (tgt := 851) hx hb dL_law_836 (by decide) h (fun h => ?_) (fun h => ?_)
  · refine lv_goto (tgt := 1537) hx hb dL_law_851 (by decide) ?_
    cases h
    exact kk _ _ _ hH (lv_sub hl [2, 3, 4, 5, 6] rfl)
  · refine lv_aload_n hx hb dL_law_839 rfl (lv_at hl 5 rfl) ?_
    refine lv_iconst (v := gI (0 : Int)) hx hb dL_law_840 (by decide) ?_
    refine g_lald hx hb hX hH (k := 147) (rfl : gKinds[147]? = _) dL_law_841 ?_
    refine lv_iload hx hb dL_law_842 (lv_at hl 0 rfl) ?_
    refine lv_i2l (v := (gI q818.1).toInt64) hx hb dL_law_844 rfl ?_
    have hcmp : (q800.2 147) = ((gI q818.1).toInt64) := (gEq_some h).1
    have h := (gEq_some h).2
    refine W.lcmp hx hb dL_law_845 ?_
    have hc0 : lg_cmp (q800.2 147) ((gI q818.1).toInt64) = 0 := by rw [hcmp]; simp [lg_cmp]
    rw [hc0]
    refine lv_if_eq (tgt := 851) hx hb dL_law_846 (by decide) (fun _ => ?_) (fun z => absurd rfl z)
    refine lv_goto (tgt := 1537) hx hb dL_law_851 (by decide) ?_
    cases h
    exact kk _ _ _ hH (lv_sub hl [2, 3, 4, 5, 6] rfl)
def DL_c12 (xs : Nat → Int32) (j : Nat) (σ : gSt) (μ : gLg) : Option (gSt × gLg) :=
  (gWrP (DX8_sheetAt σ (xs (Int.toNat ((4 * (j : Int)) + (1 : Int)))).toInt (xs (Int.toNat ((4 * (j : Int)) + (2 : Int)))).toInt) [(3, 1), (1, 2)] μ).bind fun q868 => (DX9_sheetAt σ (xs (Int.toNat ((4 * (j : Int)) + (1 : Int)))).toInt (xs (Int.toNat ((4 * (j : Int)) + (2 : Int)))).toInt).bind fun q886 => (DX9_thrown q886.2).bind fun q892 => gIf (q892 = q868.1) q892 q868.1 (gIf (q868.1 = 0) q868.1 0 (gEq (q868.2 147) ((gI q886.1).toInt64) (some (q886.2, q868.2))) (some (q886.2, q868.2))) none
set_option maxHeartbeats 4000000 in
set_option maxRecDepth 100000 in
theorem lawc_12 {p : Program} {l : Launch} {e : Env} {s : State} {m : MethodId} {below : List Frame} {meth : Method} {c : Code} {b L j : Nat} {xs : Nat → Int32} {D : va_G} {G : gAd} {Q : State → Prop} (hlt : l.stackTraces = false) (hx : p.tables.exec = Jvm.exec) (hb : c.code = cL_law) (hml : c.maxLocals = 9) (hown : s.vm.findClass RL = some m.cls) (hts : ∀ w ∈ gLW, w.before #[Value.ref b] s = true) (hX : gX D G s) (hXs : va_X b L xs s s.heap) (hbl : b < s.heap.size) (hbA : ¬ gA G b) (hL : L ≤ 2048) (hj : 4 * j + 4 ≤ L) {H : Heap} {locs : List Loc} {ls : Array Slot} {cells slots : Nat} (hc : cells ≤ 500 + 3 * j) (hs : slots ≤ 20000 + 18 * j) {σ σ' : gSt} {μ μ' : gLg} (hH : gH D G s H locs σ μ) (hl : lv_has ls 9 [(0, .ref b), (1, .ref (G.1 0)), (2, .ref (G.1 136)), (3, .ref (G.1 147)), (4, .int (gI (4 * (j : Int))))]) (h : DL_c12 xs j σ μ = some (σ', μ')) (kk : ∀ (H1 : Heap) (locs1 : List Loc) (ls1 : Array Slot), gH D G s H1 locs1 σ' μ' → lv_has ls1 9 [(0, .ref b), (1, .ref (G.1 0)), (2, .ref (G.1 136)), (3, .ref (G.1 147)), (4, .int (gI (4 * (j : Int))))] → W p l e room_1 s m #[Value.ref b] below meth c H1 locs1 (cells + 2) (slots + 12) Q (F0 m 1537 ls1 [])) : W p l e room_1 s m #[Value.ref b] below meth c H locs cells slots Q (F0 m 854 ls []) := by
  unfold DL_c12 at h
  refine lv_aload_n hx hb dL_law_854 rfl (lv_at hl 1 rfl) ?_
  refine lv_aload_n hx hb dL_law_855 rfl (lv_at hl 0 rfl) ?_
  refine lv_iload hx hb dL_law_856 (lv_at hl 4 rfl) ?_
  refine lv_iconst (v := gI (1 : Int)) hx hb dL_law_858 (by decide) ?_
  refine g_iadd hx hb dL_law_859 ?_
  refine g_sld hx hb hXs hbl hbA hH ⟨by omega, by omega⟩ hL dL_law_860 ?_
  refine lv_aload_n hx hb dL_law_861 rfl (lv_at hl 0 rfl) ?_
  refine lv_iload hx hb dL_law_862 (lv_at hl 4 rfl) ?_
  refine lv_iconst (v := gI (2 : Int)) hx hb dL_law_864 (by decide) ?_
  refine g_iadd hx hb dL_law_865 ?_
  refine g_sld hx hb hXs hbl hbA hH ⟨by omega, by omega⟩ hL dL_law_866 ?_
  refine lv_aload_n hx hb dL_law_867 rfl (lv_at hl 3 rfl) ?_
  obtain ⟨q868, e868, h⟩ := gBind_some h
  refine g_callWi (As := [.ref (G.1 0), .int (gI (xs (Int.toNat ((4 * (j : Int)) + (1 : Int)))).toInt), .int (gI (xs (Int.toNat ((4 * (j : Int)) + (2 : Int)))).toInt), .ref (G.1 147)]) (rest := []) ⟨hx, hb, hml, hown, hts⟩ (metL_sheetAt l hlt D G σ μ (xs (Int.toNat ((4 * (j : Int)) + (1 : Int)))).toInt (xs (Int.toNat ((4 * (j : Int)) + (2 : Int)))).toInt q868.1 q868.2 e868) (g_cwW 4 hts q_ml_L_126 q_st_L_sheetAt q_in_L q_cw_L_sheetAt ⟨rfl, rfl⟩ (by decide +kernel) ⟨Nat.le_of_ble_eq_true rfl, Nat.le_of_ble_eq_true rfl⟩) hX hH rfl hl.1 rfl (Nat.le_of_ble_eq_true rfl) dL_law_868 ⟨by show _ ≤ 601024; omega, by show _ ≤ 7293034; omega⟩ (fun H locs hH => ?_)
  refine lv_istore (lv' := [(5, .int (gI q868.1)), (0, .ref b), (1, .ref (G.1 0)), (2, .ref (G.1 136)), (3, .ref (G.1 147)), (4, .int (gI (4 * (j : Int))))]) hx hb dL_law_871 hl (by decide) rfl (fun ls hl => ?_)
  refine lv_aload_n hx hb dL_law_873 rfl (lv_at hl 3 rfl) ?_
  refine lv_aload_n hx hb dL_law_874 rfl (lv_at hl 1 rfl) ?_
  refine lv_iload hx hb dL_law_875 (lv_at hl 5 rfl) ?_
  refine lv_iconst (v := gI (1 : Int)) hx hb dL_law_877 (by decide) ?_
  refine g_iadd hx hb dL_law_878 ?_
  refine g_sld hx hb hXs hbl hbA hH ⟨by omega, by omega⟩ hL dL_law_879 ?_
  refine lv_aload_n hx hb dL_law_880 rfl (lv_at hl 1 rfl) ?_
  refine lv_iload hx hb dL_law_881 (lv_at hl 5 rfl) ?_
  refine lv_iconst (v := gI (2 : Int)) hx hb dL_law_883 (by decide) ?_
  refine g_iadd hx hb dL_law_884 ?_
  refine g_sld hx hb hXs hbl hbA hH ⟨by omega, by omega⟩ hL dL_law_885 ?_
  obtain ⟨q886, e886, h⟩ := gBind_some h
  refine g_callVi (k := 136) (T := TX9) (N := 19) (As := [.int (gI (xs (Int.toNat ((4 * (j : Int)) + (1 : Int)))).toInt), .int (gI (xs (Int.toNat ((4 * (j : Int)) + (2 : Int)))).toInt)]) (rest := []) ⟨hx, hb, hml, hown, hts⟩ (metX9_sheetAt l D G σ q868.2 (xs (Int.toNat ((4 * (j : Int)) + (1 : Int)))).toInt (xs (Int.toNat ((4 * (j : Int)) + (2 : Int)))).toInt q886.1 q886.2 e886) (g_cwV (C := RX9) 2 hts q_ml_L_128 q_im_X9_sheetAt q_se_X9_sheetAt q_in_X9 q_co_X9_sheetAt ⟨rfl, rfl⟩ (by decide +kernel) ⟨Nat.le_of_ble_eq_true rfl, Nat.le_of_ble_eq_true rfl⟩) hX hH (rfl : gKinds[136]? = _) rfl rfl hl.1 rfl (Nat.le_of_ble_eq_true rfl) dL_law_886 ⟨by show _ ≤ 601024; omega, by show _ ≤ 7293034; omega⟩ (fun H locs hH => ?_)
  refine lv_istore (lv' := [(6, .int (gI q886.1)), (5, .int (gI q868.1)), (0, .ref b), (1, .ref (G.1 0)), (2, .ref (G.1 136)), (3, .ref (G.1 147)), (4, .int (gI (4 * (j : Int))))]) hx hb dL_law_889 hl (by decide) rfl (fun ls hl => ?_)
  refine lv_aload_n hx hb dL_law_891 rfl (lv_at hl 4 rfl) ?_
  obtain ⟨q892, e892, h⟩ := gBind_some h
  refine g_callVi (k := 136) (T := TX9) (N := 19) (As := []) (rest := []) ⟨hx, hb, hml, hown, hts⟩ (metX9_thrown l D G q886.2 q868.2 q892 e892) (g_cwV (C := RX9) 0 hts q_ml_L_86 q_im_X9_thrown q_se_X9_thrown q_in_X9 q_co_X9_thrown ⟨rfl, rfl⟩ (by decide +kernel) ⟨Nat.le_of_ble_eq_true rfl, Nat.le_of_ble_eq_true rfl⟩) hX hH (rfl : gKinds[136]? = _) rfl rfl hl.1 rfl (Nat.le_of_ble_eq_true rfl) dL_law_892 ⟨by show _ ≤ 601024; omega, by show _ ≤ 7293034; omega⟩ (fun H locs hH => ?_)
  refine lv_iload hx hb dL_law_895 (lv_at hl 1 rfl) ?_
  refine g_icmp_eq (tgt := 902) hx hb dL_law_897 (by decide) h (fun h => ?_) (fun h => absurd h (fun z => by cases z))
  refine lv_iload hx hb dL_law_902 (lv_at hl 1 rfl) ?_
  refine g_if_ne (tgt := 919) hx hb dL_law_904 (by decide) h (fun h => ?_) (fun h => ?_)
  · refine lv_goto (tgt := 1537) hx hb dL_law_919 (by decide) ?_
    cases h
    exact kk _ _ _ hH (lv_sub hl [2, 3, 4, 5, 6] rfl)
  · refine lv_aload_n hx hb dL_law_907 rfl (lv_at hl 5 rfl) ?_
    refine lv_iconst (v := gI (0 : Int)) hx hb dL_law_908 (by decide) ?_
    refine g_lald hx hb hX hH (k := 147) (rfl : gKinds[147]? = _) dL_law_909 ?_
    refine lv_iload hx hb dL_law_910 (lv_at hl 0 rfl) ?_
    refine lv_i2l (v := (gI q886.1).toInt64) hx hb dL_law_912 rfl ?_
    have hcmp : (q868.2 147) = ((gI q886.1).toInt64) := (gEq_some h).1
    have h := (gEq_some h).2
    refine W.lcmp hx hb dL_law_913 ?_
    have hc0 : lg_cmp (q868.2 147) ((gI q886.1).toInt64) = 0 := by rw [hcmp]; simp [lg_cmp]
    rw [hc0]
    refine lv_if_eq (tgt := 919) hx hb dL_law_914 (by decide) (fun _ => ?_) (fun z => absurd rfl z)
    refine lv_goto (tgt := 1537) hx hb dL_law_919 (by decide) ?_
    cases h
    exact kk _ _ _ hH (lv_sub hl [2, 3, 4, 5, 6] rfl)
def DL_c13 (xs : Nat → Int32) (j : Nat) (σ : gSt) (μ : gLg) : Option (gSt × gLg) :=
  (gWrP (DX8_part σ (xs (Int.toNat ((4 * (j : Int)) + (1 : Int)))).toInt (xs (Int.toNat ((4 * (j : Int)) + (2 : Int)))).toInt (xs (Int.toNat ((4 * (j : Int)) + (3 : Int)))).toInt) [(3, 1), (1, 2)] μ).bind fun q942 => (DX9_part σ (xs (Int.toNat ((4 * (j : Int)) + (1 : Int)))).toInt (xs (Int.toNat ((4 * (j : Int)) + (2 : Int)))).toInt (xs (Int.toNat ((4 * (j : Int)) + (3 : Int)))).toInt).bind fun q966 => (DX9_thrown q966.2).bind fun q972 => gIf (q972 = q942.1) q972 q942.1 (gIf (q942.1 = 0) q942.1 0 (gEq (q942.2 147) ((gI q966.1).toInt64) (some (q966.2, q942.2))) (some (q966.2, q942.2))) none
set_option maxHeartbeats 4000000 in
set_option maxRecDepth 100000 in
theorem lawc_13 {p : Program} {l : Launch} {e : Env} {s : State} {m : MethodId} {below : List Frame} {meth : Method} {c : Code} {b L j : Nat} {xs : Nat → Int32} {D : va_G} {G : gAd} {Q : State → Prop} (hlt : l.stackTraces = false) (hx : p.tables.exec = Jvm.exec) (hb : c.code = cL_law) (hml : c.maxLocals = 9) (hown : s.vm.findClass RL = some m.cls) (hts : ∀ w ∈ gLW, w.before #[Value.ref b] s = true) (hX : gX D G s) (hXs : va_X b L xs s s.heap) (hbl : b < s.heap.size) (hbA : ¬ gA G b) (hL : L ≤ 2048) (hj : 4 * j + 4 ≤ L) {H : Heap} {locs : List Loc} {ls : Array Slot} {cells slots : Nat} (hc : cells ≤ 500 + 3 * j) (hs : slots ≤ 20000 + 18 * j) {σ σ' : gSt} {μ μ' : gLg} (hH : gH D G s H locs σ μ) (hl : lv_has ls 9 [(0, .ref b), (1, .ref (G.1 0)), (2, .ref (G.1 136)), (3, .ref (G.1 147)), (4, .int (gI (4 * (j : Int))))]) (h : DL_c13 xs j σ μ = some (σ', μ')) (kk : ∀ (H1 : Heap) (locs1 : List Loc) (ls1 : Array Slot), gH D G s H1 locs1 σ' μ' → lv_has ls1 9 [(0, .ref b), (1, .ref (G.1 0)), (2, .ref (G.1 136)), (3, .ref (G.1 147)), (4, .int (gI (4 * (j : Int))))] → W p l e room_1 s m #[Value.ref b] below meth c H1 locs1 (cells + 2) (slots + 12) Q (F0 m 1537 ls1 [])) : W p l e room_1 s m #[Value.ref b] below meth c H locs cells slots Q (F0 m 922 ls []) := by
  unfold DL_c13 at h
  refine lv_aload_n hx hb dL_law_922 rfl (lv_at hl 1 rfl) ?_
  refine lv_aload_n hx hb dL_law_923 rfl (lv_at hl 0 rfl) ?_
  refine lv_iload hx hb dL_law_924 (lv_at hl 4 rfl) ?_
  refine lv_iconst (v := gI (1 : Int)) hx hb dL_law_926 (by decide) ?_
  refine g_iadd hx hb dL_law_927 ?_
  refine g_sld hx hb hXs hbl hbA hH ⟨by omega, by omega⟩ hL dL_law_928 ?_
  refine lv_aload_n hx hb dL_law_929 rfl (lv_at hl 0 rfl) ?_
  refine lv_iload hx hb dL_law_930 (lv_at hl 4 rfl) ?_
  refine lv_iconst (v := gI (2 : Int)) hx hb dL_law_932 (by decide) ?_
  refine g_iadd hx hb dL_law_933 ?_
  refine g_sld hx hb hXs hbl hbA hH ⟨by omega, by omega⟩ hL dL_law_934 ?_
  refine lv_aload_n hx hb dL_law_935 rfl (lv_at hl 0 rfl) ?_
  refine lv_iload hx hb dL_law_936 (lv_at hl 4 rfl) ?_
  refine lv_iconst (v := gI (3 : Int)) hx hb dL_law_938 (by decide) ?_
  refine g_iadd hx hb dL_law_939 ?_
  refine g_sld hx hb hXs hbl hbA hH ⟨by omega, by omega⟩ hL dL_law_940 ?_
  refine lv_aload_n hx hb dL_law_941 rfl (lv_at hl 3 rfl) ?_
  obtain ⟨q942, e942, h⟩ := gBind_some h
  refine g_callWi (As := [.ref (G.1 0), .int (gI (xs (Int.toNat ((4 * (j : Int)) + (1 : Int)))).toInt), .int (gI (xs (Int.toNat ((4 * (j : Int)) + (2 : Int)))).toInt), .int (gI (xs (Int.toNat ((4 * (j : Int)) + (3 : Int)))).toInt), .ref (G.1 147)]) (rest := []) ⟨hx, hb, hml, hown, hts⟩ (metL_part l hlt D G σ μ (xs (Int.toNat ((4 * (j : Int)) + (1 : Int)))).toInt (xs (Int.toNat ((4 * (j : Int)) + (2 : Int)))).toInt (xs (Int.toNat ((4 * (j : Int)) + (3 : Int)))).toInt q942.1 q942.2 e942) (g_cwW 5 hts q_ml_L_129 q_st_L_part q_in_L q_cw_L_part ⟨rfl, rfl⟩ (by decide +kernel) ⟨Nat.le_of_ble_eq_true rfl, Nat.le_of_ble_eq_true rfl⟩) hX hH rfl hl.1 rfl (Nat.le_of_ble_eq_true rfl) dL_law_942 ⟨by show _ ≤ 601024; omega, by show _ ≤ 7293034; omega⟩ (fun H locs hH => ?_)
  refine lv_istore (lv' := [(5, .int (gI q942.1)), (0, .ref b), (1, .ref (G.1 0)), (2, .ref (G.1 136)), (3, .ref (G.1 147)), (4, .int (gI (4 * (j : Int))))]) hx hb dL_law_945 hl (by decide) rfl (fun ls hl => ?_)
  refine lv_aload_n hx hb dL_law_947 rfl (lv_at hl 3 rfl) ?_
  refine lv_aload_n hx hb dL_law_948 rfl (lv_at hl 1 rfl) ?_
  refine lv_iload hx hb dL_law_949 (lv_at hl 5 rfl) ?_
  refine lv_iconst (v := gI (1 : Int)) hx hb dL_law_951 (by decide) ?_
  refine g_iadd hx hb dL_law_952 ?_
  refine g_sld hx hb hXs hbl hbA hH ⟨by omega, by omega⟩ hL dL_law_953 ?_
  refine lv_aload_n hx hb dL_law_954 rfl (lv_at hl 1 rfl) ?_
  refine lv_iload hx hb dL_law_955 (lv_at hl 5 rfl) ?_
  refine lv_iconst (v := gI (2 : Int)) hx hb dL_law_957 (by decide) ?_
  refine g_iadd hx hb dL_law_958 ?_
  refine g_sld hx hb hXs hbl hbA hH ⟨by omega, by omega⟩ hL dL_law_959 ?_
  refine lv_aload_n hx hb dL_law_960 rfl (lv_at hl 1 rfl) ?_
  refine lv_iload hx hb dL_law_961 (lv_at hl 5 rfl) ?_
  refine lv_iconst (v := gI (3 : Int)) hx hb dL_law_963 (by decide) ?_
  refine g_iadd hx hb dL_law_964 ?_
  refine g_sld hx hb hXs hbl hbA hH ⟨by omega, by omega⟩ hL dL_law_965 ?_
  obtain ⟨q966, e966, h⟩ := gBind_some h
  refine g_callVi (k := 136) (T := TX9) (N := 19) (As := [.int (gI (xs (Int.toNat ((4 * (j : Int)) + (1 : Int)))).toInt), .int (gI (xs (Int.toNat ((4 * (j : Int)) + (2 : Int)))).toInt), .int (gI (xs (Int.toNat ((4 * (j : Int)) + (3 : Int)))).toInt)]) (rest := []) ⟨hx, hb, hml, hown, hts⟩ (metX9_part l D G σ q942.2 (xs (Int.toNat ((4 * (j : Int)) + (1 : Int)))).toInt (xs (Int.toNat ((4 * (j : Int)) + (2 : Int)))).toInt (xs (Int.toNat ((4 * (j : Int)) + (3 : Int)))).toInt q966.1 q966.2 e966) (g_cwV (C := RX9) 3 hts q_ml_L_131 q_im_X9_part q_se_X9_part q_in_X9 q_co_X9_part ⟨rfl, rfl⟩ (by decide +kernel) ⟨Nat.le_of_ble_eq_true rfl, Nat.le_of_ble_eq_true rfl⟩) hX hH (rfl : gKinds[136]? = _) rfl rfl hl.1 rfl (Nat.le_of_ble_eq_true rfl) dL_law_966 ⟨by show _ ≤ 601024; omega, by show _ ≤ 7293034; omega⟩ (fun H locs hH => ?_)
  refine lv_istore (lv' := [(6, .int (gI q966.1)), (5, .int (gI q942.1)), (0, .ref b), (1, .ref (G.1 0)), (2, .ref (G.1 136)), (3, .ref (G.1 147)), (4, .int (gI (4 * (j : Int))))]) hx hb dL_law_969 hl (by decide) rfl (fun ls hl => ?_)
  refine lv_aload_n hx hb dL_law_971 rfl (lv_at hl 4 rfl) ?_
  obtain ⟨q972, e972, h⟩ := gBind_some h
  refine g_callVi (k := 136) (T := TX9) (N := 19) (As := []) (rest := []) ⟨hx, hb, hml, hown, hts⟩ (metX9_thrown l D G q966.2 q942.2 q972 e972) (g_cwV (C := RX9) 0 hts q_ml_L_86 q_im_X9_thrown q_se_X9_thrown q_in_X9 q_co_X9_thrown ⟨rfl, rfl⟩ (by decide +kernel) ⟨Nat.le_of_ble_eq_true rfl, Nat.le_of_ble_eq_true rfl⟩) hX hH (rfl : gKinds[136]? = _) rfl rfl hl.1 rfl (Nat.le_of_ble_eq_true rfl) dL_law_972 ⟨by show _ ≤ 601024; omega, by show _ ≤ 7293034; omega⟩ (fun H locs hH => ?_)
  refine lv_iload hx hb dL_law_975 (lv_at hl 1 rfl) ?_
  refine g_icmp_eq (tgt := 982) hx hb dL_law_977 (by decide) h (fun h => ?_) (fun h => absurd h (fun z => by cases z))
  refine lv_iload hx hb dL_law_982 (lv_at hl 1 rfl) ?_
  refine g_if_ne (tgt := 999) hx hb dL_law_984 (by decide) h (fun h => ?_) (fun h => ?_)
  · refine lv_goto (tgt := 1537) hx hb dL_law_999 (by decide) ?_
    cases h
    exact kk _ _ _ hH (lv_sub hl [2, 3, 4, 5, 6] rfl)
  · refine lv_aload_n hx hb dL_law_987 rfl (lv_at hl 5 rfl) ?_
    refine lv_iconst (v := gI (0 : Int)) hx hb dL_law_988 (by decide) ?_
    refine g_lald hx hb hX hH (k := 147) (rfl : gKinds[147]? = _) dL_law_989 ?_
    refine lv_iload hx hb dL_law_990 (lv_at hl 0 rfl) ?_
    refine lv_i2l (v := (gI q966.1).toInt64) hx hb dL_law_992 rfl ?_
    have hcmp : (q942.2 147) = ((gI q966.1).toInt64) := (gEq_some h).1
    have h := (gEq_some h).2
    refine W.lcmp hx hb dL_law_993 ?_
    have hc0 : lg_cmp (q942.2 147) ((gI q966.1).toInt64) = 0 := by rw [hcmp]; simp [lg_cmp]
    rw [hc0]
    refine lv_if_eq (tgt := 999) hx hb dL_law_994 (by decide) (fun _ => ?_) (fun z => absurd rfl z)
    refine lv_goto (tgt := 1537) hx hb dL_law_999 (by decide) ?_
    cases h
    exact kk _ _ _ hH (lv_sub hl [2, 3, 4, 5, 6] rfl)
def DL_c14 (xs : Nat → Int32) (j : Nat) (σ : gSt) (μ : gLg) : Option (gSt × gLg) :=
  (gWrP (DX8_arrow σ (xs (Int.toNat ((4 * (j : Int)) + (1 : Int)))).toInt (xs (Int.toNat ((4 * (j : Int)) + (2 : Int)))).toInt) [(3, 1), (1, 2)] μ).bind fun q1016 => (DX9_arrow σ (xs (Int.toNat ((4 * (j : Int)) + (1 : Int)))).toInt (xs (Int.toNat ((4 * (j : Int)) + (2 : Int)))).toInt).bind fun q1034 => (DX9_thrown q1034.2).bind fun q1040 => gIf (q1040 = q1016.1) q1040 q1016.1 (gIf (q1016.1 = 0) q1016.1 0 (gEq (q1016.2 147) ((gI q1034.1).toInt64) (some (q1034.2, q1016.2))) (some (q1034.2, q1016.2))) none
set_option maxHeartbeats 4000000 in
set_option maxRecDepth 100000 in
theorem lawc_14 {p : Program} {l : Launch} {e : Env} {s : State} {m : MethodId} {below : List Frame} {meth : Method} {c : Code} {b L j : Nat} {xs : Nat → Int32} {D : va_G} {G : gAd} {Q : State → Prop} (hlt : l.stackTraces = false) (hx : p.tables.exec = Jvm.exec) (hb : c.code = cL_law) (hml : c.maxLocals = 9) (hown : s.vm.findClass RL = some m.cls) (hts : ∀ w ∈ gLW, w.before #[Value.ref b] s = true) (hX : gX D G s) (hXs : va_X b L xs s s.heap) (hbl : b < s.heap.size) (hbA : ¬ gA G b) (hL : L ≤ 2048) (hj : 4 * j + 4 ≤ L) {H : Heap} {locs : List Loc} {ls : Array Slot} {cells slots : Nat} (hc : cells ≤ 500 + 3 * j) (hs : slots ≤ 20000 + 18 * j) {σ σ' : gSt} {μ μ' : gLg} (hH : gH D G s H locs σ μ) (hl : lv_has ls 9 [(0, .ref b), (1, .ref (G.1 0)), (2, .ref (G.1 136)), (3, .ref (G.1 147)), (4, .int (gI (4 * (j : Int))))]) (h : DL_c14 xs j σ μ = some (σ', μ')) (kk : ∀ (H1 : Heap) (locs1 : List Loc) (ls1 : Array Slot), gH D G s H1 locs1 σ' μ' → lv_has ls1 9 [(0, .ref b), (1, .ref (G.1 0)), (2, .ref (G.1 136)), (3, .ref (G.1 147)), (4, .int (gI (4 * (j : Int))))] → W p l e room_1 s m #[Value.ref b] below meth c H1 locs1 (cells + 2) (slots + 12) Q (F0 m 1537 ls1 [])) : W p l e room_1 s m #[Value.ref b] below meth c H locs cells slots Q (F0 m 1002 ls []) := by
  unfold DL_c14 at h
  refine lv_aload_n hx hb dL_law_1002 rfl (lv_at hl 1 rfl) ?_
  refine lv_aload_n hx hb dL_law_1003 rfl (lv_at hl 0 rfl) ?_
  refine lv_iload hx hb dL_law_1004 (lv_at hl 4 rfl) ?_
  refine lv_iconst (v := gI (1 : Int)) hx hb dL_law_1006 (by decide) ?_
  refine g_iadd hx hb dL_law_1007 ?_
  refine g_sld hx hb hXs hbl hbA hH ⟨by omega, by omega⟩ hL dL_law_1008 ?_
  refine lv_aload_n hx hb dL_law_1009 rfl (lv_at hl 0 rfl) ?_
  refine lv_iload hx hb dL_law_1010 (lv_at hl 4 rfl) ?_
  refine lv_iconst (v := gI (2 : Int)) hx hb dL_law_1012 (by decide) ?_
  refine g_iadd hx hb dL_law_1013 ?_
  refine g_sld hx hb hXs hbl hbA hH ⟨by omega, by omega⟩ hL dL_law_1014 ?_
  refine lv_aload_n hx hb dL_law_1015 rfl (lv_at hl 3 rfl) ?_
  obtain ⟨q1016, e1016, h⟩ := gBind_some h
  refine g_callWi (As := [.ref (G.1 0), .int (gI (xs (Int.toNat ((4 * (j : Int)) + (1 : Int)))).toInt), .int (gI (xs (Int.toNat ((4 * (j : Int)) + (2 : Int)))).toInt), .ref (G.1 147)]) (rest := []) ⟨hx, hb, hml, hown, hts⟩ (metL_arrow l hlt D G σ μ (xs (Int.toNat ((4 * (j : Int)) + (1 : Int)))).toInt (xs (Int.toNat ((4 * (j : Int)) + (2 : Int)))).toInt q1016.1 q1016.2 e1016) (g_cwW 4 hts q_ml_L_132 q_st_L_arrow q_in_L q_cw_L_arrow ⟨rfl, rfl⟩ (by decide +kernel) ⟨Nat.le_of_ble_eq_true rfl, Nat.le_of_ble_eq_true rfl⟩) hX hH rfl hl.1 rfl (Nat.le_of_ble_eq_true rfl) dL_law_1016 ⟨by show _ ≤ 601024; omega, by show _ ≤ 7293034; omega⟩ (fun H locs hH => ?_)
  refine lv_istore (lv' := [(5, .int (gI q1016.1)), (0, .ref b), (1, .ref (G.1 0)), (2, .ref (G.1 136)), (3, .ref (G.1 147)), (4, .int (gI (4 * (j : Int))))]) hx hb dL_law_1019 hl (by decide) rfl (fun ls hl => ?_)
  refine lv_aload_n hx hb dL_law_1021 rfl (lv_at hl 3 rfl) ?_
  refine lv_aload_n hx hb dL_law_1022 rfl (lv_at hl 1 rfl) ?_
  refine lv_iload hx hb dL_law_1023 (lv_at hl 5 rfl) ?_
  refine lv_iconst (v := gI (1 : Int)) hx hb dL_law_1025 (by decide) ?_
  refine g_iadd hx hb dL_law_1026 ?_
  refine g_sld hx hb hXs hbl hbA hH ⟨by omega, by omega⟩ hL dL_law_1027 ?_
  refine lv_aload_n hx hb dL_law_1028 rfl (lv_at hl 1 rfl) ?_
  refine lv_iload hx hb dL_law_1029 (lv_at hl 5 rfl) ?_
  refine lv_iconst (v := gI (2 : Int)) hx hb dL_law_1031 (by decide) ?_
  refine g_iadd hx hb dL_law_1032 ?_
  refine g_sld hx hb hXs hbl hbA hH ⟨by omega, by omega⟩ hL dL_law_1033 ?_
  obtain ⟨q1034, e1034, h⟩ := gBind_some h
  refine g_callVi (k := 136) (T := TX9) (N := 19) (As := [.int (gI (xs (Int.toNat ((4 * (j : Int)) + (1 : Int)))).toInt), .int (gI (xs (Int.toNat ((4 * (j : Int)) + (2 : Int)))).toInt)]) (rest := []) ⟨hx, hb, hml, hown, hts⟩ (metX9_arrow l D G σ q1016.2 (xs (Int.toNat ((4 * (j : Int)) + (1 : Int)))).toInt (xs (Int.toNat ((4 * (j : Int)) + (2 : Int)))).toInt q1034.1 q1034.2 e1034) (g_cwV (C := RX9) 2 hts q_ml_L_134 q_im_X9_arrow q_se_X9_arrow q_in_X9 q_co_X9_arrow ⟨rfl, rfl⟩ (by decide +kernel) ⟨Nat.le_of_ble_eq_true rfl, Nat.le_of_ble_eq_true rfl⟩) hX hH (rfl : gKinds[136]? = _) rfl rfl hl.1 rfl (Nat.le_of_ble_eq_true rfl) dL_law_1034 ⟨by show _ ≤ 601024; omega, by show _ ≤ 7293034; omega⟩ (fun H locs hH => ?_)
  refine lv_istore (lv' := [(6, .int (gI q1034.1)), (5, .int (gI q1016.1)), (0, .ref b), (1, .ref (G.1 0)), (2, .ref (G.1 136)), (3, .ref (G.1 147)), (4, .int (gI (4 * (j : Int))))]) hx hb dL_law_1037 hl (by decide) rfl (fun ls hl => ?_)
  refine lv_aload_n hx hb dL_law_1039 rfl (lv_at hl 4 rfl) ?_
  obtain ⟨q1040, e1040, h⟩ := gBind_some h
  refine g_callVi (k := 136) (T := TX9) (N := 19) (As := []) (rest := []) ⟨hx, hb, hml, hown, hts⟩ (metX9_thrown l D G q1034.2 q1016.2 q1040 e1040) (g_cwV (C := RX9) 0 hts q_ml_L_86 q_im_X9_thrown q_se_X9_thrown q_in_X9 q_co_X9_thrown ⟨rfl, rfl⟩ (by decide +kernel) ⟨Nat.le_of_ble_eq_true rfl, Nat.le_of_ble_eq_true rfl⟩) hX hH (rfl : gKinds[136]? = _) rfl rfl hl.1 rfl (Nat.le_of_ble_eq_true rfl) dL_law_1040 ⟨by show _ ≤ 601024; omega, by show _ ≤ 7293034; omega⟩ (fun H locs hH => ?_)
  refine lv_iload hx hb dL_law_1043 (lv_at hl 1 rfl) ?_
  refine g_icmp_eq (tgt := 1050) hx hb dL_law_1045 (by decide) h (fun h => ?_) (fun h => absurd h (fun z => by cases z))
  refine lv_iload hx hb dL_law_1050 (lv_at hl 1 rfl) ?_
  refine g_if_ne (tgt := 1067) hx hb dL_law_1052 (by decide) h (fun h => ?_) (fun h => ?_)
  · refine lv_goto (tgt := 1537) hx hb dL_law_1067 (by decide) ?_
    cases h
    exact kk _ _ _ hH (lv_sub hl [2, 3, 4, 5, 6] rfl)
  · refine lv_aload_n hx hb dL_law_1055 rfl (lv_at hl 5 rfl) ?_
    refine lv_iconst (v := gI (0 : Int)) hx hb dL_law_1056 (by decide) ?_
    refine g_lald hx hb hX hH (k := 147) (rfl : gKinds[147]? = _) dL_law_1057 ?_
    refine lv_iload hx hb dL_law_1058 (lv_at hl 0 rfl) ?_
    refine lv_i2l (v := (gI q1034.1).toInt64) hx hb dL_law_1060 rfl ?_
    have hcmp : (q1016.2 147) = ((gI q1034.1).toInt64) := (gEq_some h).1
    have h := (gEq_some h).2
    refine W.lcmp hx hb dL_law_1061 ?_
    have hc0 : lg_cmp (q1016.2 147) ((gI q1034.1).toInt64) = 0 := by rw [hcmp]; simp [lg_cmp]
    rw [hc0]
    refine lv_if_eq (tgt := 1067) hx hb dL_law_1062 (by decide) (fun _ => ?_) (fun z => absurd rfl z)
    refine lv_goto (tgt := 1537) hx hb dL_law_1067 (by decide) ?_
    cases h
    exact kk _ _ _ hH (lv_sub hl [2, 3, 4, 5, 6] rfl)
def DL_c15 (xs : Nat → Int32) (j : Nat) (σ : gSt) (μ : gLg) : Option (gSt × gLg) :=
  (gWrP (DX8_arrowOf σ (xs (Int.toNat ((4 * (j : Int)) + (1 : Int)))).toInt) [(3, 1)] μ).bind fun q1078 => (DX9_arrowOf σ (xs (Int.toNat ((4 * (j : Int)) + (1 : Int)))).toInt).bind fun q1090 => (DX9_thrown q1090.2).bind fun q1096 => gIf (q1096 = q1078.1) q1096 q1078.1 (gIf (q1078.1 = 0) q1078.1 0 (gEq (q1078.2 147) ((gI q1090.1).toInt64) (some (q1090.2, q1078.2))) (some (q1090.2, q1078.2))) none
set_option maxHeartbeats 4000000 in
set_option maxRecDepth 100000 in
theorem lawc_15 {p : Program} {l : Launch} {e : Env} {s : State} {m : MethodId} {below : List Frame} {meth : Method} {c : Code} {b L j : Nat} {xs : Nat → Int32} {D : va_G} {G : gAd} {Q : State → Prop} (hlt : l.stackTraces = false) (hx : p.tables.exec = Jvm.exec) (hb : c.code = cL_law) (hml : c.maxLocals = 9) (hown : s.vm.findClass RL = some m.cls) (hts : ∀ w ∈ gLW, w.before #[Value.ref b] s = true) (hX : gX D G s) (hXs : va_X b L xs s s.heap) (hbl : b < s.heap.size) (hbA : ¬ gA G b) (hL : L ≤ 2048) (hj : 4 * j + 4 ≤ L) {H : Heap} {locs : List Loc} {ls : Array Slot} {cells slots : Nat} (hc : cells ≤ 500 + 3 * j) (hs : slots ≤ 20000 + 18 * j) {σ σ' : gSt} {μ μ' : gLg} (hH : gH D G s H locs σ μ) (hl : lv_has ls 9 [(0, .ref b), (1, .ref (G.1 0)), (2, .ref (G.1 136)), (3, .ref (G.1 147)), (4, .int (gI (4 * (j : Int))))]) (h : DL_c15 xs j σ μ = some (σ', μ')) (kk : ∀ (H1 : Heap) (locs1 : List Loc) (ls1 : Array Slot), gH D G s H1 locs1 σ' μ' → lv_has ls1 9 [(0, .ref b), (1, .ref (G.1 0)), (2, .ref (G.1 136)), (3, .ref (G.1 147)), (4, .int (gI (4 * (j : Int))))] → W p l e room_1 s m #[Value.ref b] below meth c H1 locs1 (cells + 1) (slots + 6) Q (F0 m 1537 ls1 [])) : W p l e room_1 s m #[Value.ref b] below meth c H locs cells slots Q (F0 m 1070 ls []) := by
  unfold DL_c15 at h
  refine lv_aload_n hx hb dL_law_1070 rfl (lv_at hl 1 rfl) ?_
  refine lv_aload_n hx hb dL_law_1071 rfl (lv_at hl 0 rfl) ?_
  refine lv_iload hx hb dL_law_1072 (lv_at hl 4 rfl) ?_
  refine lv_iconst (v := gI (1 : Int)) hx hb dL_law_1074 (by decide) ?_
  refine g_iadd hx hb dL_law_1075 ?_
  refine g_sld hx hb hXs hbl hbA hH ⟨by omega, by omega⟩ hL dL_law_1076 ?_
  refine lv_aload_n hx hb dL_law_1077 rfl (lv_at hl 3 rfl) ?_
  obtain ⟨q1078, e1078, h⟩ := gBind_some h
  refine g_callWi (As := [.ref (G.1 0), .int (gI (xs (Int.toNat ((4 * (j : Int)) + (1 : Int)))).toInt), .ref (G.1 147)]) (rest := []) ⟨hx, hb, hml, hown, hts⟩ (metL_arrowOf l hlt D G σ μ (xs (Int.toNat ((4 * (j : Int)) + (1 : Int)))).toInt q1078.1 q1078.2 e1078) (g_cwW 3 hts q_ml_L_135 q_st_L_arrowOf q_in_L q_cw_L_arrowOf ⟨rfl, rfl⟩ (by decide +kernel) ⟨Nat.le_of_ble_eq_true rfl, Nat.le_of_ble_eq_true rfl⟩) hX hH rfl hl.1 rfl (Nat.le_of_ble_eq_true rfl) dL_law_1078 ⟨by show _ ≤ 601024; omega, by show _ ≤ 7293034; omega⟩ (fun H locs hH => ?_)
  refine lv_istore (lv' := [(5, .int (gI q1078.1)), (0, .ref b), (1, .ref (G.1 0)), (2, .ref (G.1 136)), (3, .ref (G.1 147)), (4, .int (gI (4 * (j : Int))))]) hx hb dL_law_1081 hl (by decide) rfl (fun ls hl => ?_)
  refine lv_aload_n hx hb dL_law_1083 rfl (lv_at hl 3 rfl) ?_
  refine lv_aload_n hx hb dL_law_1084 rfl (lv_at hl 1 rfl) ?_
  refine lv_iload hx hb dL_law_1085 (lv_at hl 5 rfl) ?_
  refine lv_iconst (v := gI (1 : Int)) hx hb dL_law_1087 (by decide) ?_
  refine g_iadd hx hb dL_law_1088 ?_
  refine g_sld hx hb hXs hbl hbA hH ⟨by omega, by omega⟩ hL dL_law_1089 ?_
  obtain ⟨q1090, e1090, h⟩ := gBind_some h
  refine g_callVi (k := 136) (T := TX9) (N := 19) (As := [.int (gI (xs (Int.toNat ((4 * (j : Int)) + (1 : Int)))).toInt)]) (rest := []) ⟨hx, hb, hml, hown, hts⟩ (metX9_arrowOf l D G σ q1078.2 (xs (Int.toNat ((4 * (j : Int)) + (1 : Int)))).toInt q1090.1 q1090.2 e1090) (g_cwV (C := RX9) 1 hts q_ml_L_137 q_im_X9_arrowOf q_se_X9_arrowOf q_in_X9 q_co_X9_arrowOf ⟨rfl, rfl⟩ (by decide +kernel) ⟨Nat.le_of_ble_eq_true rfl, Nat.le_of_ble_eq_true rfl⟩) hX hH (rfl : gKinds[136]? = _) rfl rfl hl.1 rfl (Nat.le_of_ble_eq_true rfl) dL_law_1090 ⟨by show _ ≤ 601024; omega, by show _ ≤ 7293034; omega⟩ (fun H locs hH => ?_)
  refine lv_istore (lv' := [(6, .int (gI q1090.1)), (5, .int (gI q1078.1)), (0, .ref b), (1, .ref (G.1 0)), (2, .ref (G.1 136)), (3, .ref (G.1 147)), (4, .int (gI (4 * (j : Int))))]) hx hb dL_law_1093 hl (by decide) rfl (fun ls hl => ?_)
  refine lv_aload_n hx hb dL_law_1095 rfl (lv_at hl 4 rfl) ?_
  obtain ⟨q1096, e1096, h⟩ := gBind_some h
  refine g_callVi (k := 136) (T := TX9) (N := 19) (As := []) (rest := []) ⟨hx, hb, hml, hown, hts⟩ (metX9_thrown l D G q1090.2 q1078.2 q1096 e1096) (g_cwV (C := RX9) 0 hts q_ml_L_86 q_im_X9_thrown q_se_X9_thrown q_in_X9 q_co_X9_thrown ⟨rfl, rfl⟩ (by decide +kernel) ⟨Nat.le_of_ble_eq_true rfl, Nat.le_of_ble_eq_true rfl⟩) hX hH (rfl : gKinds[136]? = _) rfl rfl hl.1 rfl (Nat.le_of_ble_eq_true rfl) dL_law_1096 ⟨by show _ ≤ 601024; omega, by show _ ≤ 7293034; omega⟩ (fun H locs hH => ?_)
  refine lv_iload hx hb dL_law_1099 (lv_at hl 1 rfl) ?_
  refine g_icmp_eq (tgt := 1106) hx hb dL_law_1101 (by decide) h (fun h => ?_) (fun h => absurd h (fun z => by cases z))
  refine lv_iload hx hb dL_law_1106 (lv_at hl 1 rfl) ?_
  refine g_if_ne (tgt := 1123) hx hb dL_law_1108 (by decide) h (fun h => ?_) (fun h => ?_)
  · refine lv_goto (tgt := 1537) hx hb dL_law_1123 (by decide) ?_
    cases h
    exact kk _ _ _ hH (lv_sub hl [2, 3, 4, 5, 6] rfl)
  · refine lv_aload_n hx hb dL_law_1111 rfl (lv_at hl 5 rfl) ?_
    refine lv_iconst (v := gI (0 : Int)) hx hb dL_law_1112 (by decide) ?_
    refine g_lald hx hb hX hH (k := 147) (rfl : gKinds[147]? = _) dL_law_1113 ?_
    refine lv_iload hx hb dL_law_1114 (lv_at hl 0 rfl) ?_
    refine lv_i2l (v := (gI q1090.1).toInt64) hx hb dL_law_1116 rfl ?_
    have hcmp : (q1078.2 147) = ((gI q1090.1).toInt64) := (gEq_some h).1
    have h := (gEq_some h).2
    refine W.lcmp hx hb dL_law_1117 ?_
    have hc0 : lg_cmp (q1078.2 147) ((gI q1090.1).toInt64) = 0 := by rw [hcmp]; simp [lg_cmp]
    rw [hc0]
    refine lv_if_eq (tgt := 1123) hx hb dL_law_1118 (by decide) (fun _ => ?_) (fun z => absurd rfl z)
    refine lv_goto (tgt := 1537) hx hb dL_law_1123 (by decide) ?_
    cases h
    exact kk _ _ _ hH (lv_sub hl [2, 3, 4, 5, 6] rfl)
def DL_c16 (xs : Nat → Int32) (j : Nat) (σ : gSt) (μ : gLg) : Option (gSt × gLg) :=
  (gWrP (DX8_taskAt σ (xs (Int.toNat ((4 * (j : Int)) + (1 : Int)))).toInt (xs (Int.toNat ((4 * (j : Int)) + (2 : Int)))).toInt (xs (Int.toNat ((4 * (j : Int)) + (3 : Int)))).toInt) [(3, 1)] μ).bind fun q1146 => (DX9_taskAt σ (xs (Int.toNat ((4 * (j : Int)) + (1 : Int)))).toInt (xs (Int.toNat ((4 * (j : Int)) + (2 : Int)))).toInt (xs (Int.toNat ((4 * (j : Int)) + (3 : Int)))).toInt).bind fun q1170 => (DX9_thrown q1170.2).bind fun q1176 => gIf (q1176 = q1146.1) q1176 q1146.1 (gIf (q1146.1 = 0) q1146.1 0 (gEq (q1146.2 147) ((gI q1170.1).toInt64) (some (q1170.2, q1146.2))) (some (q1170.2, q1146.2))) none
set_option maxHeartbeats 4000000 in
set_option maxRecDepth 100000 in
theorem lawc_16 {p : Program} {l : Launch} {e : Env} {s : State} {m : MethodId} {below : List Frame} {meth : Method} {c : Code} {b L j : Nat} {xs : Nat → Int32} {D : va_G} {G : gAd} {Q : State → Prop} (hlt : l.stackTraces = false) (hx : p.tables.exec = Jvm.exec) (hb : c.code = cL_law) (hml : c.maxLocals = 9) (hown : s.vm.findClass RL = some m.cls) (hts : ∀ w ∈ gLW, w.before #[Value.ref b] s = true) (hX : gX D G s) (hXs : va_X b L xs s s.heap) (hbl : b < s.heap.size) (hbA : ¬ gA G b) (hL : L ≤ 2048) (hj : 4 * j + 4 ≤ L) {H : Heap} {locs : List Loc} {ls : Array Slot} {cells slots : Nat} (hc : cells ≤ 500 + 3 * j) (hs : slots ≤ 20000 + 18 * j) {σ σ' : gSt} {μ μ' : gLg} (hH : gH D G s H locs σ μ) (hl : lv_has ls 9 [(0, .ref b), (1, .ref (G.1 0)), (2, .ref (G.1 136)), (3, .ref (G.1 147)), (4, .int (gI (4 * (j : Int))))]) (h : DL_c16 xs j σ μ = some (σ', μ')) (kk : ∀ (H1 : Heap) (locs1 : List Loc) (ls1 : Array Slot), gH D G s H1 locs1 σ' μ' → lv_has ls1 9 [(0, .ref b), (1, .ref (G.1 0)), (2, .ref (G.1 136)), (3, .ref (G.1 147)), (4, .int (gI (4 * (j : Int))))] → W p l e room_1 s m #[Value.ref b] below meth c H1 locs1 (cells + 3) (slots + 18) Q (F0 m 1537 ls1 [])) : W p l e room_1 s m #[Value.ref b] below meth c H locs cells slots Q (F0 m 1126 ls []) := by
  unfold DL_c16 at h
  refine lv_aload_n hx hb dL_law_1126 rfl (lv_at hl 1 rfl) ?_
  refine lv_aload_n hx hb dL_law_1127 rfl (lv_at hl 0 rfl) ?_
  refine lv_iload hx hb dL_law_1128 (lv_at hl 4 rfl) ?_
  refine lv_iconst (v := gI (1 : Int)) hx hb dL_law_1130 (by decide) ?_
  refine g_iadd hx hb dL_law_1131 ?_
  refine g_sld hx hb hXs hbl hbA hH ⟨by omega, by omega⟩ hL dL_law_1132 ?_
  refine lv_aload_n hx hb dL_law_1133 rfl (lv_at hl 0 rfl) ?_
  refine lv_iload hx hb dL_law_1134 (lv_at hl 4 rfl) ?_
  refine lv_iconst (v := gI (2 : Int)) hx hb dL_law_1136 (by decide) ?_
  refine g_iadd hx hb dL_law_1137 ?_
  refine g_sld hx hb hXs hbl hbA hH ⟨by omega, by omega⟩ hL dL_law_1138 ?_
  refine lv_aload_n hx hb dL_law_1139 rfl (lv_at hl 0 rfl) ?_
  refine lv_iload hx hb dL_law_1140 (lv_at hl 4 rfl) ?_
  refine lv_iconst (v := gI (3 : Int)) hx hb dL_law_1142 (by decide) ?_
  refine g_iadd hx hb dL_law_1143 ?_
  refine g_sld hx hb hXs hbl hbA hH ⟨by omega, by omega⟩ hL dL_law_1144 ?_
  refine lv_aload_n hx hb dL_law_1145 rfl (lv_at hl 3 rfl) ?_
  obtain ⟨q1146, e1146, h⟩ := gBind_some h
  refine g_callWi (As := [.ref (G.1 0), .int (gI (xs (Int.toNat ((4 * (j : Int)) + (1 : Int)))).toInt), .int (gI (xs (Int.toNat ((4 * (j : Int)) + (2 : Int)))).toInt), .int (gI (xs (Int.toNat ((4 * (j : Int)) + (3 : Int)))).toInt), .ref (G.1 147)]) (rest := []) ⟨hx, hb, hml, hown, hts⟩ (metL_taskAt l hlt D G σ μ (xs (Int.toNat ((4 * (j : Int)) + (1 : Int)))).toInt (xs (Int.toNat ((4 * (j : Int)) + (2 : Int)))).toInt (xs (Int.toNat ((4 * (j : Int)) + (3 : Int)))).toInt q1146.1 q1146.2 e1146) (g_cwW 5 hts q_ml_L_138 q_st_L_taskAt q_in_L q_cw_L_taskAt ⟨rfl, rfl⟩ (by decide +kernel) ⟨Nat.le_of_ble_eq_true rfl, Nat.le_of_ble_eq_true rfl⟩) hX hH rfl hl.1 rfl (Nat.le_of_ble_eq_true rfl) dL_law_1146 ⟨by show _ ≤ 601024; omega, by show _ ≤ 7293034; omega⟩ (fun H locs hH => ?_)
  refine lv_istore (lv' := [(5, .int (gI q1146.1)), (0, .ref b), (1, .ref (G.1 0)), (2, .ref (G.1 136)), (3, .ref (G.1 147)), (4, .int (gI (4 * (j : Int))))]) hx hb dL_law_1149 hl (by decide) rfl (fun ls hl => ?_)
  refine lv_aload_n hx hb dL_law_1151 rfl (lv_at hl 3 rfl) ?_
  refine lv_aload_n hx hb dL_law_1152 rfl (lv_at hl 1 rfl) ?_
  refine lv_iload hx hb dL_law_1153 (lv_at hl 5 rfl) ?_
  refine lv_iconst (v := gI (1 : Int)) hx hb dL_law_1155 (by decide) ?_
  refine g_iadd hx hb dL_law_1156 ?_
  refine g_sld hx hb hXs hbl hbA hH ⟨by omega, by omega⟩ hL dL_law_1157 ?_
  refine lv_aload_n hx hb dL_law_1158 rfl (lv_at hl 1 rfl) ?_
  refine lv_iload hx hb dL_law_1159 (lv_at hl 5 rfl) ?_
  refine lv_iconst (v := gI (2 : Int)) hx hb dL_law_1161 (by decide) ?_
  refine g_iadd hx hb dL_law_1162 ?_
  refine g_sld hx hb hXs hbl hbA hH ⟨by omega, by omega⟩ hL dL_law_1163 ?_
  refine lv_aload_n hx hb dL_law_1164 rfl (lv_at hl 1 rfl) ?_
  refine lv_iload hx hb dL_law_1165 (lv_at hl 5 rfl) ?_
  refine lv_iconst (v := gI (3 : Int)) hx hb dL_law_1167 (by decide) ?_
  refine g_iadd hx hb dL_law_1168 ?_
  refine g_sld hx hb hXs hbl hbA hH ⟨by omega, by omega⟩ hL dL_law_1169 ?_
  obtain ⟨q1170, e1170, h⟩ := gBind_some h
  refine g_callVi (k := 136) (T := TX9) (N := 19) (As := [.int (gI (xs (Int.toNat ((4 * (j : Int)) + (1 : Int)))).toInt), .int (gI (xs (Int.toNat ((4 * (j : Int)) + (2 : Int)))).toInt), .int (gI (xs (Int.toNat ((4 * (j : Int)) + (3 : Int)))).toInt)]) (rest := []) ⟨hx, hb, hml, hown, hts⟩ (metX9_taskAt l D G σ q1146.2 (xs (Int.toNat ((4 * (j : Int)) + (1 : Int)))).toInt (xs (Int.toNat ((4 * (j : Int)) + (2 : Int)))).toInt (xs (Int.toNat ((4 * (j : Int)) + (3 : Int)))).toInt q1170.1 q1170.2 e1170) (g_cwV (C := RX9) 3 hts q_ml_L_140 q_im_X9_taskAt q_se_X9_taskAt q_in_X9 q_co_X9_taskAt ⟨rfl, rfl⟩ (by decide +kernel) ⟨Nat.le_of_ble_eq_true rfl, Nat.le_of_ble_eq_true rfl⟩) hX hH (rfl : gKinds[136]? = _) rfl rfl hl.1 rfl (Nat.le_of_ble_eq_true rfl) dL_law_1170 ⟨by show _ ≤ 601024; omega, by show _ ≤ 7293034; omega⟩ (fun H locs hH => ?_)
  refine lv_istore (lv' := [(6, .int (gI q1170.1)), (5, .int (gI q1146.1)), (0, .ref b), (1, .ref (G.1 0)), (2, .ref (G.1 136)), (3, .ref (G.1 147)), (4, .int (gI (4 * (j : Int))))]) hx hb dL_law_1173 hl (by decide) rfl (fun ls hl => ?_)
  refine lv_aload_n hx hb dL_law_1175 rfl (lv_at hl 4 rfl) ?_
  obtain ⟨q1176, e1176, h⟩ := gBind_some h
  refine g_callVi (k := 136) (T := TX9) (N := 19) (As := []) (rest := []) ⟨hx, hb, hml, hown, hts⟩ (metX9_thrown l D G q1170.2 q1146.2 q1176 e1176) (g_cwV (C := RX9) 0 hts q_ml_L_86 q_im_X9_thrown q_se_X9_thrown q_in_X9 q_co_X9_thrown ⟨rfl, rfl⟩ (by decide +kernel) ⟨Nat.le_of_ble_eq_true rfl, Nat.le_of_ble_eq_true rfl⟩) hX hH (rfl : gKinds[136]? = _) rfl rfl hl.1 rfl (Nat.le_of_ble_eq_true rfl) dL_law_1176 ⟨by show _ ≤ 601024; omega, by show _ ≤ 7293034; omega⟩ (fun H locs hH => ?_)
  refine lv_iload hx hb dL_law_1179 (lv_at hl 1 rfl) ?_
  refine g_icmp_eq (tgt := 1186) hx hb dL_law_1181 (by decide) h (fun h => ?_) (fun h => absurd h (fun z => by cases z))
  refine lv_iload hx hb dL_law_1186 (lv_at hl 1 rfl) ?_
  refine g_if_ne (tgt := 1203) hx hb dL_law_1188 (by decide) h (fun h => ?_) (fun h => ?_)
  · refine lv_goto (tgt := 1537) hx hb dL_law_1203 (by decide) ?_
    cases h
    exact kk _ _ _ hH (lv_sub hl [2, 3, 4, 5, 6] rfl)
  · refine lv_aload_n hx hb dL_law_1191 rfl (lv_at hl 5 rfl) ?_
    refine lv_iconst (v := gI (0 : Int)) hx hb dL_law_1192 (by decide) ?_
    refine g_lald hx hb hX hH (k := 147) (rfl : gKinds[147]? = _) dL_law_1193 ?_
    refine lv_iload hx hb dL_law_1194 (lv_at hl 0 rfl) ?_
    refine lv_i2l (v := (gI q1170.1).toInt64) hx hb dL_law_1196 rfl ?_
    have hcmp : (q1146.2 147) = ((gI q1170.1).toInt64) := (gEq_some h).1
    have h := (gEq_some h).2
    refine W.lcmp hx hb dL_law_1197 ?_
    have hc0 : lg_cmp (q1146.2 147) ((gI q1170.1).toInt64) = 0 := by rw [hcmp]; simp [lg_cmp]
    rw [hc0]
    refine lv_if_eq (tgt := 1203) hx hb dL_law_1198 (by decide) (fun _ => ?_) (fun z => absurd rfl z)
    refine lv_goto (tgt := 1537) hx hb dL_law_1203 (by decide) ?_
    cases h
    exact kk _ _ _ hH (lv_sub hl [2, 3, 4, 5, 6] rfl)
def DL_c18 (xs : Nat → Int32) (j : Nat) (σ : gSt) (μ : gLg) : Option (gSt × gLg) :=
  (gWrS (DX8_sheetsWith σ (xs (Int.toNat ((4 * (j : Int)) + (1 : Int)))).toInt (xs (Int.toNat ((4 * (j : Int)) + (2 : Int)))).toInt) [(1, 1)] σ μ).bind fun q1261 => (DX9_sheetsWith q1261.2.1 (xs (Int.toNat ((4 * (j : Int)) + (1 : Int)))).toInt (xs (Int.toNat ((4 * (j : Int)) + (2 : Int)))).toInt).bind fun q1279 => (DX9_thrown q1279.2).bind fun q1285 => gIf (q1285 = q1261.1) q1285 q1261.1 (gIf (q1261.1 = 0) q1261.1 0 (gEq (q1261.2.2 147) ((gI q1279.1).toInt64) (some (q1279.2, q1261.2.2))) (some (q1279.2, q1261.2.2))) none
set_option maxHeartbeats 4000000 in
set_option maxRecDepth 100000 in
theorem lawc_18 {p : Program} {l : Launch} {e : Env} {s : State} {m : MethodId} {below : List Frame} {meth : Method} {c : Code} {b L j : Nat} {xs : Nat → Int32} {D : va_G} {G : gAd} {Q : State → Prop} (hlt : l.stackTraces = false) (hx : p.tables.exec = Jvm.exec) (hb : c.code = cL_law) (hml : c.maxLocals = 9) (hown : s.vm.findClass RL = some m.cls) (hts : ∀ w ∈ gLW, w.before #[Value.ref b] s = true) (hX : gX D G s) (hXs : va_X b L xs s s.heap) (hbl : b < s.heap.size) (hbA : ¬ gA G b) (hL : L ≤ 2048) (hj : 4 * j + 4 ≤ L) {H : Heap} {locs : List Loc} {ls : Array Slot} {cells slots : Nat} (hc : cells ≤ 500 + 3 * j) (hs : slots ≤ 20000 + 18 * j) {σ σ' : gSt} {μ μ' : gLg} (hH : gH D G s H locs σ μ) (hl : lv_has ls 9 [(0, .ref b), (1, .ref (G.1 0)), (2, .ref (G.1 136)), (3, .ref (G.1 147)), (4, .int (gI (4 * (j : Int))))]) (h : DL_c18 xs j σ μ = some (σ', μ')) (kk : ∀ (H1 : Heap) (locs1 : List Loc) (ls1 : Array Slot), gH D G s H1 locs1 σ' μ' → lv_has ls1 9 [(0, .ref b), (1, .ref (G.1 0)), (2, .ref (G.1 136)), (3, .ref (G.1 147)), (4, .int (gI (4 * (j : Int))))] → W p l e room_1 s m #[Value.ref b] below meth c H1 locs1 (cells + 1) (slots + 6) Q (F0 m 1537 ls1 [])) : W p l e room_1 s m #[Value.ref b] below meth c H locs cells slots Q (F0 m 1247 ls []) := by
  unfold DL_c18 at h
  refine lv_aload_n hx hb dL_law_1247 rfl (lv_at hl 1 rfl) ?_
  refine lv_aload_n hx hb dL_law_1248 rfl (lv_at hl 0 rfl) ?_
  refine lv_iload hx hb dL_law_1249 (lv_at hl 4 rfl) ?_
  refine lv_iconst (v := gI (1 : Int)) hx hb dL_law_1251 (by decide) ?_
  refine g_iadd hx hb dL_law_1252 ?_
  refine g_sld hx hb hXs hbl hbA hH ⟨by omega, by omega⟩ hL dL_law_1253 ?_
  refine lv_aload_n hx hb dL_law_1254 rfl (lv_at hl 0 rfl) ?_
  refine lv_iload hx hb dL_law_1255 (lv_at hl 4 rfl) ?_
  refine lv_iconst (v := gI (2 : Int)) hx hb dL_law_1257 (by decide) ?_
  refine g_iadd hx hb dL_law_1258 ?_
  refine g_sld hx hb hXs hbl hbA hH ⟨by omega, by omega⟩ hL dL_law_1259 ?_
  refine lv_aload_n hx hb dL_law_1260 rfl (lv_at hl 3 rfl) ?_
  obtain ⟨q1261, e1261, h⟩ := gBind_some h
  refine g_callWi (As := [.ref (G.1 0), .int (gI (xs (Int.toNat ((4 * (j : Int)) + (1 : Int)))).toInt), .int (gI (xs (Int.toNat ((4 * (j : Int)) + (2 : Int)))).toInt), .ref (G.1 147)]) (rest := []) ⟨hx, hb, hml, hown, hts⟩ (metL_sheetsWith l hlt D G σ μ (xs (Int.toNat ((4 * (j : Int)) + (1 : Int)))).toInt (xs (Int.toNat ((4 * (j : Int)) + (2 : Int)))).toInt q1261.1 q1261.2.1 q1261.2.2 e1261) (g_cwW 4 hts q_ml_L_146 q_st_L_sheetsWith q_in_L q_cw_L_sheetsWith ⟨rfl, rfl⟩ (by decide +kernel) ⟨Nat.le_of_ble_eq_true rfl, Nat.le_of_ble_eq_true rfl⟩) hX hH rfl hl.1 rfl (Nat.le_of_ble_eq_true rfl) dL_law_1261 ⟨by show _ ≤ 601024; omega, by show _ ≤ 7293034; omega⟩ (fun H locs hH => ?_)
  refine lv_istore (lv' := [(5, .int (gI q1261.1)), (0, .ref b), (1, .ref (G.1 0)), (2, .ref (G.1 136)), (3, .ref (G.1 147)), (4, .int (gI (4 * (j : Int))))]) hx hb dL_law_1264 hl (by decide) rfl (fun ls hl => ?_)
  refine lv_aload_n hx hb dL_law_1266 rfl (lv_at hl 3 rfl) ?_
  refine lv_aload_n hx hb dL_law_1267 rfl (lv_at hl 1 rfl) ?_
  refine lv_iload hx hb dL_law_1268 (lv_at hl 5 rfl) ?_
  refine lv_iconst (v := gI (1 : Int)) hx hb dL_law_1270 (by decide) ?_
  refine g_iadd hx hb dL_law_1271 ?_
  refine g_sld hx hb hXs hbl hbA hH ⟨by omega, by omega⟩ hL dL_law_1272 ?_
  refine lv_aload_n hx hb dL_law_1273 rfl (lv_at hl 1 rfl) ?_
  refine lv_iload hx hb dL_law_1274 (lv_at hl 5 rfl) ?_
  refine lv_iconst (v := gI (2 : Int)) hx hb dL_law_1276 (by decide) ?_
  refine g_iadd hx hb dL_law_1277 ?_
  refine g_sld hx hb hXs hbl hbA hH ⟨by omega, by omega⟩ hL dL_law_1278 ?_
  obtain ⟨q1279, e1279, h⟩ := gBind_some h
  refine g_callVi (k := 136) (T := TX9) (N := 19) (As := [.int (gI (xs (Int.toNat ((4 * (j : Int)) + (1 : Int)))).toInt), .int (gI (xs (Int.toNat ((4 * (j : Int)) + (2 : Int)))).toInt)]) (rest := []) ⟨hx, hb, hml, hown, hts⟩ (metX9_sheetsWith l D G q1261.2.1 q1261.2.2 (xs (Int.toNat ((4 * (j : Int)) + (1 : Int)))).toInt (xs (Int.toNat ((4 * (j : Int)) + (2 : Int)))).toInt q1279.1 q1279.2 e1279) (g_cwV (C := RX9) 2 hts q_ml_L_148 q_im_X9_sheetsWith q_se_X9_sheetsWith q_in_X9 q_co_X9_sheetsWith ⟨rfl, rfl⟩ (by decide +kernel) ⟨Nat.le_of_ble_eq_true rfl, Nat.le_of_ble_eq_true rfl⟩) hX hH (rfl : gKinds[136]? = _) rfl rfl hl.1 rfl (Nat.le_of_ble_eq_true rfl) dL_law_1279 ⟨by show _ ≤ 601024; omega, by show _ ≤ 7293034; omega⟩ (fun H locs hH => ?_)
  refine lv_istore (lv' := [(6, .int (gI q1279.1)), (5, .int (gI q1261.1)), (0, .ref b), (1, .ref (G.1 0)), (2, .ref (G.1 136)), (3, .ref (G.1 147)), (4, .int (gI (4 * (j : Int))))]) hx hb dL_law_1282 hl (by decide) rfl (fun ls hl => ?_)
  refine lv_aload_n hx hb dL_law_1284 rfl (lv_at hl 4 rfl) ?_
  obtain ⟨q1285, e1285, h⟩ := gBind_some h
  refine g_callVi (k := 136) (T := TX9) (N := 19) (As := []) (rest := []) ⟨hx, hb, hml, hown, hts⟩ (metX9_thrown l D G q1279.2 q1261.2.2 q1285 e1285) (g_cwV (C := RX9) 0 hts q_ml_L_86 q_im_X9_thrown q_se_X9_thrown q_in_X9 q_co_X9_thrown ⟨rfl, rfl⟩ (by decide +kernel) ⟨Nat.le_of_ble_eq_true rfl, Nat.le_of_ble_eq_true rfl⟩) hX hH (rfl : gKinds[136]? = _) rfl rfl hl.1 rfl (Nat.le_of_ble_eq_true rfl) dL_law_1285 ⟨by show _ ≤ 601024; omega, by show _ ≤ 7293034; omega⟩ (fun H locs hH => ?_)
  refine lv_iload hx hb dL_law_1288 (lv_at hl 1 rfl) ?_
  refine g_icmp_eq (tgt := 1295) hx hb dL_law_1290 (by decide) h (fun h => ?_) (fun h => absurd h (fun z => by cases z))
  refine lv_iload hx hb dL_law_1295 (lv_at hl 1 rfl) ?_
  refine g_if_ne (tgt := 1312) hx hb dL_law_1297 (by decide) h (fun h => ?_) (fun h => ?_)
  · refine lv_goto (tgt := 1537) hx hb dL_law_1312 (by decide) ?_
    cases h
    exact kk _ _ _ hH (lv_sub hl [2, 3, 4, 5, 6] rfl)
  · refine lv_aload_n hx hb dL_law_1300 rfl (lv_at hl 5 rfl) ?_
    refine lv_iconst (v := gI (0 : Int)) hx hb dL_law_1301 (by decide) ?_
    refine g_lald hx hb hX hH (k := 147) (rfl : gKinds[147]? = _) dL_law_1302 ?_
    refine lv_iload hx hb dL_law_1303 (lv_at hl 0 rfl) ?_
    refine lv_i2l (v := (gI q1279.1).toInt64) hx hb dL_law_1305 rfl ?_
    have hcmp : (q1261.2.2 147) = ((gI q1279.1).toInt64) := (gEq_some h).1
    have h := (gEq_some h).2
    refine W.lcmp hx hb dL_law_1306 ?_
    have hc0 : lg_cmp (q1261.2.2 147) ((gI q1279.1).toInt64) = 0 := by rw [hcmp]; simp [lg_cmp]
    rw [hc0]
    refine lv_if_eq (tgt := 1312) hx hb dL_law_1307 (by decide) (fun _ => ?_) (fun z => absurd rfl z)
    refine lv_goto (tgt := 1537) hx hb dL_law_1312 (by decide) ?_
    cases h
    exact kk _ _ _ hH (lv_sub hl [2, 3, 4, 5, 6] rfl)
def DL_c19 (xs : Nat → Int32) (j : Nat) (σ : gSt) (μ : gLg) : Option (gSt × gLg) :=
  (DX8_fewestExits σ).bind fun q1316 => (DX9_fewestExits σ).bind fun q1320 => gIf (q1316 = q1320.1) q1316 q1320.1 (some (q1320.2, μ)) none
set_option maxHeartbeats 4000000 in
set_option maxRecDepth 100000 in
theorem lawc_19 {p : Program} {l : Launch} {e : Env} {s : State} {m : MethodId} {below : List Frame} {meth : Method} {c : Code} {b L j : Nat} {xs : Nat → Int32} {D : va_G} {G : gAd} {Q : State → Prop} (hlt : l.stackTraces = false) (hx : p.tables.exec = Jvm.exec) (hb : c.code = cL_law) (hml : c.maxLocals = 9) (hown : s.vm.findClass RL = some m.cls) (hts : ∀ w ∈ gLW, w.before #[Value.ref b] s = true) (hX : gX D G s) (hXs : va_X b L xs s s.heap) (hbl : b < s.heap.size) (hbA : ¬ gA G b) (hL : L ≤ 2048) (hj : 4 * j + 4 ≤ L) {H : Heap} {locs : List Loc} {ls : Array Slot} {cells slots : Nat} (hc : cells ≤ 500 + 3 * j) (hs : slots ≤ 20000 + 18 * j) {σ σ' : gSt} {μ μ' : gLg} (hH : gH D G s H locs σ μ) (hl : lv_has ls 9 [(0, .ref b), (1, .ref (G.1 0)), (2, .ref (G.1 136)), (3, .ref (G.1 147)), (4, .int (gI (4 * (j : Int))))]) (h : DL_c19 xs j σ μ = some (σ', μ')) (kk : ∀ (H1 : Heap) (locs1 : List Loc) (ls1 : Array Slot), gH D G s H1 locs1 σ' μ' → lv_has ls1 9 [(0, .ref b), (1, .ref (G.1 0)), (2, .ref (G.1 136)), (3, .ref (G.1 147)), (4, .int (gI (4 * (j : Int))))] → W p l e room_1 s m #[Value.ref b] below meth c H1 locs1 (cells + 0) (slots + 0) Q (F0 m 1537 ls1 [])) : W p l e room_1 s m #[Value.ref b] below meth c H locs cells slots Q (F0 m 1315 ls []) := by
  unfold DL_c19 at h
  refine lv_aload_n hx hb dL_law_1315 rfl (lv_at hl 1 rfl) ?_
  obtain ⟨q1316, e1316, h⟩ := gBind_some h
  refine g_callVi (k := 0) (T := TX8) (N := 10) (As := []) (rest := []) ⟨hx, hb, hml, hown, hts⟩ (metX8_fewestExits l D G σ μ q1316 e1316) (g_cwV (C := RX8) 0 hts q_ml_L_149 q_im_X8_fewestExits q_se_X8_fewestExits q_in_X8 q_co_X8_fewestExits ⟨rfl, rfl⟩ (by decide +kernel) ⟨Nat.le_of_ble_eq_true rfl, Nat.le_of_ble_eq_true rfl⟩) hX hH (rfl : gKinds[0]? = _) rfl rfl hl.1 rfl (Nat.le_of_ble_eq_true rfl) dL_law_1316 ⟨by show _ ≤ 601024; omega, by show _ ≤ 7293034; omega⟩ (fun H locs hH => ?_)
  refine lv_aload_n hx hb dL_law_1319 rfl (lv_at hl 2 rfl) ?_
  obtain ⟨q1320, e1320, h⟩ := gBind_some h
  refine g_callVi (k := 136) (T := TX9) (N := 19) (As := []) (rest := [.int (gI q1316)]) ⟨hx, hb, hml, hown, hts⟩ (metX9_fewestExits l D G σ μ q1320.1 q1320.2 e1320) (g_cwV (C := RX9) 0 hts q_ml_L_152 q_im_X9_fewestExits q_se_X9_fewestExits q_in_X9 q_co_X9_fewestExits ⟨rfl, rfl⟩ (by decide +kernel) ⟨Nat.le_of_ble_eq_true rfl, Nat.le_of_ble_eq_true rfl⟩) hX hH (rfl : gKinds[136]? = _) rfl rfl hl.1 rfl (Nat.le_of_ble_eq_true rfl) dL_law_1320 ⟨by show _ ≤ 601024; omega, by show _ ≤ 7293034; omega⟩ (fun H locs hH => ?_)
  refine g_icmp_eq (tgt := 1537) hx hb dL_law_1323 (by decide) h (fun h => ?_) (fun h => absurd h (fun z => by cases z))
  cases h
  exact kk _ _ _ hH (lv_sub hl [0, 1, 2, 3, 4] rfl)
def DL_c20 (xs : Nat → Int32) (j : Nat) (σ : gSt) (μ : gLg) : Option (gSt × gLg) :=
  (gWrP (DX8_delay σ (xs (Int.toNat ((4 * (j : Int)) + (1 : Int)))).toInt) [(3, 1)] μ).bind fun q1336 => (DX9_delay σ (xs (Int.toNat ((4 * (j : Int)) + (1 : Int)))).toInt).bind fun q1348 => (DX9_thrown q1348.2).bind fun q1354 => gIf (q1354 = q1336.1) q1354 q1336.1 (gIf (q1336.1 = 0) q1336.1 0 (gEq (q1336.2 147) ((gI q1348.1).toInt64) (some (q1348.2, q1336.2))) (some (q1348.2, q1336.2))) none
set_option maxHeartbeats 4000000 in
set_option maxRecDepth 100000 in
theorem lawc_20 {p : Program} {l : Launch} {e : Env} {s : State} {m : MethodId} {below : List Frame} {meth : Method} {c : Code} {b L j : Nat} {xs : Nat → Int32} {D : va_G} {G : gAd} {Q : State → Prop} (hlt : l.stackTraces = false) (hx : p.tables.exec = Jvm.exec) (hb : c.code = cL_law) (hml : c.maxLocals = 9) (hown : s.vm.findClass RL = some m.cls) (hts : ∀ w ∈ gLW, w.before #[Value.ref b] s = true) (hX : gX D G s) (hXs : va_X b L xs s s.heap) (hbl : b < s.heap.size) (hbA : ¬ gA G b) (hL : L ≤ 2048) (hj : 4 * j + 4 ≤ L) {H : Heap} {locs : List Loc} {ls : Array Slot} {cells slots : Nat} (hc : cells ≤ 500 + 3 * j) (hs : slots ≤ 20000 + 18 * j) {σ σ' : gSt} {μ μ' : gLg} (hH : gH D G s H locs σ μ) (hl : lv_has ls 9 [(0, .ref b), (1, .ref (G.1 0)), (2, .ref (G.1 136)), (3, .ref (G.1 147)), (4, .int (gI (4 * (j : Int))))]) (h : DL_c20 xs j σ μ = some (σ', μ')) (kk : ∀ (H1 : Heap) (locs1 : List Loc) (ls1 : Array Slot), gH D G s H1 locs1 σ' μ' → lv_has ls1 9 [(0, .ref b), (1, .ref (G.1 0)), (2, .ref (G.1 136)), (3, .ref (G.1 147)), (4, .int (gI (4 * (j : Int))))] → W p l e room_1 s m #[Value.ref b] below meth c H1 locs1 (cells + 1) (slots + 6) Q (F0 m 1537 ls1 [])) : W p l e room_1 s m #[Value.ref b] below meth c H locs cells slots Q (F0 m 1328 ls []) := by
  unfold DL_c20 at h
  refine lv_aload_n hx hb dL_law_1328 rfl (lv_at hl 1 rfl) ?_
  refine lv_aload_n hx hb dL_law_1329 rfl (lv_at hl 0 rfl) ?_
  refine lv_iload hx hb dL_law_1330 (lv_at hl 4 rfl) ?_
  refine lv_iconst (v := gI (1 : Int)) hx hb dL_law_1332 (by decide) ?_
  refine g_iadd hx hb dL_law_1333 ?_
  refine g_sld hx hb hXs hbl hbA hH ⟨by omega, by omega⟩ hL dL_law_1334 ?_
  refine lv_aload_n hx hb dL_law_1335 rfl (lv_at hl 3 rfl) ?_
  obtain ⟨q1336, e1336, h⟩ := gBind_some h
  refine g_callWi (As := [.ref (G.1 0), .int (gI (xs (Int.toNat ((4 * (j : Int)) + (1 : Int)))).toInt), .ref (G.1 147)]) (rest := []) ⟨hx, hb, hml, hown, hts⟩ (metL_delay l hlt D G σ μ (xs (Int.toNat ((4 * (j : Int)) + (1 : Int)))).toInt q1336.1 q1336.2 e1336) (g_cwW 3 hts q_ml_L_153 q_st_L_delay q_in_L q_cw_L_delay ⟨rfl, rfl⟩ (by decide +kernel) ⟨Nat.le_of_ble_eq_true rfl, Nat.le_of_ble_eq_true rfl⟩) hX hH rfl hl.1 rfl (Nat.le_of_ble_eq_true rfl) dL_law_1336 ⟨by show _ ≤ 601024; omega, by show _ ≤ 7293034; omega⟩ (fun H locs hH => ?_)
  refine lv_istore (lv' := [(5, .int (gI q1336.1)), (0, .ref b), (1, .ref (G.1 0)), (2, .ref (G.1 136)), (3, .ref (G.1 147)), (4, .int (gI (4 * (j : Int))))]) hx hb dL_law_1339 hl (by decide) rfl (fun ls hl => ?_)
  refine lv_aload_n hx hb dL_law_1341 rfl (lv_at hl 3 rfl) ?_
  refine lv_aload_n hx hb dL_law_1342 rfl (lv_at hl 1 rfl) ?_
  refine lv_iload hx hb dL_law_1343 (lv_at hl 5 rfl) ?_
  refine lv_iconst (v := gI (1 : Int)) hx hb dL_law_1345 (by decide) ?_
  refine g_iadd hx hb dL_law_1346 ?_
  refine g_sld hx hb hXs hbl hbA hH ⟨by omega, by omega⟩ hL dL_law_1347 ?_
  obtain ⟨q1348, e1348, h⟩ := gBind_some h
  refine g_callVi (k := 136) (T := TX9) (N := 19) (As := [.int (gI (xs (Int.toNat ((4 * (j : Int)) + (1 : Int)))).toInt)]) (rest := []) ⟨hx, hb, hml, hown, hts⟩ (metX9_delay l D G σ q1336.2 (xs (Int.toNat ((4 * (j : Int)) + (1 : Int)))).toInt q1348.1 q1348.2 e1348) (g_cwV (C := RX9) 1 hts q_ml_L_155 q_im_X9_delay q_se_X9_delay q_in_X9 q_co_X9_delay ⟨rfl, rfl⟩ (by decide +kernel) ⟨Nat.le_of_ble_eq_true rfl, Nat.le_of_ble_eq_true rfl⟩) hX hH (rfl : gKinds[136]? = _) rfl rfl hl.1 rfl (Nat.le_of_ble_eq_true rfl) dL_law_1348 ⟨by show _ ≤ 601024; omega, by show _ ≤ 7293034; omega⟩ (fun H locs hH => ?_)
  refine lv_istore (lv' := [(6, .int (gI q1348.1)), (5, .int (gI q1336.1)), (0, .ref b), (1, .ref (G.1 0)), (2, .ref (G.1 136)), (3, .ref (G.1 147)), (4, .int (gI (4 * (j : Int))))]) hx hb dL_law_1351 hl (by decide) rfl (fun ls hl => ?_)
  refine lv_aload_n hx hb dL_law_1353 rfl (lv_at hl 4 rfl) ?_
  obtain ⟨q1354, e1354, h⟩ := gBind_some h
  refine g_callVi (k := 136) (T := TX9) (N := 19) (As := []) (rest := []) ⟨hx, hb, hml, hown, hts⟩ (metX9_thrown l D G q1348.2 q1336.2 q1354 e1354) (g_cwV (C := RX9) 0 hts q_ml_L_86 q_im_X9_thrown q_se_X9_thrown q_in_X9 q_co_X9_thrown ⟨rfl, rfl⟩ (by decide +kernel) ⟨Nat.le_of_ble_eq_true rfl, Nat.le_of_ble_eq_true rfl⟩) hX hH (rfl : gKinds[136]? = _) rfl rfl hl.1 rfl (Nat.le_of_ble_eq_true rfl) dL_law_1354 ⟨by show _ ≤ 601024; omega, by show _ ≤ 7293034; omega⟩ (fun H locs hH => ?_)
  refine lv_iload hx hb dL_law_1357 (lv_at hl 1 rfl) ?_
  refine g_icmp_eq (tgt := 1364) hx hb dL_law_1359 (by decide) h (fun h => ?_) (fun h => absurd h (fun z => by cases z))
  refine lv_iload hx hb dL_law_1364 (lv_at hl 1 rfl) ?_
  refine g_if_ne (tgt := 1381) hx hb dL_law_1366 (by decide) h (fun h => ?_) (fun h => ?_)
  · refine lv_goto (tgt := 1537) hx hb dL_law_1381 (by decide) ?_
    cases h
    exact kk _ _ _ hH (lv_sub hl [2, 3, 4, 5, 6] rfl)
  · refine lv_aload_n hx hb dL_law_1369 rfl (lv_at hl 5 rfl) ?_
    refine lv_iconst (v := gI (0 : Int)) hx hb dL_law_1370 (by decide) ?_
    refine g_lald hx hb hX hH (k := 147) (rfl : gKinds[147]? = _) dL_law_1371 ?_
    refine lv_iload hx hb dL_law_1372 (lv_at hl 0 rfl) ?_
    refine lv_i2l (v := (gI q1348.1).toInt64) hx hb dL_law_1374 rfl ?_
    have hcmp : (q1336.2 147) = ((gI q1348.1).toInt64) := (gEq_some h).1
    have h := (gEq_some h).2
    refine W.lcmp hx hb dL_law_1375 ?_
    have hc0 : lg_cmp (q1336.2 147) ((gI q1348.1).toInt64) = 0 := by rw [hcmp]; simp [lg_cmp]
    rw [hc0]
    refine lv_if_eq (tgt := 1381) hx hb dL_law_1376 (by decide) (fun _ => ?_) (fun z => absurd rfl z)
    refine lv_goto (tgt := 1537) hx hb dL_law_1381 (by decide) ?_
    cases h
    exact kk _ _ _ hH (lv_sub hl [2, 3, 4, 5, 6] rfl)
def DL_c21 (xs : Nat → Int32) (j : Nat) (σ : gSt) (μ : gLg) : Option (gSt × gLg) :=
  (DX8_longestChain σ).bind fun q1385 => (DX9_longestChain q1385.2).bind fun q1389 => gIf (q1385.1 = q1389.1) q1385.1 q1389.1 (some (q1389.2, μ)) none
set_option maxHeartbeats 4000000 in
set_option maxRecDepth 100000 in
theorem lawc_21 {p : Program} {l : Launch} {e : Env} {s : State} {m : MethodId} {below : List Frame} {meth : Method} {c : Code} {b L j : Nat} {xs : Nat → Int32} {D : va_G} {G : gAd} {Q : State → Prop} (hlt : l.stackTraces = false) (hx : p.tables.exec = Jvm.exec) (hb : c.code = cL_law) (hml : c.maxLocals = 9) (hown : s.vm.findClass RL = some m.cls) (hts : ∀ w ∈ gLW, w.before #[Value.ref b] s = true) (hX : gX D G s) (hXs : va_X b L xs s s.heap) (hbl : b < s.heap.size) (hbA : ¬ gA G b) (hL : L ≤ 2048) (hj : 4 * j + 4 ≤ L) {H : Heap} {locs : List Loc} {ls : Array Slot} {cells slots : Nat} (hc : cells ≤ 500 + 3 * j) (hs : slots ≤ 20000 + 18 * j) {σ σ' : gSt} {μ μ' : gLg} (hH : gH D G s H locs σ μ) (hl : lv_has ls 9 [(0, .ref b), (1, .ref (G.1 0)), (2, .ref (G.1 136)), (3, .ref (G.1 147)), (4, .int (gI (4 * (j : Int))))]) (h : DL_c21 xs j σ μ = some (σ', μ')) (kk : ∀ (H1 : Heap) (locs1 : List Loc) (ls1 : Array Slot), gH D G s H1 locs1 σ' μ' → lv_has ls1 9 [(0, .ref b), (1, .ref (G.1 0)), (2, .ref (G.1 136)), (3, .ref (G.1 147)), (4, .int (gI (4 * (j : Int))))] → W p l e room_1 s m #[Value.ref b] below meth c H1 locs1 (cells + 0) (slots + 0) Q (F0 m 1537 ls1 [])) : W p l e room_1 s m #[Value.ref b] below meth c H locs cells slots Q (F0 m 1384 ls []) := by
  unfold DL_c21 at h
  refine lv_aload_n hx hb dL_law_1384 rfl (lv_at hl 1 rfl) ?_
  obtain ⟨q1385, e1385, h⟩ := gBind_some h
  refine g_callVi (k := 0) (T := TX8) (N := 10) (As := []) (rest := []) ⟨hx, hb, hml, hown, hts⟩ (metX8_longestChain l D G σ μ q1385.1 q1385.2 e1385) (g_cwV (C := RX8) 0 hts q_ml_L_156 q_im_X8_longestChain q_se_X8_longestChain q_in_X8 q_co_X8_longestChain ⟨rfl, rfl⟩ (by decide +kernel) ⟨Nat.le_of_ble_eq_true rfl, Nat.le_of_ble_eq_true rfl⟩) hX hH (rfl : gKinds[0]? = _) rfl rfl hl.1 rfl (Nat.le_of_ble_eq_true rfl) dL_law_1385 ⟨by show _ ≤ 601024; omega, by show _ ≤ 7293034; omega⟩ (fun H locs hH => ?_)
  refine lv_aload_n hx hb dL_law_1388 rfl (lv_at hl 2 rfl) ?_
  obtain ⟨q1389, e1389, h⟩ := gBind_some h
  refine g_callVi (k := 136) (T := TX9) (N := 19) (As := []) (rest := [.int (gI q1385.1)]) ⟨hx, hb, hml, hown, hts⟩ (metX9_longestChain l D G q1385.2 μ q1389.1 q1389.2 e1389) (g_cwV (C := RX9) 0 hts q_ml_L_159 q_im_X9_longestChain q_se_X9_longestChain q_in_X9 q_co_X9_longestChain ⟨rfl, rfl⟩ (by decide +kernel) ⟨Nat.le_of_ble_eq_true rfl, Nat.le_of_ble_eq_true rfl⟩) hX hH (rfl : gKinds[136]? = _) rfl rfl hl.1 rfl (Nat.le_of_ble_eq_true rfl) dL_law_1389 ⟨by show _ ≤ 601024; omega, by show _ ≤ 7293034; omega⟩ (fun H locs hH => ?_)
  refine g_icmp_eq (tgt := 1537) hx hb dL_law_1392 (by decide) h (fun h => ?_) (fun h => absurd h (fun z => by cases z))
  cases h
  exact kk _ _ _ hH (lv_sub hl [0, 1, 2, 3, 4] rfl)
def DL_c22 (xs : Nat → Int32) (j : Nat) (σ : gSt) (μ : gLg) : Option (gSt × gLg) :=
  (gWrS (DX8_append σ (xs (Int.toNat ((4 * (j : Int)) + (1 : Int)))).toInt) [(1, 1), (2, 2)] σ μ).bind fun q1405 => (DX9_append q1405.2.1 (xs (Int.toNat ((4 * (j : Int)) + (1 : Int)))).toInt).bind fun q1417 => (DX9_thrown q1417.2).bind fun q1423 => gIf (q1423 = q1405.1) q1423 q1405.1 (gIf (q1405.1 = 0) q1405.1 0 (gEq (q1405.2.2 147) ((gI q1417.1).toInt64) (some (q1417.2, q1405.2.2))) (some (q1417.2, q1405.2.2))) none
set_option maxHeartbeats 4000000 in
set_option maxRecDepth 100000 in
theorem lawc_22 {p : Program} {l : Launch} {e : Env} {s : State} {m : MethodId} {below : List Frame} {meth : Method} {c : Code} {b L j : Nat} {xs : Nat → Int32} {D : va_G} {G : gAd} {Q : State → Prop} (hlt : l.stackTraces = false) (hx : p.tables.exec = Jvm.exec) (hb : c.code = cL_law) (hml : c.maxLocals = 9) (hown : s.vm.findClass RL = some m.cls) (hts : ∀ w ∈ gLW, w.before #[Value.ref b] s = true) (hX : gX D G s) (hXs : va_X b L xs s s.heap) (hbl : b < s.heap.size) (hbA : ¬ gA G b) (hL : L ≤ 2048) (hj : 4 * j + 4 ≤ L) {H : Heap} {locs : List Loc} {ls : Array Slot} {cells slots : Nat} (hc : cells ≤ 500 + 3 * j) (hs : slots ≤ 20000 + 18 * j) {σ σ' : gSt} {μ μ' : gLg} (hH : gH D G s H locs σ μ) (hl : lv_has ls 9 [(0, .ref b), (1, .ref (G.1 0)), (2, .ref (G.1 136)), (3, .ref (G.1 147)), (4, .int (gI (4 * (j : Int))))]) (h : DL_c22 xs j σ μ = some (σ', μ')) (kk : ∀ (H1 : Heap) (locs1 : List Loc) (ls1 : Array Slot), gH D G s H1 locs1 σ' μ' → lv_has ls1 9 [(0, .ref b), (1, .ref (G.1 0)), (2, .ref (G.1 136)), (3, .ref (G.1 147)), (4, .int (gI (4 * (j : Int))))] → W p l e room_1 s m #[Value.ref b] below meth c H1 locs1 (cells + 1) (slots + 6) Q (F0 m 1537 ls1 [])) : W p l e room_1 s m #[Value.ref b] below meth c H locs cells slots Q (F0 m 1397 ls []) := by
  unfold DL_c22 at h
  refine lv_aload_n hx hb dL_law_1397 rfl (lv_at hl 1 rfl) ?_
  refine lv_aload_n hx hb dL_law_1398 rfl (lv_at hl 0 rfl) ?_
  refine lv_iload hx hb dL_law_1399 (lv_at hl 4 rfl) ?_
  refine lv_iconst (v := gI (1 : Int)) hx hb dL_law_1401 (by decide) ?_
  refine g_iadd hx hb dL_law_1402 ?_
  refine g_sld hx hb hXs hbl hbA hH ⟨by omega, by omega⟩ hL dL_law_1403 ?_
  refine lv_aload_n hx hb dL_law_1404 rfl (lv_at hl 3 rfl) ?_
  obtain ⟨q1405, e1405, h⟩ := gBind_some h
  refine g_callWi (As := [.ref (G.1 0), .int (gI (xs (Int.toNat ((4 * (j : Int)) + (1 : Int)))).toInt), .ref (G.1 147)]) (rest := []) ⟨hx, hb, hml, hown, hts⟩ (metL_append l hlt D G σ μ (xs (Int.toNat ((4 * (j : Int)) + (1 : Int)))).toInt q1405.1 q1405.2.1 q1405.2.2 e1405) (g_cwW 3 hts q_ml_L_160 q_st_L_append q_in_L q_cw_L_append ⟨rfl, rfl⟩ (by decide +kernel) ⟨Nat.le_of_ble_eq_true rfl, Nat.le_of_ble_eq_true rfl⟩) hX hH rfl hl.1 rfl (Nat.le_of_ble_eq_true rfl) dL_law_1405 ⟨by show _ ≤ 601024; omega, by show _ ≤ 7293034; omega⟩ (fun H locs hH => ?_)
  refine lv_istore (lv' := [(5, .int (gI q1405.1)), (0, .ref b), (1, .ref (G.1 0)), (2, .ref (G.1 136)), (3, .ref (G.1 147)), (4, .int (gI (4 * (j : Int))))]) hx hb dL_law_1408 hl (by decide) rfl (fun ls hl => ?_)
  refine lv_aload_n hx hb dL_law_1410 rfl (lv_at hl 3 rfl) ?_
  refine lv_aload_n hx hb dL_law_1411 rfl (lv_at hl 1 rfl) ?_
  refine lv_iload hx hb dL_law_1412 (lv_at hl 5 rfl) ?_
  refine lv_iconst (v := gI (1 : Int)) hx hb dL_law_1414 (by decide) ?_
  refine g_iadd hx hb dL_law_1415 ?_
  refine g_sld hx hb hXs hbl hbA hH ⟨by omega, by omega⟩ hL dL_law_1416 ?_
  obtain ⟨q1417, e1417, h⟩ := gBind_some h
  refine g_callVi (k := 136) (T := TX9) (N := 19) (As := [.int (gI (xs (Int.toNat ((4 * (j : Int)) + (1 : Int)))).toInt)]) (rest := []) ⟨hx, hb, hml, hown, hts⟩ (metX9_append l D G q1405.2.1 q1405.2.2 (xs (Int.toNat ((4 * (j : Int)) + (1 : Int)))).toInt q1417.1 q1417.2 e1417) (g_cwV (C := RX9) 1 hts q_ml_L_162 q_im_X9_append q_se_X9_append q_in_X9 q_co_X9_append ⟨rfl, rfl⟩ (by decide +kernel) ⟨Nat.le_of_ble_eq_true rfl, Nat.le_of_ble_eq_true rfl⟩) hX hH (rfl : gKinds[136]? = _) rfl rfl hl.1 rfl (Nat.le_of_ble_eq_true rfl) dL_law_1417 ⟨by show _ ≤ 601024; omega, by show _ ≤ 7293034; omega⟩ (fun H locs hH => ?_)
  refine lv_istore (lv' := [(6, .int (gI q1417.1)), (5, .int (gI q1405.1)), (0, .ref b), (1, .ref (G.1 0)), (2, .ref (G.1 136)), (3, .ref (G.1 147)), (4, .int (gI (4 * (j : Int))))]) hx hb dL_law_1420 hl (by decide) rfl (fun ls hl => ?_)
  refine lv_aload_n hx hb dL_law_1422 rfl (lv_at hl 4 rfl) ?_
  obtain ⟨q1423, e1423, h⟩ := gBind_some h
  refine g_callVi (k := 136) (T := TX9) (N := 19) (As := []) (rest := []) ⟨hx, hb, hml, hown, hts⟩ (metX9_thrown l D G q1417.2 q1405.2.2 q1423 e1423) (g_cwV (C := RX9) 0 hts q_ml_L_86 q_im_X9_thrown q_se_X9_thrown q_in_X9 q_co_X9_thrown ⟨rfl, rfl⟩ (by decide +kernel) ⟨Nat.le_of_ble_eq_true rfl, Nat.le_of_ble_eq_true rfl⟩) hX hH (rfl : gKinds[136]? = _) rfl rfl hl.1 rfl (Nat.le_of_ble_eq_true rfl) dL_law_1423 ⟨by show _ ≤ 601024; omega, by show _ ≤ 7293034; omega⟩ (fun H locs hH => ?_)
  refine lv_iload hx hb dL_law_1426 (lv_at hl 1 rfl) ?_
  refine g_icmp_eq (tgt := 1433) hx hb dL_law_1428 (by decide) h (fun h => ?_) (fun h => absurd h (fun z => by cases z))
  refine lv_iload hx hb dL_law_1433 (lv_at hl 1 rfl) ?_
  refine g_if_ne (tgt := 1450) hx hb dL_law_1435 (by decide) h (fun h => ?_) (fun h => ?_)
  · refine lv_goto (tgt := 1537) hx hb dL_law_1450 (by decide) ?_
    cases h
    exact kk _ _ _ hH (lv_sub hl [2, 3, 4, 5, 6] rfl)
  · refine lv_aload_n hx hb dL_law_1438 rfl (lv_at hl 5 rfl) ?_
    refine lv_iconst (v := gI (0 : Int)) hx hb dL_law_1439 (by decide) ?_
    refine g_lald hx hb hX hH (k := 147) (rfl : gKinds[147]? = _) dL_law_1440 ?_
    refine lv_iload hx hb dL_law_1441 (lv_at hl 0 rfl) ?_
    refine lv_i2l (v := (gI q1417.1).toInt64) hx hb dL_law_1443 rfl ?_
    have hcmp : (q1405.2.2 147) = ((gI q1417.1).toInt64) := (gEq_some h).1
    have h := (gEq_some h).2
    refine W.lcmp hx hb dL_law_1444 ?_
    have hc0 : lg_cmp (q1405.2.2 147) ((gI q1417.1).toInt64) = 0 := by rw [hcmp]; simp [lg_cmp]
    rw [hc0]
    refine lv_if_eq (tgt := 1450) hx hb dL_law_1445 (by decide) (fun _ => ?_) (fun z => absurd rfl z)
    refine lv_goto (tgt := 1537) hx hb dL_law_1450 (by decide) ?_
    cases h
    exact kk _ _ _ hH (lv_sub hl [2, 3, 4, 5, 6] rfl)
def DL_c23 (xs : Nat → Int32) (j : Nat) (σ : gSt) (μ : gLg) : Option (gSt × gLg) :=
  (DX8_clearText σ).bind fun q1454 => (DX9_clearText q1454.2).bind fun q1458 => gIf (q1454.1 = q1458.1) q1454.1 q1458.1 (some (q1458.2, μ)) none
set_option maxHeartbeats 4000000 in
set_option maxRecDepth 100000 in
theorem lawc_23 {p : Program} {l : Launch} {e : Env} {s : State} {m : MethodId} {below : List Frame} {meth : Method} {c : Code} {b L j : Nat} {xs : Nat → Int32} {D : va_G} {G : gAd} {Q : State → Prop} (hlt : l.stackTraces = false) (hx : p.tables.exec = Jvm.exec) (hb : c.code = cL_law) (hml : c.maxLocals = 9) (hown : s.vm.findClass RL = some m.cls) (hts : ∀ w ∈ gLW, w.before #[Value.ref b] s = true) (hX : gX D G s) (hXs : va_X b L xs s s.heap) (hbl : b < s.heap.size) (hbA : ¬ gA G b) (hL : L ≤ 2048) (hj : 4 * j + 4 ≤ L) {H : Heap} {locs : List Loc} {ls : Array Slot} {cells slots : Nat} (hc : cells ≤ 500 + 3 * j) (hs : slots ≤ 20000 + 18 * j) {σ σ' : gSt} {μ μ' : gLg} (hH : gH D G s H locs σ μ) (hl : lv_has ls 9 [(0, .ref b), (1, .ref (G.1 0)), (2, .ref (G.1 136)), (3, .ref (G.1 147)), (4, .int (gI (4 * (j : Int))))]) (h : DL_c23 xs j σ μ = some (σ', μ')) (kk : ∀ (H1 : Heap) (locs1 : List Loc) (ls1 : Array Slot), gH D G s H1 locs1 σ' μ' → lv_has ls1 9 [(0, .ref b), (1, .ref (G.1 0)), (2, .ref (G.1 136)), (3, .ref (G.1 147)), (4, .int (gI (4 * (j : Int))))] → W p l e room_1 s m #[Value.ref b] below meth c H1 locs1 (cells + 0) (slots + 0) Q (F0 m 1537 ls1 [])) : W p l e room_1 s m #[Value.ref b] below meth c H locs cells slots Q (F0 m 1453 ls []) := by
  unfold DL_c23 at h
  refine lv_aload_n hx hb dL_law_1453 rfl (lv_at hl 1 rfl) ?_
  obtain ⟨q1454, e1454, h⟩ := gBind_some h
  refine g_callVi (k := 0) (T := TX8) (N := 10) (As := []) (rest := []) ⟨hx, hb, hml, hown, hts⟩ (metX8_clearText l D G σ μ q1454.1 q1454.2 e1454) (g_cwV (C := RX8) 0 hts q_ml_L_163 q_im_X8_clearText q_se_X8_clearText q_in_X8 q_co_X8_clearText ⟨rfl, rfl⟩ (by decide +kernel) ⟨Nat.le_of_ble_eq_true rfl, Nat.le_of_ble_eq_true rfl⟩) hX hH (rfl : gKinds[0]? = _) rfl rfl hl.1 rfl (Nat.le_of_ble_eq_true rfl) dL_law_1454 ⟨by show _ ≤ 601024; omega, by show _ ≤ 7293034; omega⟩ (fun H locs hH => ?_)
  refine lv_aload_n hx hb dL_law_1457 rfl (lv_at hl 2 rfl) ?_
  obtain ⟨q1458, e1458, h⟩ := gBind_some h
  refine g_callVi (k := 136) (T := TX9) (N := 19) (As := []) (rest := [.int (gI q1454.1)]) ⟨hx, hb, hml, hown, hts⟩ (metX9_clearText l D G q1454.2 μ q1458.1 q1458.2 e1458) (g_cwV (C := RX9) 0 hts q_ml_L_166 q_im_X9_clearText q_se_X9_clearText q_in_X9 q_co_X9_clearText ⟨rfl, rfl⟩ (by decide +kernel) ⟨Nat.le_of_ble_eq_true rfl, Nat.le_of_ble_eq_true rfl⟩) hX hH (rfl : gKinds[136]? = _) rfl rfl hl.1 rfl (Nat.le_of_ble_eq_true rfl) dL_law_1458 ⟨by show _ ≤ 601024; omega, by show _ ≤ 7293034; omega⟩ (fun H locs hH => ?_)
  refine g_icmp_eq (tgt := 1537) hx hb dL_law_1461 (by decide) h (fun h => ?_) (fun h => absurd h (fun z => by cases z))
  cases h
  exact kk _ _ _ hH (lv_sub hl [0, 1, 2, 3, 4] rfl)
def DL_c24 (xs : Nat → Int32) (j : Nat) (σ : gSt) (μ : gLg) : Option (gSt × gLg) :=
  (DX8_parse σ).bind fun q1467 => (DX9_parse q1467.2).bind fun q1471 => gIf (q1467.1 = q1471.1) q1467.1 q1471.1 (some (q1471.2, μ)) none
set_option maxHeartbeats 4000000 in
set_option maxRecDepth 100000 in
theorem lawc_24 {p : Program} {l : Launch} {e : Env} {s : State} {m : MethodId} {below : List Frame} {meth : Method} {c : Code} {b L j : Nat} {xs : Nat → Int32} {D : va_G} {G : gAd} {Q : State → Prop} (hlt : l.stackTraces = false) (hx : p.tables.exec = Jvm.exec) (hb : c.code = cL_law) (hml : c.maxLocals = 9) (hown : s.vm.findClass RL = some m.cls) (hts : ∀ w ∈ gLW, w.before #[Value.ref b] s = true) (hX : gX D G s) (hXs : va_X b L xs s s.heap) (hbl : b < s.heap.size) (hbA : ¬ gA G b) (hL : L ≤ 2048) (hj : 4 * j + 4 ≤ L) {H : Heap} {locs : List Loc} {ls : Array Slot} {cells slots : Nat} (hc : cells ≤ 500 + 3 * j) (hs : slots ≤ 20000 + 18 * j) {σ σ' : gSt} {μ μ' : gLg} (hH : gH D G s H locs σ μ) (hl : lv_has ls 9 [(0, .ref b), (1, .ref (G.1 0)), (2, .ref (G.1 136)), (3, .ref (G.1 147)), (4, .int (gI (4 * (j : Int))))]) (h : DL_c24 xs j σ μ = some (σ', μ')) (kk : ∀ (H1 : Heap) (locs1 : List Loc) (ls1 : Array Slot), gH D G s H1 locs1 σ' μ' → lv_has ls1 9 [(0, .ref b), (1, .ref (G.1 0)), (2, .ref (G.1 136)), (3, .ref (G.1 147)), (4, .int (gI (4 * (j : Int))))] → W p l e room_1 s m #[Value.ref b] below meth c H1 locs1 (cells + 0) (slots + 0) Q (F0 m 1537 ls1 [])) : W p l e room_1 s m #[Value.ref b] below meth c H locs cells slots Q (F0 m 1466 ls []) := by
  unfold DL_c24 at h
  refine lv_aload_n hx hb dL_law_1466 rfl (lv_at hl 1 rfl) ?_
  obtain ⟨q1467, e1467, h⟩ := gBind_some h
  refine g_callVi (k := 0) (T := TX8) (N := 10) (As := []) (rest := []) ⟨hx, hb, hml, hown, hts⟩ (metX8_parse l D G σ μ q1467.1 q1467.2 e1467) (g_cwV (C := RX8) 0 hts q_ml_L_167 q_im_X8_parse q_se_X8_parse q_in_X8 q_co_X8_parse ⟨rfl, rfl⟩ (by decide +kernel) ⟨Nat.le_of_ble_eq_true rfl, Nat.le_of_ble_eq_true rfl⟩) hX hH (rfl : gKinds[0]? = _) rfl rfl hl.1 rfl (Nat.le_of_ble_eq_true rfl) dL_law_1467 ⟨by show _ ≤ 601024; omega, by show _ ≤ 7293034; omega⟩ (fun H locs hH => ?_)
  refine lv_aload_n hx hb dL_law_1470 rfl (lv_at hl 2 rfl) ?_
  obtain ⟨q1471, e1471, h⟩ := gBind_some h
  refine g_callVi (k := 136) (T := TX9) (N := 19) (As := []) (rest := [.int (gI q1467.1)]) ⟨hx, hb, hml, hown, hts⟩ (metX9_parse l D G q1467.2 μ q1471.1 q1471.2 e1471) (g_cwV (C := RX9) 0 hts q_ml_L_170 q_im_X9_parse q_se_X9_parse q_in_X9 q_co_X9_parse ⟨rfl, rfl⟩ (by decide +kernel) ⟨Nat.le_of_ble_eq_true rfl, Nat.le_of_ble_eq_true rfl⟩) hX hH (rfl : gKinds[136]? = _) rfl rfl hl.1 rfl (Nat.le_of_ble_eq_true rfl) dL_law_1471 ⟨by show _ ≤ 601024; omega, by show _ ≤ 7293034; omega⟩ (fun H locs hH => ?_)
  refine g_icmp_eq (tgt := 1537) hx hb dL_law_1474 (by decide) h (fun h => ?_) (fun h => absurd h (fun z => by cases z))
  cases h
  exact kk _ _ _ hH (lv_sub hl [0, 1, 2, 3, 4] rfl)
def DL_c25 (xs : Nat → Int32) (j : Nat) (σ : gSt) (μ : gLg) : Option (gSt × gLg) :=
  (gWrS (DX8_undo σ) [(2, 1)] σ μ).bind fun q1481 => (DX9_undo q1481.2.1).bind fun q1487 => (DX9_thrown q1487.2).bind fun q1493 => gIf (q1493 = q1481.1) q1493 q1481.1 (gIf (q1481.1 = 0) q1481.1 0 (gEq (q1481.2.2 147) ((gI q1487.1).toInt64) (some (q1487.2, q1481.2.2))) (some (q1487.2, q1481.2.2))) none
set_option maxHeartbeats 4000000 in
set_option maxRecDepth 100000 in
theorem lawc_25 {p : Program} {l : Launch} {e : Env} {s : State} {m : MethodId} {below : List Frame} {meth : Method} {c : Code} {b L j : Nat} {xs : Nat → Int32} {D : va_G} {G : gAd} {Q : State → Prop} (hlt : l.stackTraces = false) (hx : p.tables.exec = Jvm.exec) (hb : c.code = cL_law) (hml : c.maxLocals = 9) (hown : s.vm.findClass RL = some m.cls) (hts : ∀ w ∈ gLW, w.before #[Value.ref b] s = true) (hX : gX D G s) (hXs : va_X b L xs s s.heap) (hbl : b < s.heap.size) (hbA : ¬ gA G b) (hL : L ≤ 2048) (hj : 4 * j + 4 ≤ L) {H : Heap} {locs : List Loc} {ls : Array Slot} {cells slots : Nat} (hc : cells ≤ 500 + 3 * j) (hs : slots ≤ 20000 + 18 * j) {σ σ' : gSt} {μ μ' : gLg} (hH : gH D G s H locs σ μ) (hl : lv_has ls 9 [(0, .ref b), (1, .ref (G.1 0)), (2, .ref (G.1 136)), (3, .ref (G.1 147)), (4, .int (gI (4 * (j : Int))))]) (h : DL_c25 xs j σ μ = some (σ', μ')) (kk : ∀ (H1 : Heap) (locs1 : List Loc) (ls1 : Array Slot), gH D G s H1 locs1 σ' μ' → lv_has ls1 9 [(0, .ref b), (1, .ref (G.1 0)), (2, .ref (G.1 136)), (3, .ref (G.1 147)), (4, .int (gI (4 * (j : Int))))] → W p l e room_1 s m #[Value.ref b] below meth c H1 locs1 (cells + 1) (slots + 6) Q (F0 m 1537 ls1 [])) : W p l e room_1 s m #[Value.ref b] below meth c H locs cells slots Q (F0 m 1479 ls []) := by
  unfold DL_c25 at h
  refine lv_aload_n hx hb dL_law_1479 rfl (lv_at hl 1 rfl) ?_
  refine lv_aload_n hx hb dL_law_1480 rfl (lv_at hl 3 rfl) ?_
  obtain ⟨q1481, e1481, h⟩ := gBind_some h
  refine g_callWi (As := [.ref (G.1 0), .ref (G.1 147)]) (rest := []) ⟨hx, hb, hml, hown, hts⟩ (metL_undo l hlt D G σ μ q1481.1 q1481.2.1 q1481.2.2 e1481) (g_cwW 2 hts q_ml_L_171 q_st_L_undo q_in_L q_cw_L_undo ⟨rfl, rfl⟩ (by decide +kernel) ⟨Nat.le_of_ble_eq_true rfl, Nat.le_of_ble_eq_true rfl⟩) hX hH rfl hl.1 rfl (Nat.le_of_ble_eq_true rfl) dL_law_1481 ⟨by show _ ≤ 601024; omega, by show _ ≤ 7293034; omega⟩ (fun H locs hH => ?_)
  refine lv_istore (lv' := [(5, .int (gI q1481.1)), (0, .ref b), (1, .ref (G.1 0)), (2, .ref (G.1 136)), (3, .ref (G.1 147)), (4, .int (gI (4 * (j : Int))))]) hx hb dL_law_1484 hl (by decide) rfl (fun ls hl => ?_)
  refine lv_aload_n hx hb dL_law_1486 rfl (lv_at hl 3 rfl) ?_
  obtain ⟨q1487, e1487, h⟩ := gBind_some h
  refine g_callVi (k := 136) (T := TX9) (N := 19) (As := []) (rest := []) ⟨hx, hb, hml, hown, hts⟩ (metX9_undo l D G q1481.2.1 q1481.2.2 q1487.1 q1487.2 e1487) (g_cwV (C := RX9) 0 hts q_ml_L_174 q_im_X9_undo q_se_X9_undo q_in_X9 q_co_X9_undo ⟨rfl, rfl⟩ (by decide +kernel) ⟨Nat.le_of_ble_eq_true rfl, Nat.le_of_ble_eq_true rfl⟩) hX hH (rfl : gKinds[136]? = _) rfl rfl hl.1 rfl (Nat.le_of_ble_eq_true rfl) dL_law_1487 ⟨by show _ ≤ 601024; omega, by show _ ≤ 7293034; omega⟩ (fun H locs hH => ?_)
  refine lv_istore (lv' := [(6, .int (gI q1487.1)), (5, .int (gI q1481.1)), (0, .ref b), (1, .ref (G.1 0)), (2, .ref (G.1 136)), (3, .ref (G.1 147)), (4, .int (gI (4 * (j : Int))))]) hx hb dL_law_1490 hl (by decide) rfl (fun ls hl => ?_)
  refine lv_aload_n hx hb dL_law_1492 rfl (lv_at hl 4 rfl) ?_
  obtain ⟨q1493, e1493, h⟩ := gBind_some h
  refine g_callVi (k := 136) (T := TX9) (N := 19) (As := []) (rest := []) ⟨hx, hb, hml, hown, hts⟩ (metX9_thrown l D G q1487.2 q1481.2.2 q1493 e1493) (g_cwV (C := RX9) 0 hts q_ml_L_86 q_im_X9_thrown q_se_X9_thrown q_in_X9 q_co_X9_thrown ⟨rfl, rfl⟩ (by decide +kernel) ⟨Nat.le_of_ble_eq_true rfl, Nat.le_of_ble_eq_true rfl⟩) hX hH (rfl : gKinds[136]? = _) rfl rfl hl.1 rfl (Nat.le_of_ble_eq_true rfl) dL_law_1493 ⟨by show _ ≤ 601024; omega, by show _ ≤ 7293034; omega⟩ (fun H locs hH => ?_)
  refine lv_iload hx hb dL_law_1496 (lv_at hl 1 rfl) ?_
  refine g_icmp_eq (tgt := 1503) hx hb dL_law_1498 (by decide) h (fun h => ?_) (fun h => absurd h (fun z => by cases z))
  refine lv_iload hx hb dL_law_1503 (lv_at hl 1 rfl) ?_
  refine g_if_ne (tgt := 1520) hx hb dL_law_1505 (by decide) h (fun h => ?_) (fun h => ?_)
  · refine lv_goto (tgt := 1537) hx hb dL_law_1520 (by decide) ?_
    cases h
    exact kk _ _ _ hH (lv_sub hl [2, 3, 4, 5, 6] rfl)
  · refine lv_aload_n hx hb dL_law_1508 rfl (lv_at hl 5 rfl) ?_
    refine lv_iconst (v := gI (0 : Int)) hx hb dL_law_1509 (by decide) ?_
    refine g_lald hx hb hX hH (k := 147) (rfl : gKinds[147]? = _) dL_law_1510 ?_
    refine lv_iload hx hb dL_law_1511 (lv_at hl 0 rfl) ?_
    refine lv_i2l (v := (gI q1487.1).toInt64) hx hb dL_law_1513 rfl ?_
    have hcmp : (q1481.2.2 147) = ((gI q1487.1).toInt64) := (gEq_some h).1
    have h := (gEq_some h).2
    refine W.lcmp hx hb dL_law_1514 ?_
    have hc0 : lg_cmp (q1481.2.2 147) ((gI q1487.1).toInt64) = 0 := by rw [hcmp]; simp [lg_cmp]
    rw [hc0]
    refine lv_if_eq (tgt := 1520) hx hb dL_law_1515 (by decide) (fun _ => ?_) (fun z => absurd rfl z)
    refine lv_goto (tgt := 1537) hx hb dL_law_1520 (by decide) ?_
    cases h
    exact kk _ _ _ hH (lv_sub hl [2, 3, 4, 5, 6] rfl)
def DL_c26 (xs : Nat → Int32) (j : Nat) (σ : gSt) (μ : gLg) : Option (gSt × gLg) :=
  (DX8_digest σ).bind fun q1524 => (DX9_digest q1524.2 μ).bind fun q1528 => gEq q1524.1 q1528.1 (some (q1528.2.1, q1528.2.2))
set_option maxHeartbeats 4000000 in
set_option maxRecDepth 100000 in
theorem lawc_26 {p : Program} {l : Launch} {e : Env} {s : State} {m : MethodId} {below : List Frame} {meth : Method} {c : Code} {b L j : Nat} {xs : Nat → Int32} {D : va_G} {G : gAd} {Q : State → Prop} (hlt : l.stackTraces = false) (hx : p.tables.exec = Jvm.exec) (hb : c.code = cL_law) (hml : c.maxLocals = 9) (hown : s.vm.findClass RL = some m.cls) (hts : ∀ w ∈ gLW, w.before #[Value.ref b] s = true) (hX : gX D G s) (hXs : va_X b L xs s s.heap) (hbl : b < s.heap.size) (hbA : ¬ gA G b) (hL : L ≤ 2048) (hj : 4 * j + 4 ≤ L) {H : Heap} {locs : List Loc} {ls : Array Slot} {cells slots : Nat} (hc : cells ≤ 500 + 3 * j) (hs : slots ≤ 20000 + 18 * j) {σ σ' : gSt} {μ μ' : gLg} (hH : gH D G s H locs σ μ) (hl : lv_has ls 9 [(0, .ref b), (1, .ref (G.1 0)), (2, .ref (G.1 136)), (3, .ref (G.1 147)), (4, .int (gI (4 * (j : Int))))]) (h : DL_c26 xs j σ μ = some (σ', μ')) (kk : ∀ (H1 : Heap) (locs1 : List Loc) (ls1 : Array Slot), gH D G s H1 locs1 σ' μ' → lv_has ls1 9 [(0, .ref b), (1, .ref (G.1 0)), (2, .ref (G.1 136)), (3, .ref (G.1 147)), (4, .int (gI (4 * (j : Int))))] → W p l e room_1 s m #[Value.ref b] below meth c H1 locs1 (cells + 0) (slots + 0) Q (F0 m 1537 ls1 [])) : W p l e room_1 s m #[Value.ref b] below meth c H locs cells slots Q (F0 m 1523 ls []) := by
  unfold DL_c26 at h
  refine lv_aload_n hx hb dL_law_1523 rfl (lv_at hl 1 rfl) ?_
  obtain ⟨q1524, e1524, h⟩ := gBind_some h
  refine g_callVl (k := 0) (T := TX8) (N := 10) (As := []) (rest := []) ⟨hx, hb, hml, hown, hts⟩ (metX8_digest l D G σ μ q1524.1 q1524.2 e1524) (g_cwV (C := RX8) 0 hts q_ml_L_175 q_im_X8_digest q_se_X8_digest q_in_X8 q_co_X8_digest ⟨rfl, rfl⟩ (by decide +kernel) ⟨Nat.le_of_ble_eq_true rfl, Nat.le_of_ble_eq_true rfl⟩) hX hH (rfl : gKinds[0]? = _) rfl rfl hl.1 rfl (Nat.le_of_ble_eq_true rfl) dL_law_1524 ⟨by show _ ≤ 601024; omega, by show _ ≤ 7293034; omega⟩ (fun H locs hH => ?_)
  refine lv_aload_n hx hb dL_law_1527 rfl (lv_at hl 2 rfl) ?_
  obtain ⟨q1528, e1528, h⟩ := gBind_some h
  refine g_callVl (k := 136) (T := TX9) (N := 19) (As := []) (rest := [.long q1524.1]) ⟨hx, hb, hml, hown, hts⟩ (metX9_digest l D G q1524.2 μ q1528.1 q1528.2.1 q1528.2.2 e1528) (g_cwV (C := RX9) 0 hts q_ml_L_179 q_im_X9_digest q_se_X9_digest q_in_X9 q_co_X9_digest ⟨rfl, rfl⟩ (by decide +kernel) ⟨Nat.le_of_ble_eq_true rfl, Nat.le_of_ble_eq_true rfl⟩) hX hH (rfl : gKinds[136]? = _) rfl rfl hl.1 rfl (Nat.le_of_ble_eq_true rfl) dL_law_1528 ⟨by show _ ≤ 601024; omega, by show _ ≤ 7293034; omega⟩ (fun H locs hH => ?_)
  have hcmp : q1524.1 = q1528.1 := (gEq_some h).1
  have h := (gEq_some h).2
  refine W.lcmp hx hb dL_law_1531 ?_
  have hc0 : lg_cmp q1524.1 q1528.1 = 0 := by rw [hcmp]; simp [lg_cmp]
  rw [hc0]
  refine lv_if_eq (tgt := 1537) hx hb dL_law_1532 (by decide) (fun _ => ?_) (fun z => absurd rfl z)
  cases h
  exact kk _ _ _ hH (lv_sub hl [0, 1, 2, 3, 4] rfl)
