/-! THE CLAIM OUT OF ONE WALK OF THE LAW'S BODY. Your part is whole_start (and what it stands on); all else here is the same for every law, but numbers. -/
def R_law : String := "TaskSheetsLaw"
def lw_P (b : Addr) (xs : List Int32) (args : Array Value) (s : State) : Prop := args = #[.ref b] ∧ s.IntsAt b xs ∧ xs.length ≤ 260 ∧ (Jvm.Cond.and given_1 narrow_1).before args s = true
def lw_Q (_ : Array Value) (s : State) (o : Outcome) (t : State) : Prop := o = .returned (some (.int 1)) ∧ Framed s o t [] 1061592 5916693
def lw_Z (below : List Frame) (a : Array Value) (s : State) : State → Prop := fun t => ∃ o, t.status = .running ∧ Ended t below o ∧ lw_Q a s o t
/-- the law's own end, with 1 on the stack, nothing written that was there before, its room as the claim has it -/
theorem lw_ret {p : Program} {l : Launch} {e : Env} {s : State} {m : MethodId} {below : List Frame} {meth : Method} {c : Code} {b : Nat} (hx : p.tables.exec = Jvm.exec) (hb : c.code = code) (hr : meth.sig.returnType = ret) (hlocks : meth.locks = false) {pc : Nat} {H : Heap} {ls : Array Slot} (hdg : decode code pc = .ok (.ireturn, 1)) : W p l e room_1 s m #[Value.ref b] below meth c H [] 1061592 5916693 (lw_Z below #[Value.ref b] s) (F0 m pc ls [.int 1]) := by
  intro T hT X
  obtain ⟨fs, hret, hrun, hended, hW, hframe⟩ := X.leave (v := some (.int 1)) (hlocks := hlocks) (fun h => by rw [hr] at h; cases h)
  have hmeth' : T.vm.method? m = some meth := X.method'
  refine ⟨T.setFrames fs, ?_, .returned (some (.int 1)), hrun, hended, rfl, ⟨_, rfl⟩, hW, hframe⟩
  jvm_step X.here [X.here.top, hx, hb, hdg, hmeth', hr, ret, narrow_b1]
  (try refine ⟨rfl, ?_⟩); (try refine ⟨rfl, ?_⟩)
  first | (intro acts; rw [hret _ acts rfl rfl rfl]) | rw [hret _ _ rfl rfl rfl]
  exact Steps.refl _
/-- what holds at the law's entry: the machine, the code, the tables' words (any of lw_tbl by 'hts w (by decide +kernel)'), the script of L ints xs at the cell b, what the Statement gives of the start (any of its parts by flat_of_before) -/
def lw_At (p : Program) (s : State) (m : MethodId) (meth : Method) (c : Code) (b L : Nat) (xs : Nat → Int32) : Prop :=
  p.tables.exec = Jvm.exec ∧ c.code = code ∧ meth.sig.returnType = ret ∧ c.maxLocals = 10 ∧ s.vm.findClass R_law = some m.cls ∧ (∀ w ∈ lw_tbl, w.before #[Value.ref b] s = true) ∧ va_X b L xs s s.heap ∧ b < s.heap.size ∧ meth.locks = false ∧ (Jvm.Cond.and given_1 narrow_1).before #[Value.ref b] s = true
/-- the script's numbers, as 'cell' gives them -/
def gXor (x y : Int) : Int := ((gI x) ^^^ (gI y)).toInt
def gCell (xs : Nat → Int32) (L : Nat) (k : Int) : Int := if k < (L : Int) then (xs k.toNat).toInt else 40503 * (k + 3)
def gPs (D : va_G) (G : gAd) (b L : Nat) (xs : Nat → Int32) (vs : List Value) (σ : gSt) (μ : gLg) : Array Value → State → Prop := va_Pc vs (fun U => va_P D vwCl (gW G σ μ) U.heap ∧ gX D G U ∧ va_X b L xs U U.heap ∧ b < U.heap.size ∧ ¬ gA G b)
theorem gPs_blind {D : va_G} {G : gAd} {b L : Nat} {xs : Nat → Int32} {vs : List Value} {σ : gSt} {μ : gLg} : FrameBlind (gPs D G b L xs vs σ μ) := by
  intro a U g mk h
  exact ⟨h.1, h.2.1, h.2.2.1.calling g mk a, va_X.moved (u := U) (U := U.calling g mk a) (Vm.Alike.refl U.vm) h.2.2.2.1, h.2.2.2.2.1, h.2.2.2.2.2⟩
set_option maxHeartbeats 4000000 in
set_option maxRecDepth 100000 in
theorem metL_cell (l : Launch) (D : va_G) (G : gAd) {b L : Nat} {xs : Nat → Int32} (σ : gSt) (μ : gLg) {k : Int} (hk : 0 ≤ k ∧ k ≤ 1000) (hL : L ≤ 260) : Met l yL_cell (gWs yL_cell cL_cell 2 (some (Jvm.ClassFile.FieldType.int))) ({ frames := 0, cells := 0, slots := 0, locals := 0 } : Room) (gPs D G b L xs [.ref b, .int (gI k)] σ μ) (gQi D G (gCell xs L k) σ μ) 0 0 (gA G) := by
  refine Met.ofW (cc := cL_cell) (maxL := 2) (ret := (some (Jvm.ClassFile.FieldType.int))) (by decide) rfl ?_
  intro p e s m args below meth c s₁ B hml hv
  obtain ⟨rfl, hP, hX, hXs, hbl, hbA⟩ := hv
  have hx := B.exec
  have hb0 := B.bytes
  have hr := B.returns
  have hts0 := atoms_spec (ws := (gWs yL_cell cL_cell 2 (some (Jvm.ClassFile.FieldType.int)))) B.pre
  have hts : ∀ w ∈ gLW, w.before _ s = true := fun w hw => hts0 w (List.mem_cons_of_mem _ hw)
  have hown : s.vm.findClass RL = some m.cls := findClass_of_methodNamed B.named
  have hlocks := B.notSynchronized
  have hH : gH D G s s.heap [] σ μ := ⟨hP, va_S.rf⟩
  have hl := lv_entry ([.ref b, .int (gI k)]) (n := 2) (Nat.le_of_ble_eq_true rfl)
  rw [lg_entry_eq]
  generalize (lg_sl ([.ref b, .int (gI k)]) ++ List.replicate (2 - (lg_sl ([.ref b, .int (gI k)])).length) Slot.unset).toArray = ls at hl ⊢
  have hl : lv_has ls 2 [(0, .ref b), (1, .int (gI k))] := hl
  have hkr : gR k := ⟨by omega, by omega⟩
  have hLr : gR (L : Int) := ⟨by omega, by omega⟩
  refine lv_iload_n hx hb0 dL_cell_0 rfl (lv_at hl 1 rfl) ?_
  refine lv_aload_n hx hb0 dL_cell_1 rfl (lv_at hl 0 rfl) ?_
  refine va_slen hx hb0 hXs hbl hbA hH.2 dL_cell_2 ?_
  rw [gI_nat]
  refine lv_icmp_ge (tgt := 12) hx hb0 dL_cell_3 (by decide) (fun c1 => ?_) (fun c1 => ?_)
  · rw [gI_le hLr hkr] at c1
    refine lv_ldc (v := gI (40503 : Int)) hx hb0 hown (hts _ q_ki_L_7) dL_cell_12 ?_
    refine lv_iload_n hx hb0 dL_cell_14 rfl (lv_at hl 1 rfl) ?_
    refine lv_iconst (v := gI (3 : Int)) hx hb0 dL_cell_15 (by decide) ?_
    refine g_iadd hx hb0 dL_cell_16 ?_
    refine g_imul hx hb0 dL_cell_17 ?_
    have e : gCell xs L k = 40503 * (k + 3) := if_neg (by omega)
    rw [e]
    exact g_iret hx hb0 hr hH hlocks dL_cell_18
  · rw [gI_le hLr hkr] at c1
    refine lv_aload_n hx hb0 dL_cell_6 rfl (lv_at hl 0 rfl) ?_
    refine lv_iload_n hx hb0 dL_cell_7 rfl (lv_at hl 1 rfl) ?_
    refine va_sld hx hb0 hXs hbl hbA hH.2 (gI_in hk.1 (by omega) (by omega)) dL_cell_8 ?_
    rw [gI_c hk.1 hkr, gI_x (xs (Int.toNat k))]
    refine lv_goto (tgt := 18) hx hb0 dL_cell_9 (by decide) ?_
    have e : gCell xs L k = (xs (Int.toNat k)).toInt := if_pos (by omega)
    rw [e]
    exact g_iret hx hb0 hr hH hlocks dL_cell_18
section GT1
variable {p : Program} {l : Launch} {e : Env} {R : Room} {s : State} {m : MethodId} {args : Array Value} {below : List Frame} {meth : Method} {c : Code} {H : Heap} {locs : List Loc} {cells slots : Nat} {Q : State → Prop}
variable {cc : ByteArray} {pc : Nat} {ls : Array Slot} {rest : List Value} {D : va_G} {G : gAd} {σ : gSt} {μ : gLg}
theorem g_ixor (hexec : p.tables.exec = Jvm.exec) (hb : c.code = cc) {x y : Int} (hdg : decode cc pc = .ok (.ixor, 1)) (k : W p l e R s m args below meth c H locs cells slots Q (F0 m (pc + 1) ls (.int (gI (gXor x y)) :: rest))) : W p l e R s m args below meth c H locs cells slots Q (F0 m pc ls (.int (gI y) :: .int (gI x) :: rest)) :=
  lv_ixor hexec hb hdg (by rw [gI_x (gI x ^^^ gI y)]; exact k)
theorem g_callCell {nL index b L : Nat} {xs : Nat → Int32} {own : String} {Ts : List Cond} {k : Int} (S : CallFix p m c cc nL s args Ts own) (cw : CallB R s args own index yL_cell cL_cell 2 (some (Jvm.ClassFile.FieldType.int)) (gWs yL_cell cL_cell 2 (some (Jvm.ClassFile.FieldType.int))) ({ frames := 0, cells := 0, slots := 0, locals := 0 } : Room) 0 0 2 ∧ (Cond.static yL_cell).before args s = true) (hX : gX D G s) (hXs : va_X b L xs s s.heap) (hbl : b < s.heap.size) (hbA : ¬ gA G b) (hL : L ≤ 260) (hH : gH D G s H locs σ μ) (hk : 0 ≤ k ∧ k ≤ 1000) (hsize : ls.size = nL) (hW : (rest.map fun v => v.category).sum ≤ 8) (hdg : decode cc pc = .ok (.invokestatic index, 3)) (hf : cells ≤ R.cells ∧ slots ≤ R.slots)
    (kk : ∀ (H1 : Heap) (locs1 : List Loc), gH D G s H1 locs1 σ μ → W p l e R s m args below meth c H1 locs1 cells slots Q (F0 m (pc + 3) ls (.int (gI (gCell xs L k)) :: rest))) : W p l e R s m args below meth c H locs cells slots Q (F0 m pc ls (.int (gI k) :: .ref b :: rest)) := by
  refine va_calli (mc := 0) (ms := 0) (free := gA G) (A0 := gA G) (A1 := gA G) (va_runS (As := [.ref b, .int (gI k)]) (rest := rest) S (metL_cell l D G (b := b) (L := L) (xs := xs) σ μ hk hL) cw ⟨gPs_blind, fun U hU hW2 => ⟨rfl, by rw [hU]; exact hH.1, hX.go hH.2 hU hW2, (hXs.moved hW2.alike).kept (by rw [hU]; exact hH.2.2.1 b hbl hbA), by rw [hU]; exact Nat.lt_of_lt_of_le hbl hH.2.1, hbA⟩⟩ rfl rfl hsize rfl (lv_room hW) hdg hf) hH.2 (fun q _ h => h) (fun q h => h) (fun r0 u t H1 locs1 ht hvm hp hB hz hq hS => ?_)
  have hB2 : va_P D vwCl (gW G σ μ) t.heap := hB
  rw [ht] at hB2
  subst hp
  exact kk H1 locs1 ⟨hB2, hS⟩
end GT1
abbrev gLocs (G : gAd) (b : Nat) (T k : Int) : List (Nat × Value) := [(0, .ref b), (1, .ref (G.1 0)), (2, .ref (G.1 136)), (3, .ref (G.1 137)), (4, .ref (G.1 138)), (5, .ref (G.1 139)), (6, .ref (G.1 140)), (7, .int (gI (1 : Int))), (8, .int (gI T)), (9, .int (gI k))]
set_option maxHeartbeats 4000000 in
set_option maxRecDepth 100000 in
theorem law_end {p : Program} {l : Launch} {e : Env} {s : State} {m : MethodId} {below : List Frame} {meth : Method} {c : Code} {b L : Nat} {xs : Nat → Int32} {D : va_G} {G : gAd} {μ : gLg} (hr : meth.sig.returnType = ret) (hlocks : meth.locks = false) (hlt : l.stackTraces = false) (hx : p.tables.exec = Jvm.exec) (hb : c.code = cL_law) (hml : c.maxLocals = 10) (hown : s.vm.findClass RL = some m.cls) (hts : ∀ w ∈ gLW, w.before #[Value.ref b] s = true) (hX : gX D G s) (hXs : va_X b L xs s s.heap) (hbl : b < s.heap.size) (hbA : ¬ gA G b) (hL : L ≤ 260) (hA : ∀ q, gA G q → s.heap.size ≤ q) {H : Heap} {locs : List Loc} {ls : Array Slot} {cells slots : Nat} {σ : gSt} {T k : Int} (hc : cells ≤ 400000) (hs : slots ≤ 3000000) (hH : gH D G s H locs σ μ) (hl : lv_has ls 10 (gLocs G b T k)) (hI : pvInv σ) : W p l e room_1 s m #[Value.ref b] below meth c H locs cells slots (lw_Z below #[Value.ref b] s) (F0 m 149 ls []) := by
  obtain ⟨⟨r, τ⟩, e1, h1, h2⟩ := pv_isSo hI
  have h1 : r = 1 := h1
  have h2 : pvInv τ := h2
  subst h1
  obtain ⟨s9, l9, ho, hV, hC, hT, hA9, hl9, hE9, hW9⟩ := h2
  refine lv_iload hx hb dL_law_149 (lv_at hl 7 rfl) ?_
  refine lv_if_eq (tgt := 199) hx hb dL_law_151 (by decide) (fun c1 => absurd c1 (by decide +kernel)) (fun _ => ?_)
  refine lv_aload_n hx hb dL_law_154 rfl (lv_at hl 1 rfl) ?_
  refine lv_aload_n hx hb dL_law_155 rfl (lv_at hl 2 rfl) ?_
  refine lv_aload_n hx hb dL_law_156 rfl (lv_at hl 3 rfl) ?_
  refine lv_aload hx hb dL_law_157 (lv_at hl 4 rfl) ?_
  refine lv_aload hx hb dL_law_159 (lv_at hl 5 rfl) ?_
  refine lv_aload hx hb dL_law_161 (lv_at hl 6 rfl) ?_
  refine g_callAi (As := [.ref (G.1 0), .ref (G.1 136), .ref (G.1 137), .ref (G.1 138), .ref (G.1 139), .ref (G.1 140)]) (rest := []) ⟨hx, hb, hml, hown, hts⟩ (metL_isSo l hlt D G σ μ 1 τ e1) (g_cwA 6 hts q_ml_L_146 q_st_L_isSo q_in_L q_co_L_isSo ⟨rfl, rfl⟩ (by decide +kernel) ⟨Nat.le_of_ble_eq_true rfl, Nat.le_of_ble_eq_true rfl⟩) hX hH rfl hl.1 rfl (Nat.le_of_ble_eq_true rfl) dL_law_163 ⟨by show _ ≤ 1061592; omega, by show _ ≤ 5916693; omega⟩ (fun H locs hH => ?_)
  refine lv_if_eq (tgt := 199) hx hb dL_law_166 (by decide) (fun c1 => absurd c1 (by decide +kernel)) (fun _ => ?_)
  refine lv_aload_n hx hb dL_law_169 rfl (lv_at hl 1 rfl) ?_
  refine lv_aload_n hx hb dL_law_170 rfl (lv_at hl 2 rfl) ?_
  refine lv_iconst (v := gI (4 : Int)) hx hb dL_law_171 (by decide) ?_
  refine g_iald (α := Unit) (a := some ()) (r := ()) hx hb hX hH (k := 136) (rfl : gKinds[136]? = _) (by decide) dL_law_172 (pu_gat (by decide) (by decide)) (fun _ => ?_)
  rw [show τ 136 (Int.toNat (4 : Int)) = s9 4 from hT.2.1]
  refine lv_iconst (v := gI (0 : Int)) hx hb dL_law_173 (by decide) ?_
  refine g_callWi (As := [.ref (G.1 0), .int (gI (s9 4)), .int (gI (0 : Int))]) (rest := []) ⟨hx, hb, hml, hown, hts⟩ (metL_taskOf l hlt D G τ μ (s9 4) 0 (-100001) (pv_taskX ho hV)) (g_cwW 3 hts q_ml_L_122 q_st_L_taskOf q_in_L q_cw_L_taskOf ⟨rfl, rfl⟩ (by decide +kernel) ⟨Nat.le_of_ble_eq_true rfl, Nat.le_of_ble_eq_true rfl⟩) hX hH rfl hl.1 rfl (Nat.le_of_ble_eq_true rfl) dL_law_174 ⟨by show _ ≤ 1061592; omega, by show _ ≤ 5916693; omega⟩ (fun H locs hH => ?_)
  refine lv_ldc (v := gI (-100001 : Int)) hx hb hown (hts _ q_ki_L_46) dL_law_177 ?_
  refine lv_icmp_ne (tgt := 199) hx hb dL_law_179 (by decide) (fun c1 => absurd rfl c1) (fun _ => ?_)
  refine lv_aload_n hx hb dL_law_182 rfl (lv_at hl 1 rfl) ?_
  refine lv_aload_n hx hb dL_law_183 rfl (lv_at hl 2 rfl) ?_
  refine lv_iconst (v := gI (5 : Int)) hx hb dL_law_184 (by decide) ?_
  refine g_iald (α := Unit) (a := some ()) (r := ()) hx hb hX hH (k := 136) (rfl : gKinds[136]? = _) (by decide) dL_law_185 (pu_gat (by decide) (by decide)) (fun _ => ?_)
  rw [show τ 136 (Int.toNat (5 : Int)) = s9 77 from (hW9.1.trans hA9.1.symm)]
  refine lv_iconst (v := gI (0 : Int)) hx hb dL_law_186 (by decide) ?_
  refine g_callWi (As := [.ref (G.1 0), .int (gI (s9 77)), .int (gI (0 : Int))]) (rest := []) ⟨hx, hb, hml, hown, hts⟩ (metL_arrowBy l hlt D G τ μ (s9 77) 0 (-100001) (pv_arrowX ho hV)) (g_cwW 3 hts q_ml_L_158 q_st_L_arrowBy q_in_L q_cw_L_arrowBy ⟨rfl, rfl⟩ (by decide +kernel) ⟨Nat.le_of_ble_eq_true rfl, Nat.le_of_ble_eq_true rfl⟩) hX hH rfl hl.1 rfl (Nat.le_of_ble_eq_true rfl) dL_law_187 ⟨by show _ ≤ 1061592; omega, by show _ ≤ 5916693; omega⟩ (fun H locs hH => ?_)
  refine lv_ldc (v := gI (-100001 : Int)) hx hb hown (hts _ q_ki_L_46) dL_law_190 ?_
  refine lv_icmp_ne (tgt := 199) hx hb dL_law_192 (by decide) (fun c1 => absurd rfl c1) (fun _ => ?_)
  refine lv_iconst (v := gI (1 : Int)) hx hb dL_law_195 (by decide) ?_
  refine lv_goto (tgt := 200) hx hb dL_law_196 (by decide) ?_
  refine va_forget (fun q hq => hA _ (hH.2.2.2 q hq)) ?_
  refine W.widen (k := 1061592) (n := 5916693) (by omega) (by omega) ?_
  exact lw_ret hx hb hr hlocks dL_law_200
set_option maxHeartbeats 4000000 in
set_option maxRecDepth 100000 in
theorem law_turns {p : Program} {l : Launch} {e : Env} {s : State} {m : MethodId} {below : List Frame} {meth : Method} {c : Code} {b L : Nat} {xs : Nat → Int32} {D : va_G} {G : gAd} {μ : gLg} (hr : meth.sig.returnType = ret) (hlocks : meth.locks = false) (hlt : l.stackTraces = false) (hx : p.tables.exec = Jvm.exec) (hb : c.code = cL_law) (hml : c.maxLocals = 10) (hown : s.vm.findClass RL = some m.cls) (hts : ∀ w ∈ gLW, w.before #[Value.ref b] s = true) (hX : gX D G s) (hXs : va_X b L xs s s.heap) (hbl : b < s.heap.size) (hbA : ¬ gA G b) (hL : L ≤ 260) (hA : ∀ q, gA G q → s.heap.size ≤ q) {T : Int} (hTr : 0 ≤ T ∧ T ≤ 70) : ∀ (f k : Nat) (H : Heap) (locs : List Loc) (ls : Array Slot) (cells slots : Nat) (σ : gSt), 72 - k < f → k ≤ 71 → cells ≤ 5000 + 2804 * k → slots ≤ 30000 + 16842 * k → gH D G s H locs σ μ → lv_has ls 10 (gLocs G b T (k : Int)) → pvInv σ → W p l e room_1 s m #[Value.ref b] below meth c H locs cells slots (lw_Z below #[Value.ref b] s) (F0 m 72 ls []) := by
  intro f
  induction f with
  | zero => intro k H locs ls cells slots σ h h2; omega
  | succ f ih =>
    intro k H locs ls cells slots σ hf hk hc hs hH hl hI
    refine lv_iload hx hb dL_law_72 (lv_at hl 9 rfl) ?_
    refine lv_iload hx hb dL_law_74 (lv_at hl 8 rfl) ?_
    refine lv_icmp_ge (tgt := 149) hx hb dL_law_76 (by decide) (fun c1 => ?_) (fun c1 => ?_)
    · exact law_end hr hlocks hlt hx hb hml hown hts hX hXs hbl hbA hL hA (by omega) (by omega) hH hl hI
    · rw [gI_le ⟨by omega, by omega⟩ ⟨by omega, by omega⟩] at c1
      refine lv_iload hx hb dL_law_79 (lv_at hl 7 rfl) ?_
      refine lv_if_eq (tgt := 149) hx hb dL_law_81 (by decide) (fun c1 => absurd c1 (by decide +kernel)) (fun _ => ?_)
      refine lv_aload_n hx hb dL_law_84 rfl (lv_at hl 1 rfl) ?_
      refine lv_aload_n hx hb dL_law_85 rfl (lv_at hl 2 rfl) ?_
      refine lv_aload_n hx hb dL_law_86 rfl (lv_at hl 3 rfl) ?_
      refine lv_aload hx hb dL_law_87 (lv_at hl 4 rfl) ?_
      refine lv_aload hx hb dL_law_89 (lv_at hl 5 rfl) ?_
      refine lv_aload hx hb dL_law_91 (lv_at hl 6 rfl) ?_
      refine lv_aload_n hx hb dL_law_93 rfl (lv_at hl 0 rfl) ?_
      refine lv_iconst (v := gI (1 : Int)) hx hb dL_law_94 (by decide) ?_
      refine lv_iload hx hb dL_law_95 (lv_at hl 9 rfl) ?_
      refine g_iadd hx hb dL_law_97 ?_
      refine g_callCell (k := (1 + (k : Int))) (rest := [.ref (G.1 140), .ref (G.1 139), .ref (G.1 138), .ref (G.1 137), .ref (G.1 136), .ref (G.1 0)]) ⟨hx, hb, hml, hown, hts⟩ (g_cwS 2 hts q_ml_L_150 q_st_L_cell q_in_L q_co_L_cell ⟨rfl, rfl⟩ (by decide +kernel) ⟨Nat.le_of_ble_eq_true rfl, Nat.le_of_ble_eq_true rfl⟩) hX hXs hbl hbA hL hH ⟨by omega, by omega⟩ hl.1 (Nat.le_of_ble_eq_true rfl) dL_law_98 ⟨by show _ ≤ 1061592; omega, by show _ ≤ 5916693; omega⟩ (fun H locs hH => ?_)
      refine lv_sipush (v := gI (7919 : Int)) hx hb dL_law_101 (by decide) ?_
      refine lv_iload hx hb dL_law_104 (lv_at hl 9 rfl) ?_
      refine g_imul hx hb dL_law_106 ?_
      refine g_ixor hx hb dL_law_107 ?_
      obtain ⟨⟨r, τ⟩, e1, h1, h2⟩ := pv_acts hI (gXor (gCell xs L (1 + (k : Int))) ((7919 : Int) * (k : Int)))
      have h1 : r = 1 := h1
      have h2 : pvInv τ := h2
      subst h1
      refine g_callAi (As := [.ref (G.1 0), .ref (G.1 136), .ref (G.1 137), .ref (G.1 138), .ref (G.1 139), .ref (G.1 140), .int (gI (gXor (gCell xs L (1 + (k : Int))) ((7919 : Int) * (k : Int))))]) (rest := []) ⟨hx, hb, hml, hown, hts⟩ (metL_acts l hlt D G σ μ (gXor (gCell xs L (1 + (k : Int))) ((7919 : Int) * (k : Int))) 1 τ e1) (g_cwA 7 hts q_ml_L_154 q_st_L_acts q_in_L q_co_L_acts ⟨rfl, rfl⟩ (by decide +kernel) ⟨Nat.le_of_ble_eq_true rfl, Nat.le_of_ble_eq_true rfl⟩) hX hH rfl hl.1 rfl (Nat.le_of_ble_eq_true rfl) dL_law_108 ⟨by show _ ≤ 1061592; omega, by show _ ≤ 5916693; omega⟩ (fun H locs hH => ?_)
      refine lv_if_eq (tgt := 140) hx hb dL_law_111 (by decide) (fun c1 => absurd c1 (by decide +kernel)) (fun _ => ?_)
      have hJ : ∀ (H : Heap) (locs : List Loc) (ls : Array Slot) (cells1 slots1 : Nat) (τ1 : gSt), cells1 ≤ 5000 + 2804 * (k + 1) → slots1 ≤ 30000 + 16842 * (k + 1) → gH D G s H locs τ1 μ → lv_has ls 10 (gLocs G b T (k : Int)) → pvInv τ1 → W p l e room_1 s m #[Value.ref b] below meth c H locs cells1 slots1 (lw_Z below #[Value.ref b] s) (F0 m 136 ls []) := by
        intro H locs ls cells1 slots1 τ1 hc1 hs1 hH hl hI1
        refine lv_iconst (v := gI (1 : Int)) hx hb dL_law_136 (by decide) ?_
        refine lv_goto (tgt := 141) hx hb dL_law_137 (by decide) ?_
        refine lv_istore (lv' := [(7, .int (gI (1 : Int))), (0, .ref b), (1, .ref (G.1 0)), (2, .ref (G.1 136)), (3, .ref (G.1 137)), (4, .ref (G.1 138)), (5, .ref (G.1 139)), (6, .ref (G.1 140)), (8, .int (gI T)), (9, .int (gI (k : Int)))]) hx hb dL_law_141 hl (by decide) rfl (fun ls hl => ?_)
        refine g_iinc (k := 9) (n := (1 : Int)) (lv' := [(9, .int (gI ((k : Int) + 1))), (7, .int (gI (1 : Int))), (0, .ref b), (1, .ref (G.1 0)), (2, .ref (G.1 136)), (3, .ref (G.1 137)), (4, .ref (G.1 138)), (5, .ref (G.1 139)), (6, .ref (G.1 140)), (8, .int (gI T))]) hx hb dL_law_143 hl rfl (by decide) rfl (fun ls hl => ?_)
        refine lv_goto (tgt := 72) hx hb dL_law_146 (by decide) ?_
        rw [show (k : Int) + 1 = ((k + 1 : Nat) : Int) by omega] at hl
        exact ih (k + 1) H locs _ cells1 slots1 τ1 (by omega) (by omega) hc1 hs1 hH (lv_sub hl [2, 3, 4, 5, 6, 7, 8, 1, 9, 0] rfl) hI1
      refine lv_iload hx hb dL_law_114 (lv_at hl 9 rfl) ?_
      refine lv_iconst (v := gI (4 : Int)) hx hb dL_law_116 (by decide) ?_
      refine g_irem (α := Unit) (a := some ()) (r := ()) hx hb dL_law_117 (pu_dv (by omega) (by omega) (by decide) (by decide)) (fun _ => ?_)
      refine lv_if_gt (tgt := 136) hx hb dL_law_118 (by decide) (fun c2 => ?_) (fun c2 => ?_)
      · exact hJ _ _ _ _ _ τ (by omega) (by omega) hH hl h2
      · obtain ⟨⟨r2, τ2⟩, e2, h3, h4⟩ := pv_isSo h2
        have h3 : r2 = 1 := h3
        have h4 : pvInv τ2 := h4
        subst h3
        refine lv_aload_n hx hb dL_law_121 rfl (lv_at hl 1 rfl) ?_
        refine lv_aload_n hx hb dL_law_122 rfl (lv_at hl 2 rfl) ?_
        refine lv_aload_n hx hb dL_law_123 rfl (lv_at hl 3 rfl) ?_
        refine lv_aload hx hb dL_law_124 (lv_at hl 4 rfl) ?_
        refine lv_aload hx hb dL_law_126 (lv_at hl 5 rfl) ?_
        refine lv_aload hx hb dL_law_128 (lv_at hl 6 rfl) ?_
        refine g_callAi (As := [.ref (G.1 0), .ref (G.1 136), .ref (G.1 137), .ref (G.1 138), .ref (G.1 139), .ref (G.1 140)]) (rest := []) ⟨hx, hb, hml, hown, hts⟩ (metL_isSo l hlt D G τ μ 1 τ2 e2) (g_cwA 6 hts q_ml_L_146 q_st_L_isSo q_in_L q_co_L_isSo ⟨rfl, rfl⟩ (by decide +kernel) ⟨Nat.le_of_ble_eq_true rfl, Nat.le_of_ble_eq_true rfl⟩) hX hH rfl hl.1 rfl (Nat.le_of_ble_eq_true rfl) dL_law_130 ⟨by show _ ≤ 1061592; omega, by show _ ≤ 5916693; omega⟩ (fun H locs hH => ?_)
        refine lv_if_eq (tgt := 140) hx hb dL_law_133 (by decide) (fun c1 => absurd c1 (by decide +kernel)) (fun _ => ?_)
        exact hJ _ _ _ _ _ τ2 (by omega) (by omega) hH hl h4
