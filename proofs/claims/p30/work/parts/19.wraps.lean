/-! the law's own calls of the class: the answer, or a code for what was thrown -/
def gHd : List (Nat × Int) → Nat → Option Int
  | [], _ => none
  | q :: t, j => if j = q.1 then some q.2 else gHd t j

def gWqS (x : Option (Nat ⊕ (Int × gSt))) (hs : List (Nat × Int)) (σ : gSt) : Option (Int × gSt) := match x with
  | none => none
  | some (.inr u) => some u
  | some (.inl k) => (gHd hs k).map fun c => (c, σ)
def gWqP (x : Option (Nat ⊕ Int)) (hs : List (Nat × Int)) : Option Int := match x with
  | none => none
  | some (.inr u) => some u
  | some (.inl k) => gHd hs k
theorem gWqS_some {x : Option (Nat ⊕ (Int × gSt))} {hs : List (Nat × Int)} {σ σ' : gSt} {r : Int} (h : gWqS x hs σ = some (r, σ')) : ∃ y, x = some y ∧ ((∃ u : Int × gSt, y = .inr u ∧ r = u.1 ∧ σ' = u.2) ∨ (∃ k, y = .inl k ∧ gHd hs k = some r ∧ σ' = σ)) := by
  cases x with
  | none => cases h
  | some y =>
    rcases y with k | u
    · refine ⟨_, rfl, Or.inr ⟨k, rfl, ?_⟩⟩
      unfold gWqS at h
      dsimp only at h
      cases hk : gHd hs k with
      | none => rw [hk] at h; cases h
      | some c => rw [hk] at h; cases h; exact ⟨rfl, rfl⟩
    · cases h
      exact ⟨_, rfl, Or.inl ⟨_, rfl, rfl, rfl⟩⟩
theorem gWqP_some {x : Option (Nat ⊕ Int)} {hs : List (Nat × Int)} {r : Int} (h : gWqP x hs = some r) : ∃ y, x = some y ∧ ((∃ u : Int, y = .inr u ∧ r = u) ∨ (∃ k, y = .inl k ∧ gHd hs k = some r)) := by
  cases x with
  | none => cases h
  | some y =>
    rcases y with k | u
    · exact ⟨_, rfl, Or.inr ⟨k, rfl, h⟩⟩
    · cases h
      exact ⟨_, rfl, Or.inl ⟨_, rfl, rfl⟩⟩
theorem g_nc {D : va_G} {G : gAd} {s : State} (hX : gX D G s) {a b : String} (h : (a, b) ∈ gNoCast) (ha : (a, a) ∈ gCast := by decide +kernel) (hb : (b, b) ∈ gCast := by decide +kernel) : va_Nc a b s := by
  have h0 := hX.2.2.2.2.2.2.2.2.2.1 _ h
  have h1 : (Cond.castable a a).before #[] s = true := va_Nw.use rfl (hX.2.2.2.2.2.2.2.2.1 _ ha)
  have h2 : (Cond.castable b b).before #[] s = true := va_Nw.use rfl (hX.2.2.2.2.2.2.2.2.1 _ hb)
  obtain ⟨c1, c2, k1, k2, k3⟩ := Cond.castable_spec h1
  obtain ⟨c3, c4, k4, k5, k6⟩ := Cond.castable_spec h2
  refine ⟨c1, c3, k1, k4, ?_⟩
  dsimp only at h0
  simp only [Cond.before, Cond.holds, Cond.value, k1, k4] at h0
  simpa using h0
def gWw (y : MethodName) (c : ByteArray) (n : Nat) (r : Option FieldType) (hh : List (Nat × Nat × Nat × Nat)) : List Cond := Cond.codeWith y c n r hh :: gLW

section GL1
variable {p : Program} {l : Launch} {e : Env} {R : Room} {s : State} {m : MethodId} {args : Array Value} {below : List Frame} {meth : Method} {c : Code} {H : Heap} {locs : List Loc} {cells slots : Nat} {Q : State → Prop}
variable {cc : ByteArray} {pc : Nat} {ls : Array Slot} {rest : List Value} {D : va_G} {G : gAd} {σ : gSt} {μ : gLg}
theorem g_xcallVs {y : MethodName} {bytes : ByteArray} {maxL nL n index mc ms : Nat} {ret : Option FieldType} {rm : Room} {Ts : List Cond} {own C : String} {As st0 : List Value} {k ci : Nat} {sl : List (Nat ⊕ Bool)} {T : u_T} {N : Nat} {x : Nat ⊕ (Int × gSt)} (S : CallFix p m c cc nL s args Ts own) (hM : vx_Met l y (gWs y bytes maxL ret) rm (gPc D G (.ref (G.1 k) :: As) σ μ) (gXs D G x μ) (gXC D G x σ μ) mc ms (gA G)) (cw : CallW R s args own C index y bytes maxL ret (gWs y bytes maxL ret) rm mc ms n) (hX : gX D G s) (hH : gH D G s H locs σ μ) (hk : gKinds[k]? = some (.inr (.inl (ci, sl)))) (hc : vwCl[ci]? = some (C, T, N)) (hn : As.length = n) (hsize : ls.size = nL) (hst : st0 = As.reverse ++ .ref (G.1 k) :: rest) (hW : (rest.map fun v => v.category).sum ≤ 8) (hdg : decode cc pc = .ok (.invokevirtual index, 3)) (hf : cells + mc ≤ R.cells ∧ slots + ms ≤ R.slots)
    (kx : ∀ (k : Nat) (E : String) (ce : Cell) (q : Addr) (H1 : Heap) (locs1 : List Loc), x = .inl k → E = gExc k → gH D G s H1 locs1 σ μ → H1[q]? = some ce → ce.vm = .none → s.vm.findClass E = some ce.cls → vx_W p l e R s m args below meth c H1 locs1 (cells + mc) (slots + ms) Q (F0 m pc ls rest) q)
    (kk : ∀ u : (Int × gSt), x = .inr u → ∀ (H1 : Heap) (locs1 : List Loc), gH D G s H1 locs1 u.2 μ → W p l e R s m args below meth c H1 locs1 (cells + mc) (slots + ms) Q (F0 m (pc + 3) ls (.int (gI u.1) :: rest))) : W p l e R s m args below meth c H locs cells slots Q (F0 m pc ls st0) := by
  refine vx_calli (A0 := gA G) (A1 := gA G) (AX := gA G) (vx_runV (As := As) (rest := rest) S hM cw ⟨gPc_blind, va_recv hX.1 hH.1 hc (gW_get hk), fun U hU hW2 => ⟨rfl, by rw [hU]; exact hH.1, hX.go hH.2 hU hW2⟩⟩ rfl hn hsize hst (lv_room hW) hdg hf) hH.2 (fun q _ h => h) (fun q h => h) (fun q _ h => h) (fun E ce q u t H1 locs1 ht hvm hp hB hz hq hS h1 h2 h3 => ?_) (fun r0 u t H1 locs1 ht hvm hp hB hz hq hS => ?_)
  · have hB2 : va_P D vwCl (gW G σ μ) t.heap := hB.2
    rw [ht] at hB2
    exact kx u E ce q H1 locs1 hp hB.1 ⟨hB2, hS⟩ h1 h2 h3
  · have hB2 : va_P D vwCl (gW G u.2 μ) t.heap := hB
    rw [ht] at hB2
    obtain ⟨hp1, hp2⟩ := hp
    subst hp2
    exact kk u hp1 H1 locs1 ⟨hB2, hS⟩
theorem g_xcallVp {y : MethodName} {bytes : ByteArray} {maxL nL n index mc ms : Nat} {ret : Option FieldType} {rm : Room} {Ts : List Cond} {own C : String} {As st0 : List Value} {k ci : Nat} {sl : List (Nat ⊕ Bool)} {T : u_T} {N : Nat} {x : Nat ⊕ Int} (S : CallFix p m c cc nL s args Ts own) (hM : vx_Met l y (gWs y bytes maxL ret) rm (gPc D G (.ref (G.1 k) :: As) σ μ) (gXp D G x σ μ) (gXC D G x σ μ) mc ms (gA G)) (cw : CallW R s args own C index y bytes maxL ret (gWs y bytes maxL ret) rm mc ms n) (hX : gX D G s) (hH : gH D G s H locs σ μ) (hk : gKinds[k]? = some (.inr (.inl (ci, sl)))) (hc : vwCl[ci]? = some (C, T, N)) (hn : As.length = n) (hsize : ls.size = nL) (hst : st0 = As.reverse ++ .ref (G.1 k) :: rest) (hW : (rest.map fun v => v.category).sum ≤ 8) (hdg : decode cc pc = .ok (.invokevirtual index, 3)) (hf : cells + mc ≤ R.cells ∧ slots + ms ≤ R.slots)
    (kx : ∀ (k : Nat) (E : String) (ce : Cell) (q : Addr) (H1 : Heap) (locs1 : List Loc), x = .inl k → E = gExc k → gH D G s H1 locs1 σ μ → H1[q]? = some ce → ce.vm = .none → s.vm.findClass E = some ce.cls → vx_W p l e R s m args below meth c H1 locs1 (cells + mc) (slots + ms) Q (F0 m pc ls rest) q)
    (kk : ∀ u : Int, x = .inr u → ∀ (H1 : Heap) (locs1 : List Loc), gH D G s H1 locs1 σ μ → W p l e R s m args below meth c H1 locs1 (cells + mc) (slots + ms) Q (F0 m (pc + 3) ls (.int (gI u) :: rest))) : W p l e R s m args below meth c H locs cells slots Q (F0 m pc ls st0) := by
  refine vx_calli (A0 := gA G) (A1 := gA G) (AX := gA G) (vx_runV (As := As) (rest := rest) S hM cw ⟨gPc_blind, va_recv hX.1 hH.1 hc (gW_get hk), fun U hU hW2 => ⟨rfl, by rw [hU]; exact hH.1, hX.go hH.2 hU hW2⟩⟩ rfl hn hsize hst (lv_room hW) hdg hf) hH.2 (fun q _ h => h) (fun q h => h) (fun q _ h => h) (fun E ce q u t H1 locs1 ht hvm hp hB hz hq hS h1 h2 h3 => ?_) (fun r0 u t H1 locs1 ht hvm hp hB hz hq hS => ?_)
  · have hB2 : va_P D vwCl (gW G σ μ) t.heap := hB.2
    rw [ht] at hB2
    exact kx u E ce q H1 locs1 hp hB.1 ⟨hB2, hS⟩ h1 h2 h3
  · have hB2 : va_P D vwCl (gW G σ μ) t.heap := hB
    rw [ht] at hB2
    obtain ⟨hp1, hp2⟩ := hp
    subst hp2
    exact kk u hp1 H1 locs1 ⟨hB2, hS⟩

theorem g_callWi {y : MethodName} {bytes : ByteArray} {maxL nL n index mc ms : Nat} {ret : Option FieldType} {hh : List (Nat × Nat × Nat × Nat)} {rm : Room} {Ts : List Cond} {own : String} {As st0 : List Value} {σ' : gSt} {μ' : gLg} {r : Int} (S : CallFix p m c cc nL s args Ts own) (hM : Met l y (gWw y bytes maxL ret hh) rm (gPc D G As σ μ) (gQi D G r σ' μ') mc ms (gA G)) (cw : vx_CSW R s args own index y bytes maxL ret hh (gWw y bytes maxL ret hh) rm mc ms n) (hX : gX D G s) (hH : gH D G s H locs σ μ) (hn : As.length = n) (hsize : ls.size = nL) (hst : st0 = As.reverse ++ rest) (hW : (rest.map fun v => v.category).sum ≤ 8) (hdg : decode cc pc = .ok (.invokestatic index, 3)) (hf : cells + mc ≤ R.cells ∧ slots + ms ≤ R.slots)
    (kk : ∀ (H1 : Heap) (locs1 : List Loc), gH D G s H1 locs1 σ' μ' → W p l e R s m args below meth c H1 locs1 (cells + mc) (slots + ms) Q (F0 m (pc + 3) ls (.int (gI r) :: rest))) : W p l e R s m args below meth c H locs cells slots Q (F0 m pc ls st0) := by
  refine va_calli (mc := mc) (ms := ms) (free := gA G) (A0 := gA G) (A1 := gA G) (vx_runSW (As := As) (rest := rest) S hM cw ⟨gPc_blind, fun U hU hW2 => ⟨rfl, by rw [hU]; exact hH.1, hX.go hH.2 hU hW2⟩⟩ rfl hn hsize hst (lv_room hW) hdg hf) hH.2 (fun q _ h => h) (fun q h => h) (fun r0 u t H1 locs1 ht hvm hp hB hz hq hS => ?_)
  have hB2 : va_P D vwCl (gW G σ' μ') t.heap := hB
  rw [ht] at hB2
  subst hp
  exact kk H1 locs1 ⟨hB2, hS⟩
end GL1
theorem g_cwW {R : Room} {s : State} {args : Array Value} {own : String} {idx maxL mc ms : Nat} {y : MethodName} {bytes : ByteArray} {ret : Option FieldType} {hh : List (Nat × Nat × Nat × Nat)} {rm : Room} (n : Nat) (hts : ∀ w ∈ gLW, w.before args s = true) (h1 : Cond.methodLink own idx y ∈ gLW) (h2 : Cond.static y ∈ gLW) (h4 : Cond.initialized y.cls ∈ gLW) (h5 : Cond.codeWith y bytes maxL ret hh ∈ gLW) (hz : rm.cells = mc ∧ rm.slots = ms) (hd : y.cls ≠ "java/lang/invoke/MethodHandle" ∧ y.cls ≠ "java/lang/invoke/VarHandle" ∧ (parseMethodDescriptor y.desc).map (fun d => d.parameters.length) = some n) (hR : rm.frames + 1 ≤ R.frames ∧ 8 + (maxL + 11) + rm.locals ≤ R.locals) : vx_CSW R s args own idx y bytes maxL ret hh (gWw y bytes maxL ret hh) rm mc ms n := by
  refine vx_cwSW n hts (fun w hw => ?_) rfl hz.1 hz.2 hd hR
  have hg : ∀ w ∈ gLW, w ∈ gLW ∧ ((w.onTables && w.keeps) = true ∨ ∃ ty, w = .arrayClass ty) := fun w h => ⟨h, good_of_word (gLW_good h)⟩
  rcases List.mem_append.mp hw with hw | hw
  · simp only [List.mem_cons, List.not_mem_nil, or_false] at hw
    rcases hw with rfl | rfl | rfl
    · exact hg _ h1
    · exact hg _ h2
    · exact hg _ h4
  · rcases List.mem_cons.mp hw with rfl | hw
    · exact hg _ h5
    · exact hg _ hw
set_option maxHeartbeats 4000000 in
set_option maxRecDepth 100000 in
theorem metL_sets (l : Launch) (hlt : l.stackTraces = false) (D : va_G) (G : gAd) (σ : gSt) (μ : gLg) (a1 : Int) (a2 : Int) (r : Int) (σ' : gSt) (h : gWqS (DX8_set σ a1 a2) [(1, (-100002 : Int))] σ = some (r, σ')) : Met l yL_sets (gWw yL_sets cL_sets 4 (some .int) [(0, 6, 7, 71)]) ({ frames := 7, cells := 1, slots := 6, locals := 154 } : Room) (gPc D G [.ref (G.1 0), .int (gI a1), .int (gI a2)] σ μ) (gQi D G r σ' μ) 1 6 (gA G) := by
  refine va_MetW (cc := cL_sets) (maxL := 4) (ret := some .int) (hh := [(0, 6, 7, 71)]) (by decide) rfl ?_
  intro p e s m args below meth c s₁ B hml hv
  obtain ⟨rfl, hP, hX⟩ := hv
  have hx := B.exec
  have hb0 := B.bytes
  have hr := B.returns
  have hts0 := atoms_spec (ws := (gWw yL_sets cL_sets 4 (some .int) [(0, 6, 7, 71)])) B.pre
  have htab := vx_table (x := yL_sets) B (hts0 _ List.mem_cons_self)
  have hts : ∀ w ∈ gLW, w.before _ s = true := fun w hw => hts0 w (List.mem_cons_of_mem _ hw)
  have hown : s.vm.findClass RL = some m.cls := findClass_of_methodNamed B.named
  have hlocks := B.notSynchronized
  have hH : gH D G s s.heap [] σ μ := ⟨hP, va_S.rf⟩
  have hl := lv_entry ([.ref (G.1 0), .int (gI a1), .int (gI a2)]) (n := 4) (Nat.le_of_ble_eq_true rfl)
  rw [lg_entry_eq]
  generalize (lg_sl ([.ref (G.1 0), .int (gI a1), .int (gI a2)]) ++ List.replicate (4 - (lg_sl ([.ref (G.1 0), .int (gI a1), .int (gI a2)])).length) Slot.unset).toArray = ls at hl ⊢
  have hl : lv_has ls 4 [(0, .ref (G.1 0)), (1, .int (gI a1)), (2, .int (gI a2))] := hl
  obtain ⟨x, ex, h⟩ := gWqS_some h
  refine lv_aload_n hx hb0 dL_sets_0 rfl (lv_at hl 0 rfl) ?_
  refine lv_iload_n hx hb0 dL_sets_1 rfl (lv_at hl 1 rfl) ?_
  refine lv_iload_n hx hb0 dL_sets_2 rfl (lv_at hl 2 rfl) ?_
  refine g_xcallVs (k := 0) (T := TX8) (N := 10) (As := [.int (gI a1), .int (gI a2)]) (rest := []) (x := x) ⟨hx, hb0, hml, hown, hts⟩ (metX8_set l hlt D G σ μ a1 a2 x ex) (g_cwX (C := RX8) 2 hts q_ml_L_66 q_im_X8_set q_se_X8_set q_in_X8 q_co_X8_set ⟨rfl, rfl⟩ (by decide +kernel) ⟨Nat.le_of_ble_eq_true rfl, Nat.le_of_ble_eq_true rfl⟩) hX hH (rfl : gKinds[0]? = _) rfl rfl hl.1 rfl (Nat.le_of_ble_eq_true rfl) dL_sets_3 ⟨Nat.le_of_ble_eq_true rfl, Nat.le_of_ble_eq_true rfl⟩ (fun k9 E9 ce9 q9 H locs hk9 hE9 hH h1 h2 h3 => ?_) (fun u9 hu9 H locs hH => ?_)
  · rcases h with ⟨u8, h8, -, -⟩ | ⟨k8, h8, hc8, rfl⟩
    · rw [h8] at hk9
      cases hk9
    · have hkk : k9 = k8 := by
        rw [h8] at hk9
        exact (Sum.inl.inj hk9).symm
      rw [hkk] at hE9
      by_cases g0 : k8 = 1
      · subst g0
        have hE9 : E9 = "java/lang/IllegalArgumentException" := hE9
        subst hE9
        have hc9 : (-100002 : Int) = r := by simpa [gHd] using hc8
        subst hc9
        refine vx_catch (own := RL) (name := "java/lang/IllegalArgumentException") hown [] ⟨0, 6, 7, 71⟩ [] (by rw [htab]; rfl) (fun z hz => nomatch hz) rfl (by decide) (hts _ q_cl_L_71) (va_Nw.use rfl (hX.2.2.2.2.2.2.2.2.1 ("java/lang/IllegalArgumentException", "java/lang/IllegalArgumentException") (by decide +kernel))) h1 h2 h3 ?_
        refine lv_astore_n (lv' := (3, .ref q9) :: [(0, .ref (G.1 0)), (1, .int (gI a1)), (2, .int (gI a2))]) hx hb0 dL_sets_7 rfl hl (by decide) rfl (fun ls hl => ?_)
        refine lv_ldc (v := gI (-100002 : Int)) hx hb0 hown (hts _ q_ki_L_61) dL_sets_8 ?_
        exact g_iret hx hb0 hr hH hlocks dL_sets_10
      · exact absurd hc8 (by simp [gHd, g0])
  · rcases h with ⟨u8, h8, rfl, rfl⟩ | ⟨k8, h8, hc8, -⟩
    · have huu : u9 = u8 := by
        rw [h8] at hu9
        exact (Sum.inr.inj hu9).symm
      simp only [huu] at hH ⊢
      exact g_iret hx hb0 hr hH hlocks dL_sets_6
    · rw [h8] at hu9
      cases hu9
set_option maxHeartbeats 4000000 in
set_option maxRecDepth 100000 in
theorem metL_adds (l : Launch) (hlt : l.stackTraces = false) (D : va_G) (G : gAd) (σ : gSt) (μ : gLg) (a1 : Int) (a2 : Int) (a3 : Int) (r : Int) (σ' : gSt) (h : gWqS (DX8_addTask σ a1 a2 a3) [(1, (-100002 : Int)), (2, (-100003 : Int))] σ = some (r, σ')) : Met l yL_adds (gWw yL_adds cL_adds 5 (some .int) [(0, 7, 8, 71), (0, 7, 13, 77)]) ({ frames := 7, cells := 1, slots := 6, locals := 155 } : Room) (gPc D G [.ref (G.1 0), .int (gI a1), .int (gI a2), .int (gI a3)] σ μ) (gQi D G r σ' μ) 1 6 (gA G) := by
  refine va_MetW (cc := cL_adds) (maxL := 5) (ret := some .int) (hh := [(0, 7, 8, 71), (0, 7, 13, 77)]) (by decide) rfl ?_
  intro p e s m args below meth c s₁ B hml hv
  obtain ⟨rfl, hP, hX⟩ := hv
  have hx := B.exec
  have hb0 := B.bytes
  have hr := B.returns
  have hts0 := atoms_spec (ws := (gWw yL_adds cL_adds 5 (some .int) [(0, 7, 8, 71), (0, 7, 13, 77)])) B.pre
  have htab := vx_table (x := yL_adds) B (hts0 _ List.mem_cons_self)
  have hts : ∀ w ∈ gLW, w.before _ s = true := fun w hw => hts0 w (List.mem_cons_of_mem _ hw)
  have hown : s.vm.findClass RL = some m.cls := findClass_of_methodNamed B.named
  have hlocks := B.notSynchronized
  have hH : gH D G s s.heap [] σ μ := ⟨hP, va_S.rf⟩
  have hl := lv_entry ([.ref (G.1 0), .int (gI a1), .int (gI a2), .int (gI a3)]) (n := 5) (Nat.le_of_ble_eq_true rfl)
  rw [lg_entry_eq]
  generalize (lg_sl ([.ref (G.1 0), .int (gI a1), .int (gI a2), .int (gI a3)]) ++ List.replicate (5 - (lg_sl ([.ref (G.1 0), .int (gI a1), .int (gI a2), .int (gI a3)])).length) Slot.unset).toArray = ls at hl ⊢
  have hl : lv_has ls 5 [(0, .ref (G.1 0)), (1, .int (gI a1)), (2, .int (gI a2)), (3, .int (gI a3))] := hl
  obtain ⟨x, ex, h⟩ := gWqS_some h
  refine lv_aload_n hx hb0 dL_adds_0 rfl (lv_at hl 0 rfl) ?_
  refine lv_iload_n hx hb0 dL_adds_1 rfl (lv_at hl 1 rfl) ?_
  refine lv_iload_n hx hb0 dL_adds_2 rfl (lv_at hl 2 rfl) ?_
  refine lv_iload_n hx hb0 dL_adds_3 rfl (lv_at hl 3 rfl) ?_
  refine g_xcallVs (k := 0) (T := TX8) (N := 10) (As := [.int (gI a1), .int (gI a2), .int (gI a3)]) (rest := []) (x := x) ⟨hx, hb0, hml, hown, hts⟩ (metX8_addTask l hlt D G σ μ a1 a2 a3 x ex) (g_cwX (C := RX8) 3 hts q_ml_L_73 q_im_X8_addTask q_se_X8_addTask q_in_X8 q_co_X8_addTask ⟨rfl, rfl⟩ (by decide +kernel) ⟨Nat.le_of_ble_eq_true rfl, Nat.le_of_ble_eq_true rfl⟩) hX hH (rfl : gKinds[0]? = _) rfl rfl hl.1 rfl (Nat.le_of_ble_eq_true rfl) dL_adds_4 ⟨Nat.le_of_ble_eq_true rfl, Nat.le_of_ble_eq_true rfl⟩ (fun k9 E9 ce9 q9 H locs hk9 hE9 hH h1 h2 h3 => ?_) (fun u9 hu9 H locs hH => ?_)
  · rcases h with ⟨u8, h8, -, -⟩ | ⟨k8, h8, hc8, rfl⟩
    · rw [h8] at hk9
      cases hk9
    · have hkk : k9 = k8 := by
        rw [h8] at hk9
        exact (Sum.inl.inj hk9).symm
      rw [hkk] at hE9
      by_cases g0 : k8 = 1
      · subst g0
        have hE9 : E9 = "java/lang/IllegalArgumentException" := hE9
        subst hE9
        have hc9 : (-100002 : Int) = r := by simpa [gHd] using hc8
        subst hc9
        refine vx_catch (own := RL) (name := "java/lang/IllegalArgumentException") hown [] ⟨0, 7, 8, 71⟩ [⟨0, 7, 13, 77⟩] (by rw [htab]; rfl) (fun z hz => nomatch hz) rfl (by decide) (hts _ q_cl_L_71) (va_Nw.use rfl (hX.2.2.2.2.2.2.2.2.1 ("java/lang/IllegalArgumentException", "java/lang/IllegalArgumentException") (by decide +kernel))) h1 h2 h3 ?_
        refine lv_astore (lv' := (4, .ref q9) :: [(0, .ref (G.1 0)), (1, .int (gI a1)), (2, .int (gI a2)), (3, .int (gI a3))]) hx hb0 dL_adds_8 hl (by decide) rfl (fun ls hl => ?_)
        refine lv_ldc (v := gI (-100002 : Int)) hx hb0 hown (hts _ q_ki_L_61) dL_adds_10 ?_
        exact g_iret hx hb0 hr hH hlocks dL_adds_12
      · skip
        by_cases g1 : k8 = 2
        · subst g1
          have hE9 : E9 = "java/lang/IllegalStateException" := hE9
          subst hE9
          have hc9 : (-100003 : Int) = r := by simpa [gHd] using hc8
          subst hc9
          refine vx_catch (own := RL) (name := "java/lang/IllegalStateException") hown [⟨0, 7, 8, 71⟩] ⟨0, 7, 13, 77⟩ [] (by rw [htab]; rfl) (fun z hz => by
            simp only [List.mem_cons, List.not_mem_nil, or_false] at hz
            rcases hz with rfl
            · exact Or.inr ⟨by decide, "java/lang/IllegalArgumentException", hts _ q_cl_L_71, g_nc hX (by decide +kernel)⟩) rfl (by decide) (hts _ q_cl_L_77) (va_Nw.use rfl (hX.2.2.2.2.2.2.2.2.1 ("java/lang/IllegalStateException", "java/lang/IllegalStateException") (by decide +kernel))) h1 h2 h3 ?_
          refine lv_astore (lv' := (4, .ref q9) :: [(0, .ref (G.1 0)), (1, .int (gI a1)), (2, .int (gI a2)), (3, .int (gI a3))]) hx hb0 dL_adds_13 hl (by decide) rfl (fun ls hl => ?_)
          refine lv_ldc (v := gI (-100003 : Int)) hx hb0 hown (hts _ q_ki_L_34) dL_adds_15 ?_
          exact g_iret hx hb0 hr hH hlocks dL_adds_17
        · exact absurd hc8 (by simp [gHd, g0, g1])
  · rcases h with ⟨u8, h8, rfl, rfl⟩ | ⟨k8, h8, hc8, -⟩
    · have huu : u9 = u8 := by
        rw [h8] at hu9
        exact (Sum.inr.inj hu9).symm
      simp only [huu] at hH ⊢
      exact g_iret hx hb0 hr hH hlocks dL_adds_7
    · rw [h8] at hu9
      cases hu9
set_option maxHeartbeats 4000000 in
set_option maxRecDepth 100000 in
theorem metL_moves (l : Launch) (hlt : l.stackTraces = false) (D : va_G) (G : gAd) (σ : gSt) (μ : gLg) (a1 : Int) (a2 : Int) (a3 : Int) (r : Int) (σ' : gSt) (h : gWqS (DX8_move σ a1 a2 a3) [(3, (-100001 : Int)), (1, (-100002 : Int))] σ = some (r, σ')) : Met l yL_moves (gWw yL_moves cL_moves 5 (some .int) [(0, 7, 8, 82), (0, 7, 13, 71)]) ({ frames := 8, cells := 2, slots := 12, locals := 155 } : Room) (gPc D G [.ref (G.1 0), .int (gI a1), .int (gI a2), .int (gI a3)] σ μ) (gQi D G r σ' μ) 2 12 (gA G) := by
  refine va_MetW (cc := cL_moves) (maxL := 5) (ret := some .int) (hh := [(0, 7, 8, 82), (0, 7, 13, 71)]) (by decide) rfl ?_
  intro p e s m args below meth c s₁ B hml hv
  obtain ⟨rfl, hP, hX⟩ := hv
  have hx := B.exec
  have hb0 := B.bytes
  have hr := B.returns
  have hts0 := atoms_spec (ws := (gWw yL_moves cL_moves 5 (some .int) [(0, 7, 8, 82), (0, 7, 13, 71)])) B.pre
  have htab := vx_table (x := yL_moves) B (hts0 _ List.mem_cons_self)
  have hts : ∀ w ∈ gLW, w.before _ s = true := fun w hw => hts0 w (List.mem_cons_of_mem _ hw)
  have hown : s.vm.findClass RL = some m.cls := findClass_of_methodNamed B.named
  have hlocks := B.notSynchronized
  have hH : gH D G s s.heap [] σ μ := ⟨hP, va_S.rf⟩
  have hl := lv_entry ([.ref (G.1 0), .int (gI a1), .int (gI a2), .int (gI a3)]) (n := 5) (Nat.le_of_ble_eq_true rfl)
  rw [lg_entry_eq]
  generalize (lg_sl ([.ref (G.1 0), .int (gI a1), .int (gI a2), .int (gI a3)]) ++ List.replicate (5 - (lg_sl ([.ref (G.1 0), .int (gI a1), .int (gI a2), .int (gI a3)])).length) Slot.unset).toArray = ls at hl ⊢
  have hl : lv_has ls 5 [(0, .ref (G.1 0)), (1, .int (gI a1)), (2, .int (gI a2)), (3, .int (gI a3))] := hl
  obtain ⟨x, ex, h⟩ := gWqS_some h
  refine lv_aload_n hx hb0 dL_moves_0 rfl (lv_at hl 0 rfl) ?_
  refine lv_iload_n hx hb0 dL_moves_1 rfl (lv_at hl 1 rfl) ?_
  refine lv_iload_n hx hb0 dL_moves_2 rfl (lv_at hl 2 rfl) ?_
  refine lv_iload_n hx hb0 dL_moves_3 rfl (lv_at hl 3 rfl) ?_
  refine g_xcallVs (k := 0) (T := TX8) (N := 10) (As := [.int (gI a1), .int (gI a2), .int (gI a3)]) (rest := []) (x := x) ⟨hx, hb0, hml, hown, hts⟩ (metX8_move l hlt D G σ μ a1 a2 a3 x ex) (g_cwX (C := RX8) 3 hts q_ml_L_79 q_im_X8_move q_se_X8_move q_in_X8 q_co_X8_move ⟨rfl, rfl⟩ (by decide +kernel) ⟨Nat.le_of_ble_eq_true rfl, Nat.le_of_ble_eq_true rfl⟩) hX hH (rfl : gKinds[0]? = _) rfl rfl hl.1 rfl (Nat.le_of_ble_eq_true rfl) dL_moves_4 ⟨Nat.le_of_ble_eq_true rfl, Nat.le_of_ble_eq_true rfl⟩ (fun k9 E9 ce9 q9 H locs hk9 hE9 hH h1 h2 h3 => ?_) (fun u9 hu9 H locs hH => ?_)
  · rcases h with ⟨u8, h8, -, -⟩ | ⟨k8, h8, hc8, rfl⟩
    · rw [h8] at hk9
      cases hk9
    · have hkk : k9 = k8 := by
        rw [h8] at hk9
        exact (Sum.inl.inj hk9).symm
      rw [hkk] at hE9
      by_cases g0 : k8 = 3
      · subst g0
        have hE9 : E9 = "java/lang/IndexOutOfBoundsException" := hE9
        subst hE9
        have hc9 : (-100001 : Int) = r := by simpa [gHd] using hc8
        subst hc9
        refine vx_catch (own := RL) (name := "java/lang/IndexOutOfBoundsException") hown [] ⟨0, 7, 8, 82⟩ [⟨0, 7, 13, 71⟩] (by rw [htab]; rfl) (fun z hz => nomatch hz) rfl (by decide) (hts _ q_cl_L_82) (va_Nw.use rfl (hX.2.2.2.2.2.2.2.2.1 ("java/lang/IndexOutOfBoundsException", "java/lang/IndexOutOfBoundsException") (by decide +kernel))) h1 h2 h3 ?_
        refine lv_astore (lv' := (4, .ref q9) :: [(0, .ref (G.1 0)), (1, .int (gI a1)), (2, .int (gI a2)), (3, .int (gI a3))]) hx hb0 dL_moves_8 hl (by decide) rfl (fun ls hl => ?_)
        refine lv_ldc (v := gI (-100001 : Int)) hx hb0 hown (hts _ q_ki_L_46) dL_moves_10 ?_
        exact g_iret hx hb0 hr hH hlocks dL_moves_12
      · skip
        by_cases g1 : k8 = 1
        · subst g1
          have hE9 : E9 = "java/lang/IllegalArgumentException" := hE9
          subst hE9
          have hc9 : (-100002 : Int) = r := by simpa [gHd] using hc8
          subst hc9
          refine vx_catch (own := RL) (name := "java/lang/IllegalArgumentException") hown [⟨0, 7, 8, 82⟩] ⟨0, 7, 13, 71⟩ [] (by rw [htab]; rfl) (fun z hz => by
            simp only [List.mem_cons, List.not_mem_nil, or_false] at hz
            rcases hz with rfl
            · exact Or.inr ⟨by decide, "java/lang/IndexOutOfBoundsException", hts _ q_cl_L_82, g_nc hX (by decide +kernel)⟩) rfl (by decide) (hts _ q_cl_L_71) (va_Nw.use rfl (hX.2.2.2.2.2.2.2.2.1 ("java/lang/IllegalArgumentException", "java/lang/IllegalArgumentException") (by decide +kernel))) h1 h2 h3 ?_
          refine lv_astore (lv' := (4, .ref q9) :: [(0, .ref (G.1 0)), (1, .int (gI a1)), (2, .int (gI a2)), (3, .int (gI a3))]) hx hb0 dL_moves_13 hl (by decide) rfl (fun ls hl => ?_)
          refine lv_ldc (v := gI (-100002 : Int)) hx hb0 hown (hts _ q_ki_L_61) dL_moves_15 ?_
          exact g_iret hx hb0 hr hH hlocks dL_moves_17
        · exact absurd hc8 (by simp [gHd, g0, g1])
  · rcases h with ⟨u8, h8, rfl, rfl⟩ | ⟨k8, h8, hc8, -⟩
    · have huu : u9 = u8 := by
        rw [h8] at hu9
        exact (Sum.inr.inj hu9).symm
      simp only [huu] at hH ⊢
      exact g_iret hx hb0 hr hH hlocks dL_moves_7
    · rw [h8] at hu9
      cases hu9
set_option maxHeartbeats 4000000 in
set_option maxRecDepth 100000 in
theorem metL_drops (l : Launch) (hlt : l.stackTraces = false) (D : va_G) (G : gAd) (σ : gSt) (μ : gLg) (a1 : Int) (r : Int) (σ' : gSt) (h : gWqS (DX8_removeTask σ a1) [(3, (-100001 : Int))] σ = some (r, σ')) : Met l yL_drops (gWw yL_drops cL_drops 3 (some .int) [(0, 5, 6, 82)]) ({ frames := 8, cells := 1, slots := 6, locals := 153 } : Room) (gPc D G [.ref (G.1 0), .int (gI a1)] σ μ) (gQi D G r σ' μ) 1 6 (gA G) := by
  refine va_MetW (cc := cL_drops) (maxL := 3) (ret := some .int) (hh := [(0, 5, 6, 82)]) (by decide) rfl ?_
  intro p e s m args below meth c s₁ B hml hv
  obtain ⟨rfl, hP, hX⟩ := hv
  have hx := B.exec
  have hb0 := B.bytes
  have hr := B.returns
  have hts0 := atoms_spec (ws := (gWw yL_drops cL_drops 3 (some .int) [(0, 5, 6, 82)])) B.pre
  have htab := vx_table (x := yL_drops) B (hts0 _ List.mem_cons_self)
  have hts : ∀ w ∈ gLW, w.before _ s = true := fun w hw => hts0 w (List.mem_cons_of_mem _ hw)
  have hown : s.vm.findClass RL = some m.cls := findClass_of_methodNamed B.named
  have hlocks := B.notSynchronized
  have hH : gH D G s s.heap [] σ μ := ⟨hP, va_S.rf⟩
  have hl := lv_entry ([.ref (G.1 0), .int (gI a1)]) (n := 3) (Nat.le_of_ble_eq_true rfl)
  rw [lg_entry_eq]
  generalize (lg_sl ([.ref (G.1 0), .int (gI a1)]) ++ List.replicate (3 - (lg_sl ([.ref (G.1 0), .int (gI a1)])).length) Slot.unset).toArray = ls at hl ⊢
  have hl : lv_has ls 3 [(0, .ref (G.1 0)), (1, .int (gI a1))] := hl
  obtain ⟨x, ex, h⟩ := gWqS_some h
  refine lv_aload_n hx hb0 dL_drops_0 rfl (lv_at hl 0 rfl) ?_
  refine lv_iload_n hx hb0 dL_drops_1 rfl (lv_at hl 1 rfl) ?_
  refine g_xcallVs (k := 0) (T := TX8) (N := 10) (As := [.int (gI a1)]) (rest := []) (x := x) ⟨hx, hb0, hml, hown, hts⟩ (metX8_removeTask l hlt D G σ μ a1 x ex) (g_cwX (C := RX8) 1 hts q_ml_L_84 q_im_X8_removeTask q_se_X8_removeTask q_in_X8 q_co_X8_removeTask ⟨rfl, rfl⟩ (by decide +kernel) ⟨Nat.le_of_ble_eq_true rfl, Nat.le_of_ble_eq_true rfl⟩) hX hH (rfl : gKinds[0]? = _) rfl rfl hl.1 rfl (Nat.le_of_ble_eq_true rfl) dL_drops_2 ⟨Nat.le_of_ble_eq_true rfl, Nat.le_of_ble_eq_true rfl⟩ (fun k9 E9 ce9 q9 H locs hk9 hE9 hH h1 h2 h3 => ?_) (fun u9 hu9 H locs hH => ?_)
  · rcases h with ⟨u8, h8, -, -⟩ | ⟨k8, h8, hc8, rfl⟩
    · rw [h8] at hk9
      cases hk9
    · have hkk : k9 = k8 := by
        rw [h8] at hk9
        exact (Sum.inl.inj hk9).symm
      rw [hkk] at hE9
      by_cases g0 : k8 = 3
      · subst g0
        have hE9 : E9 = "java/lang/IndexOutOfBoundsException" := hE9
        subst hE9
        have hc9 : (-100001 : Int) = r := by simpa [gHd] using hc8
        subst hc9
        refine vx_catch (own := RL) (name := "java/lang/IndexOutOfBoundsException") hown [] ⟨0, 5, 6, 82⟩ [] (by rw [htab]; rfl) (fun z hz => nomatch hz) rfl (by decide) (hts _ q_cl_L_82) (va_Nw.use rfl (hX.2.2.2.2.2.2.2.2.1 ("java/lang/IndexOutOfBoundsException", "java/lang/IndexOutOfBoundsException") (by decide +kernel))) h1 h2 h3 ?_
        refine lv_astore_n (lv' := (2, .ref q9) :: [(0, .ref (G.1 0)), (1, .int (gI a1))]) hx hb0 dL_drops_6 rfl hl (by decide) rfl (fun ls hl => ?_)
        refine lv_ldc (v := gI (-100001 : Int)) hx hb0 hown (hts _ q_ki_L_46) dL_drops_7 ?_
        exact g_iret hx hb0 hr hH hlocks dL_drops_9
      · exact absurd hc8 (by simp [gHd, g0])
  · rcases h with ⟨u8, h8, rfl, rfl⟩ | ⟨k8, h8, hc8, -⟩
    · have huu : u9 = u8 := by
        rw [h8] at hu9
        exact (Sum.inr.inj hu9).symm
      simp only [huu] at hH ⊢
      exact g_iret hx hb0 hr hH hlocks dL_drops_5
    · rw [h8] at hu9
      cases hu9
set_option maxHeartbeats 4000000 in
set_option maxRecDepth 100000 in
theorem metL_points (l : Launch) (hlt : l.stackTraces = false) (D : va_G) (G : gAd) (σ : gSt) (μ : gLg) (a1 : Int) (a2 : Int) (r : Int) (σ' : gSt) (h : gWqS (DX8_addArrow σ a1 a2) [(3, (-100001 : Int)), (1, (-100002 : Int)), (2, (-100003 : Int))] σ = some (r, σ')) : Met l yL_points (gWw yL_points cL_points 4 (some .int) [(0, 6, 7, 82), (0, 6, 11, 71), (0, 6, 15, 77)]) ({ frames := 8, cells := 3, slots := 18, locals := 154 } : Room) (gPc D G [.ref (G.1 0), .int (gI a1), .int (gI a2)] σ μ) (gQi D G r σ' μ) 3 18 (gA G) := by
  refine va_MetW (cc := cL_points) (maxL := 4) (ret := some .int) (hh := [(0, 6, 7, 82), (0, 6, 11, 71), (0, 6, 15, 77)]) (by decide) rfl ?_
  intro p e s m args below meth c s₁ B hml hv
  obtain ⟨rfl, hP, hX⟩ := hv
  have hx := B.exec
  have hb0 := B.bytes
  have hr := B.returns
  have hts0 := atoms_spec (ws := (gWw yL_points cL_points 4 (some .int) [(0, 6, 7, 82), (0, 6, 11, 71), (0, 6, 15, 77)])) B.pre
  have htab := vx_table (x := yL_points) B (hts0 _ List.mem_cons_self)
  have hts : ∀ w ∈ gLW, w.before _ s = true := fun w hw => hts0 w (List.mem_cons_of_mem _ hw)
  have hown : s.vm.findClass RL = some m.cls := findClass_of_methodNamed B.named
  have hlocks := B.notSynchronized
  have hH : gH D G s s.heap [] σ μ := ⟨hP, va_S.rf⟩
  have hl := lv_entry ([.ref (G.1 0), .int (gI a1), .int (gI a2)]) (n := 4) (Nat.le_of_ble_eq_true rfl)
  rw [lg_entry_eq]
  generalize (lg_sl ([.ref (G.1 0), .int (gI a1), .int (gI a2)]) ++ List.replicate (4 - (lg_sl ([.ref (G.1 0), .int (gI a1), .int (gI a2)])).length) Slot.unset).toArray = ls at hl ⊢
  have hl : lv_has ls 4 [(0, .ref (G.1 0)), (1, .int (gI a1)), (2, .int (gI a2))] := hl
  obtain ⟨x, ex, h⟩ := gWqS_some h
  refine lv_aload_n hx hb0 dL_points_0 rfl (lv_at hl 0 rfl) ?_
  refine lv_iload_n hx hb0 dL_points_1 rfl (lv_at hl 1 rfl) ?_
  refine lv_iload_n hx hb0 dL_points_2 rfl (lv_at hl 2 rfl) ?_
  refine g_xcallVs (k := 0) (T := TX8) (N := 10) (As := [.int (gI a1), .int (gI a2)]) (rest := []) (x := x) ⟨hx, hb0, hml, hown, hts⟩ (metX8_addArrow l hlt D G σ μ a1 a2 x ex) (g_cwX (C := RX8) 2 hts q_ml_L_88 q_im_X8_addArrow q_se_X8_addArrow q_in_X8 q_co_X8_addArrow ⟨rfl, rfl⟩ (by decide +kernel) ⟨Nat.le_of_ble_eq_true rfl, Nat.le_of_ble_eq_true rfl⟩) hX hH (rfl : gKinds[0]? = _) rfl rfl hl.1 rfl (Nat.le_of_ble_eq_true rfl) dL_points_3 ⟨Nat.le_of_ble_eq_true rfl, Nat.le_of_ble_eq_true rfl⟩ (fun k9 E9 ce9 q9 H locs hk9 hE9 hH h1 h2 h3 => ?_) (fun u9 hu9 H locs hH => ?_)
  · rcases h with ⟨u8, h8, -, -⟩ | ⟨k8, h8, hc8, rfl⟩
    · rw [h8] at hk9
      cases hk9
    · have hkk : k9 = k8 := by
        rw [h8] at hk9
        exact (Sum.inl.inj hk9).symm
      rw [hkk] at hE9
      by_cases g0 : k8 = 3
      · subst g0
        have hE9 : E9 = "java/lang/IndexOutOfBoundsException" := hE9
        subst hE9
        have hc9 : (-100001 : Int) = r := by simpa [gHd] using hc8
        subst hc9
        refine vx_catch (own := RL) (name := "java/lang/IndexOutOfBoundsException") hown [] ⟨0, 6, 7, 82⟩ [⟨0, 6, 11, 71⟩, ⟨0, 6, 15, 77⟩] (by rw [htab]; rfl) (fun z hz => nomatch hz) rfl (by decide) (hts _ q_cl_L_82) (va_Nw.use rfl (hX.2.2.2.2.2.2.2.2.1 ("java/lang/IndexOutOfBoundsException", "java/lang/IndexOutOfBoundsException") (by decide +kernel))) h1 h2 h3 ?_
        refine lv_astore_n (lv' := (3, .ref q9) :: [(0, .ref (G.1 0)), (1, .int (gI a1)), (2, .int (gI a2))]) hx hb0 dL_points_7 rfl hl (by decide) rfl (fun ls hl => ?_)
        refine lv_ldc (v := gI (-100001 : Int)) hx hb0 hown (hts _ q_ki_L_46) dL_points_8 ?_
        exact g_iret hx hb0 hr hH hlocks dL_points_10
      · skip
        by_cases g1 : k8 = 1
        · subst g1
          have hE9 : E9 = "java/lang/IllegalArgumentException" := hE9
          subst hE9
          have hc9 : (-100002 : Int) = r := by simpa [gHd] using hc8
          subst hc9
          refine vx_catch (own := RL) (name := "java/lang/IllegalArgumentException") hown [⟨0, 6, 7, 82⟩] ⟨0, 6, 11, 71⟩ [⟨0, 6, 15, 77⟩] (by rw [htab]; rfl) (fun z hz => by
            simp only [List.mem_cons, List.not_mem_nil, or_false] at hz
            rcases hz with rfl
            · exact Or.inr ⟨by decide, "java/lang/IndexOutOfBoundsException", hts _ q_cl_L_82, g_nc hX (by decide +kernel)⟩) rfl (by decide) (hts _ q_cl_L_71) (va_Nw.use rfl (hX.2.2.2.2.2.2.2.2.1 ("java/lang/IllegalArgumentException", "java/lang/IllegalArgumentException") (by decide +kernel))) h1 h2 h3 ?_
          refine lv_astore_n (lv' := (3, .ref q9) :: [(0, .ref (G.1 0)), (1, .int (gI a1)), (2, .int (gI a2))]) hx hb0 dL_points_11 rfl hl (by decide) rfl (fun ls hl => ?_)
          refine lv_ldc (v := gI (-100002 : Int)) hx hb0 hown (hts _ q_ki_L_61) dL_points_12 ?_
          exact g_iret hx hb0 hr hH hlocks dL_points_14
        · skip
          by_cases g2 : k8 = 2
          · subst g2
            have hE9 : E9 = "java/lang/IllegalStateException" := hE9
            subst hE9
            have hc9 : (-100003 : Int) = r := by simpa [gHd] using hc8
            subst hc9
            refine vx_catch (own := RL) (name := "java/lang/IllegalStateException") hown [⟨0, 6, 7, 82⟩, ⟨0, 6, 11, 71⟩] ⟨0, 6, 15, 77⟩ [] (by rw [htab]; rfl) (fun z hz => by
              simp only [List.mem_cons, List.not_mem_nil, or_false] at hz
              rcases hz with rfl | rfl
              · exact Or.inr ⟨by decide, "java/lang/IndexOutOfBoundsException", hts _ q_cl_L_82, g_nc hX (by decide +kernel)⟩
              · exact Or.inr ⟨by decide, "java/lang/IllegalArgumentException", hts _ q_cl_L_71, g_nc hX (by decide +kernel)⟩) rfl (by decide) (hts _ q_cl_L_77) (va_Nw.use rfl (hX.2.2.2.2.2.2.2.2.1 ("java/lang/IllegalStateException", "java/lang/IllegalStateException") (by decide +kernel))) h1 h2 h3 ?_
            refine lv_astore_n (lv' := (3, .ref q9) :: [(0, .ref (G.1 0)), (1, .int (gI a1)), (2, .int (gI a2))]) hx hb0 dL_points_15 rfl hl (by decide) rfl (fun ls hl => ?_)
            refine lv_ldc (v := gI (-100003 : Int)) hx hb0 hown (hts _ q_ki_L_34) dL_points_16 ?_
            exact g_iret hx hb0 hr hH hlocks dL_points_18
          · exact absurd hc8 (by simp [gHd, g0, g1, g2])
  · rcases h with ⟨u8, h8, rfl, rfl⟩ | ⟨k8, h8, hc8, -⟩
    · have huu : u9 = u8 := by
        rw [h8] at hu9
        exact (Sum.inr.inj hu9).symm
      simp only [huu] at hH ⊢
      exact g_iret hx hb0 hr hH hlocks dL_points_6
    · rw [h8] at hu9
      cases hu9
set_option maxHeartbeats 4000000 in
set_option maxRecDepth 100000 in
theorem metL_unpoints (l : Launch) (hlt : l.stackTraces = false) (D : va_G) (G : gAd) (σ : gSt) (μ : gLg) (a1 : Int) (r : Int) (σ' : gSt) (h : gWqS (DX8_removeArrow σ a1) [(3, (-100001 : Int))] σ = some (r, σ')) : Met l yL_unpoints (gWw yL_unpoints cL_unpoints 3 (some .int) [(0, 5, 6, 82)]) ({ frames := 8, cells := 1, slots := 6, locals := 152 } : Room) (gPc D G [.ref (G.1 0), .int (gI a1)] σ μ) (gQi D G r σ' μ) 1 6 (gA G) := by
  refine va_MetW (cc := cL_unpoints) (maxL := 3) (ret := some .int) (hh := [(0, 5, 6, 82)]) (by decide) rfl ?_
  intro p e s m args below meth c s₁ B hml hv
  obtain ⟨rfl, hP, hX⟩ := hv
  have hx := B.exec
  have hb0 := B.bytes
  have hr := B.returns
  have hts0 := atoms_spec (ws := (gWw yL_unpoints cL_unpoints 3 (some .int) [(0, 5, 6, 82)])) B.pre
  have htab := vx_table (x := yL_unpoints) B (hts0 _ List.mem_cons_self)
  have hts : ∀ w ∈ gLW, w.before _ s = true := fun w hw => hts0 w (List.mem_cons_of_mem _ hw)
  have hown : s.vm.findClass RL = some m.cls := findClass_of_methodNamed B.named
  have hlocks := B.notSynchronized
  have hH : gH D G s s.heap [] σ μ := ⟨hP, va_S.rf⟩
  have hl := lv_entry ([.ref (G.1 0), .int (gI a1)]) (n := 3) (Nat.le_of_ble_eq_true rfl)
  rw [lg_entry_eq]
  generalize (lg_sl ([.ref (G.1 0), .int (gI a1)]) ++ List.replicate (3 - (lg_sl ([.ref (G.1 0), .int (gI a1)])).length) Slot.unset).toArray = ls at hl ⊢
  have hl : lv_has ls 3 [(0, .ref (G.1 0)), (1, .int (gI a1))] := hl
  obtain ⟨x, ex, h⟩ := gWqS_some h
  refine lv_aload_n hx hb0 dL_unpoints_0 rfl (lv_at hl 0 rfl) ?_
  refine lv_iload_n hx hb0 dL_unpoints_1 rfl (lv_at hl 1 rfl) ?_
  refine g_xcallVs (k := 0) (T := TX8) (N := 10) (As := [.int (gI a1)]) (rest := []) (x := x) ⟨hx, hb0, hml, hown, hts⟩ (metX8_removeArrow l hlt D G σ μ a1 x ex) (g_cwX (C := RX8) 1 hts q_ml_L_91 q_im_X8_removeArrow q_se_X8_removeArrow q_in_X8 q_co_X8_removeArrow ⟨rfl, rfl⟩ (by decide +kernel) ⟨Nat.le_of_ble_eq_true rfl, Nat.le_of_ble_eq_true rfl⟩) hX hH (rfl : gKinds[0]? = _) rfl rfl hl.1 rfl (Nat.le_of_ble_eq_true rfl) dL_unpoints_2 ⟨Nat.le_of_ble_eq_true rfl, Nat.le_of_ble_eq_true rfl⟩ (fun k9 E9 ce9 q9 H locs hk9 hE9 hH h1 h2 h3 => ?_) (fun u9 hu9 H locs hH => ?_)
  · rcases h with ⟨u8, h8, -, -⟩ | ⟨k8, h8, hc8, rfl⟩
    · rw [h8] at hk9
      cases hk9
    · have hkk : k9 = k8 := by
        rw [h8] at hk9
        exact (Sum.inl.inj hk9).symm
      rw [hkk] at hE9
      by_cases g0 : k8 = 3
      · subst g0
        have hE9 : E9 = "java/lang/IndexOutOfBoundsException" := hE9
        subst hE9
        have hc9 : (-100001 : Int) = r := by simpa [gHd] using hc8
        subst hc9
        refine vx_catch (own := RL) (name := "java/lang/IndexOutOfBoundsException") hown [] ⟨0, 5, 6, 82⟩ [] (by rw [htab]; rfl) (fun z hz => nomatch hz) rfl (by decide) (hts _ q_cl_L_82) (va_Nw.use rfl (hX.2.2.2.2.2.2.2.2.1 ("java/lang/IndexOutOfBoundsException", "java/lang/IndexOutOfBoundsException") (by decide +kernel))) h1 h2 h3 ?_
        refine lv_astore_n (lv' := (2, .ref q9) :: [(0, .ref (G.1 0)), (1, .int (gI a1))]) hx hb0 dL_unpoints_6 rfl hl (by decide) rfl (fun ls hl => ?_)
        refine lv_ldc (v := gI (-100001 : Int)) hx hb0 hown (hts _ q_ki_L_46) dL_unpoints_7 ?_
        exact g_iret hx hb0 hr hH hlocks dL_unpoints_9
      · exact absurd hc8 (by simp [gHd, g0])
  · rcases h with ⟨u8, h8, rfl, rfl⟩ | ⟨k8, h8, hc8, -⟩
    · have huu : u9 = u8 := by
        rw [h8] at hu9
        exact (Sum.inr.inj hu9).symm
      simp only [huu] at hH ⊢
      exact g_iret hx hb0 hr hH hlocks dL_unpoints_5
    · rw [h8] at hu9
      cases hu9
set_option maxHeartbeats 4000000 in
set_option maxRecDepth 100000 in
theorem metL_valueOf (l : Launch) (hlt : l.stackTraces = false) (D : va_G) (G : gAd) (σ : gSt) (μ : gLg) (a1 : Int) (r : Int) (h : gWqP (DX8_value σ a1) [(1, (-100002 : Int))] = some r) : Met l yL_valueOf (gWw yL_valueOf cL_valueOf 3 (some .int) [(0, 5, 6, 71)]) ({ frames := 7, cells := 1, slots := 6, locals := 103 } : Room) (gPc D G [.ref (G.1 0), .int (gI a1)] σ μ) (gQi D G r σ μ) 1 6 (gA G) := by
  refine va_MetW (cc := cL_valueOf) (maxL := 3) (ret := some .int) (hh := [(0, 5, 6, 71)]) (by decide) rfl ?_
  intro p e s m args below meth c s₁ B hml hv
  obtain ⟨rfl, hP, hX⟩ := hv
  have hx := B.exec
  have hb0 := B.bytes
  have hr := B.returns
  have hts0 := atoms_spec (ws := (gWw yL_valueOf cL_valueOf 3 (some .int) [(0, 5, 6, 71)])) B.pre
  have htab := vx_table (x := yL_valueOf) B (hts0 _ List.mem_cons_self)
  have hts : ∀ w ∈ gLW, w.before _ s = true := fun w hw => hts0 w (List.mem_cons_of_mem _ hw)
  have hown : s.vm.findClass RL = some m.cls := findClass_of_methodNamed B.named
  have hlocks := B.notSynchronized
  have hH : gH D G s s.heap [] σ μ := ⟨hP, va_S.rf⟩
  have hl := lv_entry ([.ref (G.1 0), .int (gI a1)]) (n := 3) (Nat.le_of_ble_eq_true rfl)
  rw [lg_entry_eq]
  generalize (lg_sl ([.ref (G.1 0), .int (gI a1)]) ++ List.replicate (3 - (lg_sl ([.ref (G.1 0), .int (gI a1)])).length) Slot.unset).toArray = ls at hl ⊢
  have hl : lv_has ls 3 [(0, .ref (G.1 0)), (1, .int (gI a1))] := hl
  obtain ⟨x, ex, h⟩ := gWqP_some h
  refine lv_aload_n hx hb0 dL_valueOf_0 rfl (lv_at hl 0 rfl) ?_
  refine lv_iload_n hx hb0 dL_valueOf_1 rfl (lv_at hl 1 rfl) ?_
  refine g_xcallVp (k := 0) (T := TX8) (N := 10) (As := [.int (gI a1)]) (rest := []) (x := x) ⟨hx, hb0, hml, hown, hts⟩ (metX8_value l hlt D G σ μ a1 x ex) (g_cwX (C := RX8) 1 hts q_ml_L_94 q_im_X8_value q_se_X8_value q_in_X8 q_co_X8_value ⟨rfl, rfl⟩ (by decide +kernel) ⟨Nat.le_of_ble_eq_true rfl, Nat.le_of_ble_eq_true rfl⟩) hX hH (rfl : gKinds[0]? = _) rfl rfl hl.1 rfl (Nat.le_of_ble_eq_true rfl) dL_valueOf_2 ⟨Nat.le_of_ble_eq_true rfl, Nat.le_of_ble_eq_true rfl⟩ (fun k9 E9 ce9 q9 H locs hk9 hE9 hH h1 h2 h3 => ?_) (fun u9 hu9 H locs hH => ?_)
  · rcases h with ⟨u8, h8, -⟩ | ⟨k8, h8, hc8⟩
    · rw [h8] at hk9
      cases hk9
    · have hkk : k9 = k8 := by
        rw [h8] at hk9
        exact (Sum.inl.inj hk9).symm
      rw [hkk] at hE9
      by_cases g0 : k8 = 1
      · subst g0
        have hE9 : E9 = "java/lang/IllegalArgumentException" := hE9
        subst hE9
        have hc9 : (-100002 : Int) = r := by simpa [gHd] using hc8
        subst hc9
        refine vx_catch (own := RL) (name := "java/lang/IllegalArgumentException") hown [] ⟨0, 5, 6, 71⟩ [] (by rw [htab]; rfl) (fun z hz => nomatch hz) rfl (by decide) (hts _ q_cl_L_71) (va_Nw.use rfl (hX.2.2.2.2.2.2.2.2.1 ("java/lang/IllegalArgumentException", "java/lang/IllegalArgumentException") (by decide +kernel))) h1 h2 h3 ?_
        refine lv_astore_n (lv' := (2, .ref q9) :: [(0, .ref (G.1 0)), (1, .int (gI a1))]) hx hb0 dL_valueOf_6 rfl hl (by decide) rfl (fun ls hl => ?_)
        refine lv_ldc (v := gI (-100002 : Int)) hx hb0 hown (hts _ q_ki_L_61) dL_valueOf_7 ?_
        exact g_iret hx hb0 hr hH hlocks dL_valueOf_9
      · exact absurd hc8 (by simp [gHd, g0])
  · rcases h with ⟨u8, h8, rfl⟩ | ⟨k8, h8, hc8⟩
    · have huu : u9 = r := by
        rw [h8] at hu9
        exact (Sum.inr.inj hu9).symm
      simp only [huu] at hH ⊢
      exact g_iret hx hb0 hr hH hlocks dL_valueOf_5
    · rw [h8] at hu9
      cases hu9
set_option maxHeartbeats 4000000 in
set_option maxRecDepth 100000 in
theorem metL_taskOf (l : Launch) (hlt : l.stackTraces = false) (D : va_G) (G : gAd) (σ : gSt) (μ : gLg) (a1 : Int) (a2 : Int) (r : Int) (h : gWqP (DX8_task σ a1 a2) [(3, (-100001 : Int)), (1, (-100002 : Int))] = some r) : Met l yL_taskOf (gWw yL_taskOf cL_taskOf 4 (some .int) [(0, 6, 7, 82), (0, 6, 11, 71)]) ({ frames := 8, cells := 2, slots := 12, locals := 125 } : Room) (gPc D G [.ref (G.1 0), .int (gI a1), .int (gI a2)] σ μ) (gQi D G r σ μ) 2 12 (gA G) := by
  refine va_MetW (cc := cL_taskOf) (maxL := 4) (ret := some .int) (hh := [(0, 6, 7, 82), (0, 6, 11, 71)]) (by decide) rfl ?_
  intro p e s m args below meth c s₁ B hml hv
  obtain ⟨rfl, hP, hX⟩ := hv
  have hx := B.exec
  have hb0 := B.bytes
  have hr := B.returns
  have hts0 := atoms_spec (ws := (gWw yL_taskOf cL_taskOf 4 (some .int) [(0, 6, 7, 82), (0, 6, 11, 71)])) B.pre
  have htab := vx_table (x := yL_taskOf) B (hts0 _ List.mem_cons_self)
  have hts : ∀ w ∈ gLW, w.before _ s = true := fun w hw => hts0 w (List.mem_cons_of_mem _ hw)
  have hown : s.vm.findClass RL = some m.cls := findClass_of_methodNamed B.named
  have hlocks := B.notSynchronized
  have hH : gH D G s s.heap [] σ μ := ⟨hP, va_S.rf⟩
  have hl := lv_entry ([.ref (G.1 0), .int (gI a1), .int (gI a2)]) (n := 4) (Nat.le_of_ble_eq_true rfl)
  rw [lg_entry_eq]
  generalize (lg_sl ([.ref (G.1 0), .int (gI a1), .int (gI a2)]) ++ List.replicate (4 - (lg_sl ([.ref (G.1 0), .int (gI a1), .int (gI a2)])).length) Slot.unset).toArray = ls at hl ⊢
  have hl : lv_has ls 4 [(0, .ref (G.1 0)), (1, .int (gI a1)), (2, .int (gI a2))] := hl
  obtain ⟨x, ex, h⟩ := gWqP_some h
  refine lv_aload_n hx hb0 dL_taskOf_0 rfl (lv_at hl 0 rfl) ?_
  refine lv_iload_n hx hb0 dL_taskOf_1 rfl (lv_at hl 1 rfl) ?_
  refine lv_iload_n hx hb0 dL_taskOf_2 rfl (lv_at hl 2 rfl) ?_
  refine g_xcallVp (k := 0) (T := TX8) (N := 10) (As := [.int (gI a1), .int (gI a2)]) (rest := []) (x := x) ⟨hx, hb0, hml, hown, hts⟩ (metX8_task l hlt D G σ μ a1 a2 x ex) (g_cwX (C := RX8) 2 hts q_ml_L_97 q_im_X8_task q_se_X8_task q_in_X8 q_co_X8_task ⟨rfl, rfl⟩ (by decide +kernel) ⟨Nat.le_of_ble_eq_true rfl, Nat.le_of_ble_eq_true rfl⟩) hX hH (rfl : gKinds[0]? = _) rfl rfl hl.1 rfl (Nat.le_of_ble_eq_true rfl) dL_taskOf_3 ⟨Nat.le_of_ble_eq_true rfl, Nat.le_of_ble_eq_true rfl⟩ (fun k9 E9 ce9 q9 H locs hk9 hE9 hH h1 h2 h3 => ?_) (fun u9 hu9 H locs hH => ?_)
  · rcases h with ⟨u8, h8, -⟩ | ⟨k8, h8, hc8⟩
    · rw [h8] at hk9
      cases hk9
    · have hkk : k9 = k8 := by
        rw [h8] at hk9
        exact (Sum.inl.inj hk9).symm
      rw [hkk] at hE9
      by_cases g0 : k8 = 3
      · subst g0
        have hE9 : E9 = "java/lang/IndexOutOfBoundsException" := hE9
        subst hE9
        have hc9 : (-100001 : Int) = r := by simpa [gHd] using hc8
        subst hc9
        refine vx_catch (own := RL) (name := "java/lang/IndexOutOfBoundsException") hown [] ⟨0, 6, 7, 82⟩ [⟨0, 6, 11, 71⟩] (by rw [htab]; rfl) (fun z hz => nomatch hz) rfl (by decide) (hts _ q_cl_L_82) (va_Nw.use rfl (hX.2.2.2.2.2.2.2.2.1 ("java/lang/IndexOutOfBoundsException", "java/lang/IndexOutOfBoundsException") (by decide +kernel))) h1 h2 h3 ?_
        refine lv_astore_n (lv' := (3, .ref q9) :: [(0, .ref (G.1 0)), (1, .int (gI a1)), (2, .int (gI a2))]) hx hb0 dL_taskOf_7 rfl hl (by decide) rfl (fun ls hl => ?_)
        refine lv_ldc (v := gI (-100001 : Int)) hx hb0 hown (hts _ q_ki_L_46) dL_taskOf_8 ?_
        exact g_iret hx hb0 hr hH hlocks dL_taskOf_10
      · skip
        by_cases g1 : k8 = 1
        · subst g1
          have hE9 : E9 = "java/lang/IllegalArgumentException" := hE9
          subst hE9
          have hc9 : (-100002 : Int) = r := by simpa [gHd] using hc8
          subst hc9
          refine vx_catch (own := RL) (name := "java/lang/IllegalArgumentException") hown [⟨0, 6, 7, 82⟩] ⟨0, 6, 11, 71⟩ [] (by rw [htab]; rfl) (fun z hz => by
            simp only [List.mem_cons, List.not_mem_nil, or_false] at hz
            rcases hz with rfl
            · exact Or.inr ⟨by decide, "java/lang/IndexOutOfBoundsException", hts _ q_cl_L_82, g_nc hX (by decide +kernel)⟩) rfl (by decide) (hts _ q_cl_L_71) (va_Nw.use rfl (hX.2.2.2.2.2.2.2.2.1 ("java/lang/IllegalArgumentException", "java/lang/IllegalArgumentException") (by decide +kernel))) h1 h2 h3 ?_
          refine lv_astore_n (lv' := (3, .ref q9) :: [(0, .ref (G.1 0)), (1, .int (gI a1)), (2, .int (gI a2))]) hx hb0 dL_taskOf_11 rfl hl (by decide) rfl (fun ls hl => ?_)
          refine lv_ldc (v := gI (-100002 : Int)) hx hb0 hown (hts _ q_ki_L_61) dL_taskOf_12 ?_
          exact g_iret hx hb0 hr hH hlocks dL_taskOf_14
        · exact absurd hc8 (by simp [gHd, g0, g1])
  · rcases h with ⟨u8, h8, rfl⟩ | ⟨k8, h8, hc8⟩
    · have huu : u9 = r := by
        rw [h8] at hu9
        exact (Sum.inr.inj hu9).symm
      simp only [huu] at hH ⊢
      exact g_iret hx hb0 hr hH hlocks dL_taskOf_6
    · rw [h8] at hu9
      cases hu9
set_option maxHeartbeats 4000000 in
set_option maxRecDepth 100000 in
theorem metL_rowOf (l : Launch) (hlt : l.stackTraces = false) (D : va_G) (G : gAd) (σ : gSt) (μ : gLg) (a1 : Int) (a2 : Int) (r : Int) (h : gWqP (DX8_row σ a1 a2) [(3, (-100001 : Int))] = some r) : Met l yL_rowOf (gWw yL_rowOf cL_rowOf 4 (some .int) [(0, 6, 7, 82)]) ({ frames := 8, cells := 2, slots := 12, locals := 125 } : Room) (gPc D G [.ref (G.1 0), .int (gI a1), .int (gI a2)] σ μ) (gQi D G r σ μ) 2 12 (gA G) := by
  refine va_MetW (cc := cL_rowOf) (maxL := 4) (ret := some .int) (hh := [(0, 6, 7, 82)]) (by decide) rfl ?_
  intro p e s m args below meth c s₁ B hml hv
  obtain ⟨rfl, hP, hX⟩ := hv
  have hx := B.exec
  have hb0 := B.bytes
  have hr := B.returns
  have hts0 := atoms_spec (ws := (gWw yL_rowOf cL_rowOf 4 (some .int) [(0, 6, 7, 82)])) B.pre
  have htab := vx_table (x := yL_rowOf) B (hts0 _ List.mem_cons_self)
  have hts : ∀ w ∈ gLW, w.before _ s = true := fun w hw => hts0 w (List.mem_cons_of_mem _ hw)
  have hown : s.vm.findClass RL = some m.cls := findClass_of_methodNamed B.named
  have hlocks := B.notSynchronized
  have hH : gH D G s s.heap [] σ μ := ⟨hP, va_S.rf⟩
  have hl := lv_entry ([.ref (G.1 0), .int (gI a1), .int (gI a2)]) (n := 4) (Nat.le_of_ble_eq_true rfl)
  rw [lg_entry_eq]
  generalize (lg_sl ([.ref (G.1 0), .int (gI a1), .int (gI a2)]) ++ List.replicate (4 - (lg_sl ([.ref (G.1 0), .int (gI a1), .int (gI a2)])).length) Slot.unset).toArray = ls at hl ⊢
  have hl : lv_has ls 4 [(0, .ref (G.1 0)), (1, .int (gI a1)), (2, .int (gI a2))] := hl
  obtain ⟨x, ex, h⟩ := gWqP_some h
  refine lv_aload_n hx hb0 dL_rowOf_0 rfl (lv_at hl 0 rfl) ?_
  refine lv_iload_n hx hb0 dL_rowOf_1 rfl (lv_at hl 1 rfl) ?_
  refine lv_iload_n hx hb0 dL_rowOf_2 rfl (lv_at hl 2 rfl) ?_
  refine g_xcallVp (k := 0) (T := TX8) (N := 10) (As := [.int (gI a1), .int (gI a2)]) (rest := []) (x := x) ⟨hx, hb0, hml, hown, hts⟩ (metX8_row l hlt D G σ μ a1 a2 x ex) (g_cwX (C := RX8) 2 hts q_ml_L_100 q_im_X8_row q_se_X8_row q_in_X8 q_co_X8_row ⟨rfl, rfl⟩ (by decide +kernel) ⟨Nat.le_of_ble_eq_true rfl, Nat.le_of_ble_eq_true rfl⟩) hX hH (rfl : gKinds[0]? = _) rfl rfl hl.1 rfl (Nat.le_of_ble_eq_true rfl) dL_rowOf_3 ⟨Nat.le_of_ble_eq_true rfl, Nat.le_of_ble_eq_true rfl⟩ (fun k9 E9 ce9 q9 H locs hk9 hE9 hH h1 h2 h3 => ?_) (fun u9 hu9 H locs hH => ?_)
  · rcases h with ⟨u8, h8, -⟩ | ⟨k8, h8, hc8⟩
    · rw [h8] at hk9
      cases hk9
    · have hkk : k9 = k8 := by
        rw [h8] at hk9
        exact (Sum.inl.inj hk9).symm
      rw [hkk] at hE9
      by_cases g0 : k8 = 3
      · subst g0
        have hE9 : E9 = "java/lang/IndexOutOfBoundsException" := hE9
        subst hE9
        have hc9 : (-100001 : Int) = r := by simpa [gHd] using hc8
        subst hc9
        refine vx_catch (own := RL) (name := "java/lang/IndexOutOfBoundsException") hown [] ⟨0, 6, 7, 82⟩ [] (by rw [htab]; rfl) (fun z hz => nomatch hz) rfl (by decide) (hts _ q_cl_L_82) (va_Nw.use rfl (hX.2.2.2.2.2.2.2.2.1 ("java/lang/IndexOutOfBoundsException", "java/lang/IndexOutOfBoundsException") (by decide +kernel))) h1 h2 h3 ?_
        refine lv_astore_n (lv' := (3, .ref q9) :: [(0, .ref (G.1 0)), (1, .int (gI a1)), (2, .int (gI a2))]) hx hb0 dL_rowOf_7 rfl hl (by decide) rfl (fun ls hl => ?_)
        refine lv_ldc (v := gI (-100001 : Int)) hx hb0 hown (hts _ q_ki_L_46) dL_rowOf_8 ?_
        exact g_iret hx hb0 hr hH hlocks dL_rowOf_10
      · exact absurd hc8 (by simp [gHd, g0])
  · rcases h with ⟨u8, h8, rfl⟩ | ⟨k8, h8, hc8⟩
    · have huu : u9 = r := by
        rw [h8] at hu9
        exact (Sum.inr.inj hu9).symm
      simp only [huu] at hH ⊢
      exact g_iret hx hb0 hr hH hlocks dL_rowOf_6
    · rw [h8] at hu9
      cases hu9
set_option maxHeartbeats 4000000 in
set_option maxRecDepth 100000 in
theorem metL_partOf (l : Launch) (hlt : l.stackTraces = false) (D : va_G) (G : gAd) (σ : gSt) (μ : gLg) (a1 : Int) (a2 : Int) (a3 : Int) (r : Int) (h : gWqP (DX8_part σ a1 a2 a3) [(3, (-100001 : Int)), (1, (-100002 : Int))] = some r) : Met l yL_partOf (gWw yL_partOf cL_partOf 5 (some .int) [(0, 7, 8, 82), (0, 7, 13, 71)]) ({ frames := 8, cells := 2, slots := 12, locals := 126 } : Room) (gPc D G [.ref (G.1 0), .int (gI a1), .int (gI a2), .int (gI a3)] σ μ) (gQi D G r σ μ) 2 12 (gA G) := by
  refine va_MetW (cc := cL_partOf) (maxL := 5) (ret := some .int) (hh := [(0, 7, 8, 82), (0, 7, 13, 71)]) (by decide) rfl ?_
  intro p e s m args below meth c s₁ B hml hv
  obtain ⟨rfl, hP, hX⟩ := hv
  have hx := B.exec
  have hb0 := B.bytes
  have hr := B.returns
  have hts0 := atoms_spec (ws := (gWw yL_partOf cL_partOf 5 (some .int) [(0, 7, 8, 82), (0, 7, 13, 71)])) B.pre
  have htab := vx_table (x := yL_partOf) B (hts0 _ List.mem_cons_self)
  have hts : ∀ w ∈ gLW, w.before _ s = true := fun w hw => hts0 w (List.mem_cons_of_mem _ hw)
  have hown : s.vm.findClass RL = some m.cls := findClass_of_methodNamed B.named
  have hlocks := B.notSynchronized
  have hH : gH D G s s.heap [] σ μ := ⟨hP, va_S.rf⟩
  have hl := lv_entry ([.ref (G.1 0), .int (gI a1), .int (gI a2), .int (gI a3)]) (n := 5) (Nat.le_of_ble_eq_true rfl)
  rw [lg_entry_eq]
  generalize (lg_sl ([.ref (G.1 0), .int (gI a1), .int (gI a2), .int (gI a3)]) ++ List.replicate (5 - (lg_sl ([.ref (G.1 0), .int (gI a1), .int (gI a2), .int (gI a3)])).length) Slot.unset).toArray = ls at hl ⊢
  have hl : lv_has ls 5 [(0, .ref (G.1 0)), (1, .int (gI a1)), (2, .int (gI a2)), (3, .int (gI a3))] := hl
  obtain ⟨x, ex, h⟩ := gWqP_some h
  refine lv_aload_n hx hb0 dL_partOf_0 rfl (lv_at hl 0 rfl) ?_
  refine lv_iload_n hx hb0 dL_partOf_1 rfl (lv_at hl 1 rfl) ?_
  refine lv_iload_n hx hb0 dL_partOf_2 rfl (lv_at hl 2 rfl) ?_
  refine lv_iload_n hx hb0 dL_partOf_3 rfl (lv_at hl 3 rfl) ?_
  refine g_xcallVp (k := 0) (T := TX8) (N := 10) (As := [.int (gI a1), .int (gI a2), .int (gI a3)]) (rest := []) (x := x) ⟨hx, hb0, hml, hown, hts⟩ (metX8_part l hlt D G σ μ a1 a2 a3 x ex) (g_cwX (C := RX8) 3 hts q_ml_L_103 q_im_X8_part q_se_X8_part q_in_X8 q_co_X8_part ⟨rfl, rfl⟩ (by decide +kernel) ⟨Nat.le_of_ble_eq_true rfl, Nat.le_of_ble_eq_true rfl⟩) hX hH (rfl : gKinds[0]? = _) rfl rfl hl.1 rfl (Nat.le_of_ble_eq_true rfl) dL_partOf_4 ⟨Nat.le_of_ble_eq_true rfl, Nat.le_of_ble_eq_true rfl⟩ (fun k9 E9 ce9 q9 H locs hk9 hE9 hH h1 h2 h3 => ?_) (fun u9 hu9 H locs hH => ?_)
  · rcases h with ⟨u8, h8, -⟩ | ⟨k8, h8, hc8⟩
    · rw [h8] at hk9
      cases hk9
    · have hkk : k9 = k8 := by
        rw [h8] at hk9
        exact (Sum.inl.inj hk9).symm
      rw [hkk] at hE9
      by_cases g0 : k8 = 3
      · subst g0
        have hE9 : E9 = "java/lang/IndexOutOfBoundsException" := hE9
        subst hE9
        have hc9 : (-100001 : Int) = r := by simpa [gHd] using hc8
        subst hc9
        refine vx_catch (own := RL) (name := "java/lang/IndexOutOfBoundsException") hown [] ⟨0, 7, 8, 82⟩ [⟨0, 7, 13, 71⟩] (by rw [htab]; rfl) (fun z hz => nomatch hz) rfl (by decide) (hts _ q_cl_L_82) (va_Nw.use rfl (hX.2.2.2.2.2.2.2.2.1 ("java/lang/IndexOutOfBoundsException", "java/lang/IndexOutOfBoundsException") (by decide +kernel))) h1 h2 h3 ?_
        refine lv_astore (lv' := (4, .ref q9) :: [(0, .ref (G.1 0)), (1, .int (gI a1)), (2, .int (gI a2)), (3, .int (gI a3))]) hx hb0 dL_partOf_8 hl (by decide) rfl (fun ls hl => ?_)
        refine lv_ldc (v := gI (-100001 : Int)) hx hb0 hown (hts _ q_ki_L_46) dL_partOf_10 ?_
        exact g_iret hx hb0 hr hH hlocks dL_partOf_12
      · skip
        by_cases g1 : k8 = 1
        · subst g1
          have hE9 : E9 = "java/lang/IllegalArgumentException" := hE9
          subst hE9
          have hc9 : (-100002 : Int) = r := by simpa [gHd] using hc8
          subst hc9
          refine vx_catch (own := RL) (name := "java/lang/IllegalArgumentException") hown [⟨0, 7, 8, 82⟩] ⟨0, 7, 13, 71⟩ [] (by rw [htab]; rfl) (fun z hz => by
            simp only [List.mem_cons, List.not_mem_nil, or_false] at hz
            rcases hz with rfl
            · exact Or.inr ⟨by decide, "java/lang/IndexOutOfBoundsException", hts _ q_cl_L_82, g_nc hX (by decide +kernel)⟩) rfl (by decide) (hts _ q_cl_L_71) (va_Nw.use rfl (hX.2.2.2.2.2.2.2.2.1 ("java/lang/IllegalArgumentException", "java/lang/IllegalArgumentException") (by decide +kernel))) h1 h2 h3 ?_
          refine lv_astore (lv' := (4, .ref q9) :: [(0, .ref (G.1 0)), (1, .int (gI a1)), (2, .int (gI a2)), (3, .int (gI a3))]) hx hb0 dL_partOf_13 hl (by decide) rfl (fun ls hl => ?_)
          refine lv_ldc (v := gI (-100002 : Int)) hx hb0 hown (hts _ q_ki_L_61) dL_partOf_15 ?_
          exact g_iret hx hb0 hr hH hlocks dL_partOf_17
        · exact absurd hc8 (by simp [gHd, g0, g1])
  · rcases h with ⟨u8, h8, rfl⟩ | ⟨k8, h8, hc8⟩
    · have huu : u9 = r := by
        rw [h8] at hu9
        exact (Sum.inr.inj hu9).symm
      simp only [huu] at hH ⊢
      exact g_iret hx hb0 hr hH hlocks dL_partOf_7
    · rw [h8] at hu9
      cases hu9
set_option maxHeartbeats 4000000 in
set_option maxRecDepth 100000 in
theorem metL_delayOf (l : Launch) (hlt : l.stackTraces = false) (D : va_G) (G : gAd) (σ : gSt) (μ : gLg) (a1 : Int) (r : Int) (h : gWqP (DX8_delay σ a1) [(3, (-100001 : Int))] = some r) : Met l yL_delayOf (gWw yL_delayOf cL_delayOf 3 (some .int) [(0, 5, 6, 82)]) ({ frames := 8, cells := 1, slots := 6, locals := 126 } : Room) (gPc D G [.ref (G.1 0), .int (gI a1)] σ μ) (gQi D G r σ μ) 1 6 (gA G) := by
  refine va_MetW (cc := cL_delayOf) (maxL := 3) (ret := some .int) (hh := [(0, 5, 6, 82)]) (by decide) rfl ?_
  intro p e s m args below meth c s₁ B hml hv
  obtain ⟨rfl, hP, hX⟩ := hv
  have hx := B.exec
  have hb0 := B.bytes
  have hr := B.returns
  have hts0 := atoms_spec (ws := (gWw yL_delayOf cL_delayOf 3 (some .int) [(0, 5, 6, 82)])) B.pre
  have htab := vx_table (x := yL_delayOf) B (hts0 _ List.mem_cons_self)
  have hts : ∀ w ∈ gLW, w.before _ s = true := fun w hw => hts0 w (List.mem_cons_of_mem _ hw)
  have hown : s.vm.findClass RL = some m.cls := findClass_of_methodNamed B.named
  have hlocks := B.notSynchronized
  have hH : gH D G s s.heap [] σ μ := ⟨hP, va_S.rf⟩
  have hl := lv_entry ([.ref (G.1 0), .int (gI a1)]) (n := 3) (Nat.le_of_ble_eq_true rfl)
  rw [lg_entry_eq]
  generalize (lg_sl ([.ref (G.1 0), .int (gI a1)]) ++ List.replicate (3 - (lg_sl ([.ref (G.1 0), .int (gI a1)])).length) Slot.unset).toArray = ls at hl ⊢
  have hl : lv_has ls 3 [(0, .ref (G.1 0)), (1, .int (gI a1))] := hl
  obtain ⟨x, ex, h⟩ := gWqP_some h
  refine lv_aload_n hx hb0 dL_delayOf_0 rfl (lv_at hl 0 rfl) ?_
  refine lv_iload_n hx hb0 dL_delayOf_1 rfl (lv_at hl 1 rfl) ?_
  refine g_xcallVp (k := 0) (T := TX8) (N := 10) (As := [.int (gI a1)]) (rest := []) (x := x) ⟨hx, hb0, hml, hown, hts⟩ (metX8_delay l hlt D G σ μ a1 x ex) (g_cwX (C := RX8) 1 hts q_ml_L_106 q_im_X8_delay q_se_X8_delay q_in_X8 q_co_X8_delay ⟨rfl, rfl⟩ (by decide +kernel) ⟨Nat.le_of_ble_eq_true rfl, Nat.le_of_ble_eq_true rfl⟩) hX hH (rfl : gKinds[0]? = _) rfl rfl hl.1 rfl (Nat.le_of_ble_eq_true rfl) dL_delayOf_2 ⟨Nat.le_of_ble_eq_true rfl, Nat.le_of_ble_eq_true rfl⟩ (fun k9 E9 ce9 q9 H locs hk9 hE9 hH h1 h2 h3 => ?_) (fun u9 hu9 H locs hH => ?_)
  · rcases h with ⟨u8, h8, -⟩ | ⟨k8, h8, hc8⟩
    · rw [h8] at hk9
      cases hk9
    · have hkk : k9 = k8 := by
        rw [h8] at hk9
        exact (Sum.inl.inj hk9).symm
      rw [hkk] at hE9
      by_cases g0 : k8 = 3
      · subst g0
        have hE9 : E9 = "java/lang/IndexOutOfBoundsException" := hE9
        subst hE9
        have hc9 : (-100001 : Int) = r := by simpa [gHd] using hc8
        subst hc9
        refine vx_catch (own := RL) (name := "java/lang/IndexOutOfBoundsException") hown [] ⟨0, 5, 6, 82⟩ [] (by rw [htab]; rfl) (fun z hz => nomatch hz) rfl (by decide) (hts _ q_cl_L_82) (va_Nw.use rfl (hX.2.2.2.2.2.2.2.2.1 ("java/lang/IndexOutOfBoundsException", "java/lang/IndexOutOfBoundsException") (by decide +kernel))) h1 h2 h3 ?_
        refine lv_astore_n (lv' := (2, .ref q9) :: [(0, .ref (G.1 0)), (1, .int (gI a1))]) hx hb0 dL_delayOf_6 rfl hl (by decide) rfl (fun ls hl => ?_)
        refine lv_ldc (v := gI (-100001 : Int)) hx hb0 hown (hts _ q_ki_L_46) dL_delayOf_7 ?_
        exact g_iret hx hb0 hr hH hlocks dL_delayOf_9
      · exact absurd hc8 (by simp [gHd, g0])
  · rcases h with ⟨u8, h8, rfl⟩ | ⟨k8, h8, hc8⟩
    · have huu : u9 = r := by
        rw [h8] at hu9
        exact (Sum.inr.inj hu9).symm
      simp only [huu] at hH ⊢
      exact g_iret hx hb0 hr hH hlocks dL_delayOf_5
    · rw [h8] at hu9
      cases hu9
set_option maxHeartbeats 4000000 in
set_option maxRecDepth 100000 in
theorem metL_arrowBy (l : Launch) (hlt : l.stackTraces = false) (D : va_G) (G : gAd) (σ : gSt) (μ : gLg) (a1 : Int) (a2 : Int) (r : Int) (h : gWqP (DX8_arrow σ a1 a2) [(3, (-100001 : Int)), (1, (-100002 : Int))] = some r) : Met l yL_arrowBy (gWw yL_arrowBy cL_arrowBy 4 (some .int) [(0, 6, 7, 82), (0, 6, 11, 71)]) ({ frames := 8, cells := 2, slots := 12, locals := 125 } : Room) (gPc D G [.ref (G.1 0), .int (gI a1), .int (gI a2)] σ μ) (gQi D G r σ μ) 2 12 (gA G) := by
  refine va_MetW (cc := cL_arrowBy) (maxL := 4) (ret := some .int) (hh := [(0, 6, 7, 82), (0, 6, 11, 71)]) (by decide) rfl ?_
  intro p e s m args below meth c s₁ B hml hv
  obtain ⟨rfl, hP, hX⟩ := hv
  have hx := B.exec
  have hb0 := B.bytes
  have hr := B.returns
  have hts0 := atoms_spec (ws := (gWw yL_arrowBy cL_arrowBy 4 (some .int) [(0, 6, 7, 82), (0, 6, 11, 71)])) B.pre
  have htab := vx_table (x := yL_arrowBy) B (hts0 _ List.mem_cons_self)
  have hts : ∀ w ∈ gLW, w.before _ s = true := fun w hw => hts0 w (List.mem_cons_of_mem _ hw)
  have hown : s.vm.findClass RL = some m.cls := findClass_of_methodNamed B.named
  have hlocks := B.notSynchronized
  have hH : gH D G s s.heap [] σ μ := ⟨hP, va_S.rf⟩
  have hl := lv_entry ([.ref (G.1 0), .int (gI a1), .int (gI a2)]) (n := 4) (Nat.le_of_ble_eq_true rfl)
  rw [lg_entry_eq]
  generalize (lg_sl ([.ref (G.1 0), .int (gI a1), .int (gI a2)]) ++ List.replicate (4 - (lg_sl ([.ref (G.1 0), .int (gI a1), .int (gI a2)])).length) Slot.unset).toArray = ls at hl ⊢
  have hl : lv_has ls 4 [(0, .ref (G.1 0)), (1, .int (gI a1)), (2, .int (gI a2))] := hl
  obtain ⟨x, ex, h⟩ := gWqP_some h
  refine lv_aload_n hx hb0 dL_arrowBy_0 rfl (lv_at hl 0 rfl) ?_
  refine lv_iload_n hx hb0 dL_arrowBy_1 rfl (lv_at hl 1 rfl) ?_
  refine lv_iload_n hx hb0 dL_arrowBy_2 rfl (lv_at hl 2 rfl) ?_
  refine g_xcallVp (k := 0) (T := TX8) (N := 10) (As := [.int (gI a1), .int (gI a2)]) (rest := []) (x := x) ⟨hx, hb0, hml, hown, hts⟩ (metX8_arrow l hlt D G σ μ a1 a2 x ex) (g_cwX (C := RX8) 2 hts q_ml_L_109 q_im_X8_arrow q_se_X8_arrow q_in_X8 q_co_X8_arrow ⟨rfl, rfl⟩ (by decide +kernel) ⟨Nat.le_of_ble_eq_true rfl, Nat.le_of_ble_eq_true rfl⟩) hX hH (rfl : gKinds[0]? = _) rfl rfl hl.1 rfl (Nat.le_of_ble_eq_true rfl) dL_arrowBy_3 ⟨Nat.le_of_ble_eq_true rfl, Nat.le_of_ble_eq_true rfl⟩ (fun k9 E9 ce9 q9 H locs hk9 hE9 hH h1 h2 h3 => ?_) (fun u9 hu9 H locs hH => ?_)
  · rcases h with ⟨u8, h8, -⟩ | ⟨k8, h8, hc8⟩
    · rw [h8] at hk9
      cases hk9
    · have hkk : k9 = k8 := by
        rw [h8] at hk9
        exact (Sum.inl.inj hk9).symm
      rw [hkk] at hE9
      by_cases g0 : k8 = 3
      · subst g0
        have hE9 : E9 = "java/lang/IndexOutOfBoundsException" := hE9
        subst hE9
        have hc9 : (-100001 : Int) = r := by simpa [gHd] using hc8
        subst hc9
        refine vx_catch (own := RL) (name := "java/lang/IndexOutOfBoundsException") hown [] ⟨0, 6, 7, 82⟩ [⟨0, 6, 11, 71⟩] (by rw [htab]; rfl) (fun z hz => nomatch hz) rfl (by decide) (hts _ q_cl_L_82) (va_Nw.use rfl (hX.2.2.2.2.2.2.2.2.1 ("java/lang/IndexOutOfBoundsException", "java/lang/IndexOutOfBoundsException") (by decide +kernel))) h1 h2 h3 ?_
        refine lv_astore_n (lv' := (3, .ref q9) :: [(0, .ref (G.1 0)), (1, .int (gI a1)), (2, .int (gI a2))]) hx hb0 dL_arrowBy_7 rfl hl (by decide) rfl (fun ls hl => ?_)
        refine lv_ldc (v := gI (-100001 : Int)) hx hb0 hown (hts _ q_ki_L_46) dL_arrowBy_8 ?_
        exact g_iret hx hb0 hr hH hlocks dL_arrowBy_10
      · skip
        by_cases g1 : k8 = 1
        · subst g1
          have hE9 : E9 = "java/lang/IllegalArgumentException" := hE9
          subst hE9
          have hc9 : (-100002 : Int) = r := by simpa [gHd] using hc8
          subst hc9
          refine vx_catch (own := RL) (name := "java/lang/IllegalArgumentException") hown [⟨0, 6, 7, 82⟩] ⟨0, 6, 11, 71⟩ [] (by rw [htab]; rfl) (fun z hz => by
            simp only [List.mem_cons, List.not_mem_nil, or_false] at hz
            rcases hz with rfl
            · exact Or.inr ⟨by decide, "java/lang/IndexOutOfBoundsException", hts _ q_cl_L_82, g_nc hX (by decide +kernel)⟩) rfl (by decide) (hts _ q_cl_L_71) (va_Nw.use rfl (hX.2.2.2.2.2.2.2.2.1 ("java/lang/IllegalArgumentException", "java/lang/IllegalArgumentException") (by decide +kernel))) h1 h2 h3 ?_
          refine lv_astore_n (lv' := (3, .ref q9) :: [(0, .ref (G.1 0)), (1, .int (gI a1)), (2, .int (gI a2))]) hx hb0 dL_arrowBy_11 rfl hl (by decide) rfl (fun ls hl => ?_)
          refine lv_ldc (v := gI (-100002 : Int)) hx hb0 hown (hts _ q_ki_L_61) dL_arrowBy_12 ?_
          exact g_iret hx hb0 hr hH hlocks dL_arrowBy_14
        · exact absurd hc8 (by simp [gHd, g0, g1])
  · rcases h with ⟨u8, h8, rfl⟩ | ⟨k8, h8, hc8⟩
    · have huu : u9 = r := by
        rw [h8] at hu9
        exact (Sum.inr.inj hu9).symm
      simp only [huu] at hH ⊢
      exact g_iret hx hb0 hr hH hlocks dL_arrowBy_6
    · rw [h8] at hu9
      cases hu9
