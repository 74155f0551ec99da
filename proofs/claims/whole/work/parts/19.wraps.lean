/-! the law's own methods: a call of the class, its exceptions caught and numbered, its answer written -/
theorem arrV_congr {cA : ClassId} {n : Nat} {f g : Nat → Value} (h : ∀ j, j < n → f j = g j) : arrV cA n f = arrV cA n g := by
  unfold arrV
  congr 1
  exact congrArg Array.ofFn (funext fun j => h j.val j.isLt)
theorem gO_long {D : va_G} {G : gAd} {σ : gSt} {μ : gLg} {k : Nat} {v : Int64} {H : Heap} (hk : gKinds[k]? = some (.inr (.inr (.inr 1)))) (hP : va_P D vwCl ((gW G σ μ).set k (G.1 k, .inl (G.2.2.2, 1, .inr (.inl (vp_updL (fun _ => μ k) 0 v))))) H) : va_P D vwCl (gW G σ (gUl μ k v)) H := by
  rw [← gW_set (G := G) (σ := σ) (μ := μ) hk rfl (fun j t' h => gE_ul j t' h)]
  intro i q hi
  rw [List.getElem?_set] at hi
  have hl : k < (gW G σ μ).length := by
    have := gW_get (G := G) (σ := σ) (μ := μ) hk
    exact (List.getElem?_eq_some_iff.mp this).1
  by_cases hik : k = i
  · subst hik
    rw [if_pos rfl, if_pos hl] at hi
    cases hi
    have h1 := hP k (G.1 k, .inl (G.2.2.2, 1, .inr (.inl (vp_updL (fun _ => μ k) 0 v)))) (by rw [List.getElem?_set, if_pos rfl, if_pos hl])
    have h2 : H[G.1 k]? = some (vp_cell G.2.2.2 (1, .inr (.inl (vp_updL (fun _ => μ k) 0 v)))) := h1
    show H[G.1 k]? = some (vp_cell G.2.2.2 (1, .inr (.inl (fun _ => gUl μ k v k))))
    rw [h2, vp_cell_l, vp_cell_l]
    refine congrArg some (arrV_congr fun j hj => ?_)
    have hj0 : j = 0 := by omega
    subst hj0
    simp [vp_updL, gUl]
  · rw [if_neg hik] at hi
    exact hP i q (by rw [List.getElem?_set, if_neg hik]; exact hi)
def gHd : List (Nat × Int) → Nat → Option Int
  | [], _ => none
  | q :: t, j => if j = q.1 then some q.2 else gHd t j
def gWrS (x : Option (Nat ⊕ (Int × gSt))) (hs : List (Nat × Int)) (σ : gSt) (μ : gLg) : Option (Int × gSt × gLg) := match x with
  | none => none
  | some (.inr u) => some (0, u.2, gUl μ 147 ((gI u.1).toInt64))
  | some (.inl k) => (gHd hs k).map fun c => (c, σ, μ)
def gWrP (x : Option (Nat ⊕ Int)) (hs : List (Nat × Int)) (μ : gLg) : Option (Int × gLg) := match x with
  | none => none
  | some (.inr u) => some (0, gUl μ 147 ((gI u).toInt64))
  | some (.inl k) => (gHd hs k).map fun c => (c, μ)
theorem gWrS_some {x : Option (Nat ⊕ (Int × gSt))} {hs : List (Nat × Int)} {σ σ' : gSt} {μ μ' : gLg} {r : Int} (h : gWrS x hs σ μ = some (r, σ', μ')) : ∃ y, x = some y ∧ ((∃ u : Int × gSt, y = .inr u ∧ r = 0 ∧ σ' = u.2 ∧ μ' = gUl μ 147 ((gI u.1).toInt64)) ∨ (∃ k, y = .inl k ∧ gHd hs k = some r ∧ σ' = σ ∧ μ' = μ)) := by
  cases x with
  | none => cases h
  | some y =>
    rcases y with k | u
    · refine ⟨_, rfl, Or.inr ⟨k, rfl, ?_⟩⟩
      unfold gWrS at h
      dsimp only at h
      cases hk : gHd hs k with
      | none => rw [hk] at h; cases h
      | some c => rw [hk] at h; cases h; exact ⟨rfl, rfl, rfl⟩
    · cases h
      exact ⟨_, rfl, Or.inl ⟨u, rfl, rfl, rfl, rfl⟩⟩
theorem gWrP_some {x : Option (Nat ⊕ Int)} {hs : List (Nat × Int)} {μ μ' : gLg} {r : Int} (h : gWrP x hs μ = some (r, μ')) : ∃ y, x = some y ∧ ((∃ u : Int, y = .inr u ∧ r = 0 ∧ μ' = gUl μ 147 ((gI u).toInt64)) ∨ (∃ k, y = .inl k ∧ gHd hs k = some r ∧ μ' = μ)) := by
  cases x with
  | none => cases h
  | some y =>
    rcases y with k | u
    · refine ⟨_, rfl, Or.inr ⟨k, rfl, ?_⟩⟩
      unfold gWrP at h
      dsimp only at h
      cases hk : gHd hs k with
      | none => rw [hk] at h; cases h
      | some c => rw [hk] at h; cases h; exact ⟨rfl, rfl⟩
    · cases h
      exact ⟨_, rfl, Or.inl ⟨u, rfl, rfl, rfl⟩⟩
theorem g_nc {D : va_G} {G : gAd} {s : State} (hX : gX D G s) {a b : String} (h : (a, b) ∈ gNoCast) (ha : (a, a) ∈ gCast := by decide +kernel) (hb : (b, b) ∈ gCast := by decide +kernel) : va_Nc a b s := by
  have h0 := hX.2.2.2.2.2.2.2.2.2.1 _ h
  have h1 : (Cond.castable a a).before #[] s = true := va_Nw.use rfl (hX.2.2.2.2.2.2.2.2.1 _ ha)
  have h2 : (Cond.castable b b).before #[] s = true := va_Nw.use rfl (hX.2.2.2.2.2.2.2.2.1 _ hb)
  obtain ⟨c1, c2, k1, k2, k3⟩ := Cond.castable_spec h1
  obtain ⟨c3, c4, k4, k5, k6⟩ := Cond.castable_spec h2
  refine ⟨c1, c3, k1, k4, ?_⟩
  dsimp only at h0
  simp only [Cond.before, Cond.holds, Cond.value, k1, k4] at h0
  simpa using h0
def gWw (y : MethodName) (c : ByteArray) (n : Nat) (r : Option FieldType) (hh : List (Nat × Nat × Nat × Nat)) : List Cond := Cond.codeWith y c n r hh :: gLW
section GL1
variable {p : Program} {l : Launch} {e : Env} {R : Room} {s : State} {m : MethodId} {args : Array Value} {below : List Frame} {meth : Method} {c : Code} {H : Heap} {locs : List Loc} {cells slots : Nat} {Q : State → Prop}
variable {cc : ByteArray} {pc : Nat} {ls : Array Slot} {rest : List Value} {D : va_G} {G : gAd} {σ : gSt} {μ : gLg}
theorem g_last (hexec : p.tables.exec = Jvm.exec) (hb : c.code = cc) (hX : gX D G s) (hH : gH D G s H locs σ μ) {k : Nat} {v : Int64} (hk : gKinds[k]? = some (.inr (.inr (.inr 1)))) (hdg : decode cc pc = .ok (.lastore, 1))
    (kk : ∀ (H1 : Heap) (locs1 : List Loc), gH D G s H1 locs1 σ (gUl μ k v) → W p l e R s m args below meth c H1 locs1 cells slots Q (F0 m (pc + 1) ls rest)) : W p l e R s m args below meth c H locs cells slots Q (F0 m pc ls (.long v :: .int (gI 0) :: .ref (G.1 k) :: rest)) := by
  refine va_last (D := D) (cl := vwCl) (tys := gTys G) (A := gA G) (H0 := s.heap) hexec hb hX.1 hH.1 (hX.d σ μ) hH.2 k 2 (gW_get hk) rfl (gI_in (by decide) (by decide) (by decide)) hdg (fun H1 locs1 hP1 hD1 hS1 => ?_)
  refine kk H1 locs1 ⟨?_, hS1⟩
  exact gO_long hk hP1
theorem g_lald (hexec : p.tables.exec = Jvm.exec) (hb : c.code = cc) (hX : gX D G s) (hH : gH D G s H locs σ μ) {k : Nat} (hk : gKinds[k]? = some (.inr (.inr (.inr 1)))) (hdg : decode cc pc = .ok (.laload, 1))
    (kk : W p l e R s m args below meth c H locs cells slots Q (F0 m (pc + 1) ls (.long (μ k) :: rest))) : W p l e R s m args below meth c H locs cells slots Q (F0 m pc ls (.int (gI 0) :: .ref (G.1 k) :: rest)) :=
  va_lald (D := D) (cl := vwCl) (tys := gTys G) hexec hb hX.1 hH.1 k 2 (gW_get hk) rfl (gI_in (by decide) (by decide) (by decide)) hdg kk

theorem g_xcallVs {y : MethodName} {bytes : ByteArray} {maxL nL n index mc ms : Nat} {ret : Option FieldType} {rm : Room} {Ts : List Cond} {own C : String} {As st0 : List Value} {k ci : Nat} {sl : List (Nat ⊕ Bool)} {T : u_T} {N : Nat} {x : Nat ⊕ (Int × gSt)} (S : CallFix p m c cc nL s args Ts own) (hM : vx_Met l y (gWs y bytes maxL ret) rm (gPc D G (.ref (G.1 k) :: As) σ μ) (gXs D G x μ) (gXC D G x σ μ) mc ms (gA G)) (cw : CallW R s args own C index y bytes maxL ret (gWs y bytes maxL ret) rm mc ms n) (hX : gX D G s) (hH : gH D G s H locs σ μ) (hk : gKinds[k]? = some (.inr (.inl (ci, sl)))) (hc : vwCl[ci]? = some (C, T, N)) (hn : As.length = n) (hsize : ls.size = nL) (hst : st0 = As.reverse ++ .ref (G.1 k) :: rest) (hW : (rest.map fun v => v.category).sum ≤ 8) (hdg : decode cc pc = .ok (.invokevirtual index, 3)) (hf : cells + mc ≤ R.cells ∧ slots + ms ≤ R.slots)
    (kx : ∀ (k : Nat) (E : String) (ce : Cell) (q : Addr) (H1 : Heap) (locs1 : List Loc), x = .inl k → E = gExc k → gH D G s H1 locs1 σ μ → H1[q]? = some ce → ce.vm = .none → s.vm.findClass E = some ce.cls → vx_W p l e R s m args below meth c H1 locs1 (cells + mc) (slots + ms) Q (F0 m pc ls rest) q)
    (kk : ∀ u : (Int × gSt), x = .inr u → ∀ (H1 : Heap) (locs1 : List Loc), gH D G s H1 locs1 u.2 μ → W p l e R s m args below meth c H1 locs1 (cells + mc) (slots + ms) Q (F0 m (pc + 3) ls (.int (gI u.1) :: rest))) : W p l e R s m args below meth c H locs cells slots Q (F0 m pc ls st0) := by
  refine vx_calli (A0 := gA G) (A1 := gA G) (AX := gA G) (vx_runV (As := As) (rest := rest) S hM cw ⟨gPc_blind, va_recv hX.1 hH.1 hc (gW_get hk), fun U hU hW2 => ⟨rfl, by rw [hU]; exact hH.1, hX.go hH.2 hU hW2⟩⟩ rfl hn hsize hst (lv_room hW) hdg hf) hH.2 (fun q _ h => h) (fun q h => h) (fun q _ h => h) (fun E ce q u t H1 locs1 ht hvm hp hB hz hq hS h1 h2 h3 => ?_) (fun r0 u t H1 locs1 ht hvm hp hB hz hq hS => ?_)
  · have hB2 : va_P D vwCl (gW G σ μ) t.heap := hB.2
    rw [ht] at hB2
    exact kx u E ce q H1 locs1 hp hB.1 ⟨hB2, hS⟩ h1 h2 h3
  · have hB2 : va_P D vwCl (gW G u.2 μ) t.heap := hB
    rw [ht] at hB2
    obtain ⟨hp1, hp2⟩ := hp
    subst hp2
    exact kk u hp1 H1 locs1 ⟨hB2, hS⟩
theorem g_xcallVp {y : MethodName} {bytes : ByteArray} {maxL nL n index mc ms : Nat} {ret : Option FieldType} {rm : Room} {Ts : List Cond} {own C : String} {As st0 : List Value} {k ci : Nat} {sl : List (Nat ⊕ Bool)} {T : u_T} {N : Nat} {x : Nat ⊕ Int} (S : CallFix p m c cc nL s args Ts own) (hM : vx_Met l y (gWs y bytes maxL ret) rm (gPc D G (.ref (G.1 k) :: As) σ μ) (gXp D G x σ μ) (gXC D G x σ μ) mc ms (gA G)) (cw : CallW R s args own C index y bytes maxL ret (gWs y bytes maxL ret) rm mc ms n) (hX : gX D G s) (hH : gH D G s H locs σ μ) (hk : gKinds[k]? = some (.inr (.inl (ci, sl)))) (hc : vwCl[ci]? = some (C, T, N)) (hn : As.length = n) (hsize : ls.size = nL) (hst : st0 = As.reverse ++ .ref (G.1 k) :: rest) (hW : (rest.map fun v => v.category).sum ≤ 8) (hdg : decode cc pc = .ok (.invokevirtual index, 3)) (hf : cells + mc ≤ R.cells ∧ slots + ms ≤ R.slots)
    (kx : ∀ (k : Nat) (E : String) (ce : Cell) (q : Addr) (H1 : Heap) (locs1 : List Loc), x = .inl k → E = gExc k → gH D G s H1 locs1 σ μ → H1[q]? = some ce → ce.vm = .none → s.vm.findClass E = some ce.cls → vx_W p l e R s m args below meth c H1 locs1 (cells + mc) (slots + ms) Q (F0 m pc ls rest) q)
    (kk : ∀ u : Int, x = .inr u → ∀ (H1 : Heap) (locs1 : List Loc), gH D G s H1 locs1 σ μ → W p l e R s m args below meth c H1 locs1 (cells + mc) (slots + ms) Q (F0 m (pc + 3) ls (.int (gI u) :: rest))) : W p l e R s m args below meth c H locs cells slots Q (F0 m pc ls st0) := by
  refine vx_calli (A0 := gA G) (A1 := gA G) (AX := gA G) (vx_runV (As := As) (rest := rest) S hM cw ⟨gPc_blind, va_recv hX.1 hH.1 hc (gW_get hk), fun U hU hW2 => ⟨rfl, by rw [hU]; exact hH.1, hX.go hH.2 hU hW2⟩⟩ rfl hn hsize hst (lv_room hW) hdg hf) hH.2 (fun q _ h => h) (fun q h => h) (fun q _ h => h) (fun E ce q u t H1 locs1 ht hvm hp hB hz hq hS h1 h2 h3 => ?_) (fun r0 u t H1 locs1 ht hvm hp hB hz hq hS => ?_)
  · have hB2 : va_P D vwCl (gW G σ μ) t.heap := hB.2
    rw [ht] at hB2
    exact kx u E ce q H1 locs1 hp hB.1 ⟨hB2, hS⟩ h1 h2 h3
  · have hB2 : va_P D vwCl (gW G σ μ) t.heap := hB
    rw [ht] at hB2
    obtain ⟨hp1, hp2⟩ := hp
    subst hp2
    exact kk u hp1 H1 locs1 ⟨hB2, hS⟩
end GL1
set_option maxHeartbeats 4000000 in
set_option maxRecDepth 100000 in
theorem metL_set (l : Launch) (hlt : l.stackTraces = false) (D : va_G) (G : gAd) (σ : gSt) (μ : gLg) (a1 : Int) (a2 : Int) (r : Int) (σ' : gSt) (μ' : gLg) (h : gWrS (DX8_set σ a1 a2) [(1, 1)] σ μ = some (r, σ', μ')) : Met l yL_set (gWw yL_set cL_set 5 (some .int) [(0, 10, 13, 13)]) ({ frames := 7, cells := 1, slots := 6, locals := 154 } : Room) (gPc D G [.ref (G.1 0), .int (gI a1), .int (gI a2), .ref (G.1 147)] σ μ) (gQi D G r σ' μ') 1 6 (gA G) := by
  refine va_MetW (cc := cL_set) (maxL := 5) (ret := some .int) (hh := [(0, 10, 13, 13)]) (by decide) rfl ?_
  intro p e s m args below meth c s₁ B hml hv
  obtain ⟨rfl, hP, hX⟩ := hv
  have hx := B.exec
  have hb0 := B.bytes
  have hr := B.returns
  have hts0 := atoms_spec (ws := (gWw yL_set cL_set 5 (some .int) [(0, 10, 13, 13)])) B.pre
  have htab := vx_table (x := yL_set) B (hts0 _ List.mem_cons_self)
  have hts : ∀ w ∈ gLW, w.before _ s = true := fun w hw => hts0 w (List.mem_cons_of_mem _ hw)
  have hown : s.vm.findClass RL = some m.cls := findClass_of_methodNamed B.named
  have hlocks := B.notSynchronized
  have hH : gH D G s s.heap [] σ μ := ⟨hP, va_S.rf⟩
  have hl := lv_entry ([.ref (G.1 0), .int (gI a1), .int (gI a2), .ref (G.1 147)]) (n := 5) (Nat.le_of_ble_eq_true rfl)
  rw [lg_entry_eq]
  generalize (lg_sl ([.ref (G.1 0), .int (gI a1), .int (gI a2), .ref (G.1 147)]) ++ List.replicate (5 - (lg_sl ([.ref (G.1 0), .int (gI a1), .int (gI a2), .ref (G.1 147)])).length) Slot.unset).toArray = ls at hl ⊢
  have hl : lv_has ls 5 [(0, .ref (G.1 0)), (1, .int (gI a1)), (2, .int (gI a2)), (3, .ref (G.1 147))] := hl
  obtain ⟨x, ex, h⟩ := gWrS_some h
  refine lv_aload_n hx hb0 dL_set_0 rfl (lv_at hl 3 rfl) ?_
  refine lv_iconst (v := gI (0 : Int)) hx hb0 dL_set_1 (by decide) ?_
  refine lv_aload_n hx hb0 dL_set_2 rfl (lv_at hl 0 rfl) ?_
  refine lv_iload_n hx hb0 dL_set_3 rfl (lv_at hl 1 rfl) ?_
  refine lv_iload_n hx hb0 dL_set_4 rfl (lv_at hl 2 rfl) ?_
  refine g_xcallVs (k := 0) (T := TX8) (N := 10) (As := [.int (gI a1), .int (gI a2)]) (rest := [.int (gI (0 : Int)), .ref (G.1 147)]) (x := x) ⟨hx, hb0, hml, hown, hts⟩ (metX8_set l hlt D G σ μ a1 a2 x ex) (g_cwX (C := RX8) 2 hts q_ml_L_7 q_im_X8_set q_se_X8_set q_in_X8 q_co_X8_set ⟨rfl, rfl⟩ (by decide +kernel) ⟨Nat.le_of_ble_eq_true rfl, Nat.le_of_ble_eq_true rfl⟩) hX hH (rfl : gKinds[0]? = _) rfl rfl hl.1 rfl (Nat.le_of_ble_eq_true rfl) dL_set_5 ⟨Nat.le_of_ble_eq_true rfl, Nat.le_of_ble_eq_true rfl⟩ (fun k9 E9 ce9 q9 H locs hk9 hE9 hH h1 h2 h3 => ?_) (fun u9 hu9 H locs hH => ?_)
  · rcases h with ⟨u8, h8, -, -, -⟩ | ⟨k8, h8, hc8, rfl, rfl⟩
    · rw [h8] at hk9
      cases hk9
    · have hkk : k9 = k8 := by
        rw [h8] at hk9
        exact (Sum.inl.inj hk9).symm
      rw [hkk] at hE9
      by_cases g0 : k8 = 1
      · subst g0
        have hE9 : E9 = "java/lang/IllegalArgumentException" := hE9
        subst hE9
        have hc9 : (1 : Int) = r := by simpa [gHd] using hc8
        subst hc9
        refine vx_catch (own := RL) (name := "java/lang/IllegalArgumentException") hown [] ⟨0, 10, 13, 13⟩ [] (by rw [htab]; rfl) (fun z hz => nomatch hz) rfl (by decide) (hts _ q_cl_L_13) (va_Nw.use rfl (hX.2.2.2.2.2.2.2.2.1 ("java/lang/IllegalArgumentException", "java/lang/IllegalArgumentException") (by decide +kernel))) h1 h2 h3 ?_
        refine lv_astore (lv' := (4, .ref q9) :: [(0, .ref (G.1 0)), (1, .int (gI a1)), (2, .int (gI a2)), (3, .ref (G.1 147))]) hx hb0 dL_set_13 hl (by decide) rfl (fun ls hl => ?_)
        refine lv_iconst (v := gI (1 : Int)) hx hb0 dL_set_15 (by decide) ?_
        exact g_iret hx hb0 hr hH hlocks dL_set_16
      · exact absurd hc8 (by simp [gHd, g0])
  · rcases h with ⟨u8, h8, rfl, rfl, rfl⟩ | ⟨k8, h8, hc8, -, -⟩
    · have huu : u9 = u8 := by
        rw [h8] at hu9
        exact (Sum.inr.inj hu9).symm
      simp only [huu] at hH ⊢
      refine lv_i2l (v := (gI u8.1).toInt64) hx hb0 dL_set_8 rfl ?_
      refine g_last hx hb0 hX hH (k := 147) (rfl : gKinds[147]? = _) dL_set_9 (fun H locs hH => ?_)
      refine lv_goto (tgt := 17) hx hb0 dL_set_10 (by decide) ?_
      refine lv_iconst (v := gI (0 : Int)) hx hb0 dL_set_17 (by decide) ?_
      exact g_iret hx hb0 hr hH hlocks dL_set_18
    · rw [h8] at hu9
      cases hu9
set_option maxHeartbeats 4000000 in
set_option maxRecDepth 100000 in
theorem metL_value (l : Launch) (hlt : l.stackTraces = false) (D : va_G) (G : gAd) (σ : gSt) (μ : gLg) (a1 : Int) (r : Int) (μ' : gLg) (h : gWrP (DX8_value σ a1) [(1, 1)] μ = some (r, μ')) : Met l yL_value (gWw yL_value cL_value 4 (some .int) [(0, 9, 12, 13)]) ({ frames := 7, cells := 1, slots := 6, locals := 103 } : Room) (gPc D G [.ref (G.1 0), .int (gI a1), .ref (G.1 147)] σ μ) (gQi D G r σ μ') 1 6 (gA G) := by
  refine va_MetW (cc := cL_value) (maxL := 4) (ret := some .int) (hh := [(0, 9, 12, 13)]) (by decide) rfl ?_
  intro p e s m args below meth c s₁ B hml hv
  obtain ⟨rfl, hP, hX⟩ := hv
  have hx := B.exec
  have hb0 := B.bytes
  have hr := B.returns
  have hts0 := atoms_spec (ws := (gWw yL_value cL_value 4 (some .int) [(0, 9, 12, 13)])) B.pre
  have htab := vx_table (x := yL_value) B (hts0 _ List.mem_cons_self)
  have hts : ∀ w ∈ gLW, w.before _ s = true := fun w hw => hts0 w (List.mem_cons_of_mem _ hw)
  have hown : s.vm.findClass RL = some m.cls := findClass_of_methodNamed B.named
  have hlocks := B.notSynchronized
  have hH : gH D G s s.heap [] σ μ := ⟨hP, va_S.rf⟩
  have hl := lv_entry ([.ref (G.1 0), .int (gI a1), .ref (G.1 147)]) (n := 4) (Nat.le_of_ble_eq_true rfl)
  rw [lg_entry_eq]
  generalize (lg_sl ([.ref (G.1 0), .int (gI a1), .ref (G.1 147)]) ++ List.replicate (4 - (lg_sl ([.ref (G.1 0), .int (gI a1), .ref (G.1 147)])).length) Slot.unset).toArray = ls at hl ⊢
  have hl : lv_has ls 4 [(0, .ref (G.1 0)), (1, .int (gI a1)), (2, .ref (G.1 147))] := hl
  obtain ⟨x, ex, h⟩ := gWrP_some h
  refine lv_aload_n hx hb0 dL_value_0 rfl (lv_at hl 2 rfl) ?_
  refine lv_iconst (v := gI (0 : Int)) hx hb0 dL_value_1 (by decide) ?_
  refine lv_aload_n hx hb0 dL_value_2 rfl (lv_at hl 0 rfl) ?_
  refine lv_iload_n hx hb0 dL_value_3 rfl (lv_at hl 1 rfl) ?_
  refine g_xcallVp (k := 0) (T := TX8) (N := 10) (As := [.int (gI a1)]) (rest := [.int (gI (0 : Int)), .ref (G.1 147)]) (x := x) ⟨hx, hb0, hml, hown, hts⟩ (metX8_value l hlt D G σ μ a1 x ex) (g_cwX (C := RX8) 1 hts q_ml_L_15 q_im_X8_value q_se_X8_value q_in_X8 q_co_X8_value ⟨rfl, rfl⟩ (by decide +kernel) ⟨Nat.le_of_ble_eq_true rfl, Nat.le_of_ble_eq_true rfl⟩) hX hH (rfl : gKinds[0]? = _) rfl rfl hl.1 rfl (Nat.le_of_ble_eq_true rfl) dL_value_4 ⟨Nat.le_of_ble_eq_true rfl, Nat.le_of_ble_eq_true rfl⟩ (fun k9 E9 ce9 q9 H locs hk9 hE9 hH h1 h2 h3 => ?_) (fun u9 hu9 H locs hH => ?_)
  · rcases h with ⟨u8, h8, -, -⟩ | ⟨k8, h8, hc8, rfl⟩
    · rw [h8] at hk9
      cases hk9
    · have hkk : k9 = k8 := by
        rw [h8] at hk9
        exact (Sum.inl.inj hk9).symm
      rw [hkk] at hE9
      by_cases g0 : k8 = 1
      · subst g0
        have hE9 : E9 = "java/lang/IllegalArgumentException" := hE9
        subst hE9
        have hc9 : (1 : Int) = r := by simpa [gHd] using hc8
        subst hc9
        refine vx_catch (own := RL) (name := "java/lang/IllegalArgumentException") hown [] ⟨0, 9, 12, 13⟩ [] (by rw [htab]; rfl) (fun z hz => nomatch hz) rfl (by decide) (hts _ q_cl_L_13) (va_Nw.use rfl (hX.2.2.2.2.2.2.2.2.1 ("java/lang/IllegalArgumentException", "java/lang/IllegalArgumentException") (by decide +kernel))) h1 h2 h3 ?_
        refine lv_astore_n (lv' := (3, .ref q9) :: [(0, .ref (G.1 0)), (1, .int (gI a1)), (2, .ref (G.1 147))]) hx hb0 dL_value_12 rfl hl (by decide) rfl (fun ls hl => ?_)
        refine lv_iconst (v := gI (1 : Int)) hx hb0 dL_value_13 (by decide) ?_
        exact g_iret hx hb0 hr hH hlocks dL_value_14
      · exact absurd hc8 (by simp [gHd, g0])
  · rcases h with ⟨u8, h8, rfl, rfl⟩ | ⟨k8, h8, hc8, -⟩
    · have huu : u9 = u8 := by
        rw [h8] at hu9
        exact (Sum.inr.inj hu9).symm
      simp only [huu] at hH ⊢
      refine lv_i2l (v := (gI u8).toInt64) hx hb0 dL_value_7 rfl ?_
      refine g_last hx hb0 hX hH (k := 147) (rfl : gKinds[147]? = _) dL_value_8 (fun H locs hH => ?_)
      refine lv_goto (tgt := 15) hx hb0 dL_value_9 (by decide) ?_
      refine lv_iconst (v := gI (0 : Int)) hx hb0 dL_value_15 (by decide) ?_
      exact g_iret hx hb0 hr hH hlocks dL_value_16
    · rw [h8] at hu9
      cases hu9
set_option maxHeartbeats 4000000 in
set_option maxRecDepth 100000 in
theorem metL_addTask (l : Launch) (hlt : l.stackTraces = false) (D : va_G) (G : gAd) (σ : gSt) (μ : gLg) (a1 : Int) (a2 : Int) (a3 : Int) (r : Int) (σ' : gSt) (μ' : gLg) (h : gWrS (DX8_addTask σ a1 a2 a3) [(1, 1), (2, 2)] σ μ = some (r, σ', μ')) : Met l yL_addTask (gWw yL_addTask cL_addTask 6 (some .int) [(0, 12, 15, 13), (0, 12, 19, 23)]) ({ frames := 7, cells := 1, slots := 6, locals := 155 } : Room) (gPc D G [.ref (G.1 0), .int (gI a1), .int (gI a2), .int (gI a3), .ref (G.1 147)] σ μ) (gQi D G r σ' μ') 1 6 (gA G) := by
  refine va_MetW (cc := cL_addTask) (maxL := 6) (ret := some .int) (hh := [(0, 12, 15, 13), (0, 12, 19, 23)]) (by decide) rfl ?_
  intro p e s m args below meth c s₁ B hml hv
  obtain ⟨rfl, hP, hX⟩ := hv
  have hx := B.exec
  have hb0 := B.bytes
  have hr := B.returns
  have hts0 := atoms_spec (ws := (gWw yL_addTask cL_addTask 6 (some .int) [(0, 12, 15, 13), (0, 12, 19, 23)])) B.pre
  have htab := vx_table (x := yL_addTask) B (hts0 _ List.mem_cons_self)
  have hts : ∀ w ∈ gLW, w.before _ s = true := fun w hw => hts0 w (List.mem_cons_of_mem _ hw)
  have hown : s.vm.findClass RL = some m.cls := findClass_of_methodNamed B.named
  have hlocks := B.notSynchronized
  have hH : gH D G s s.heap [] σ μ := ⟨hP, va_S.rf⟩
  have hl := lv_entry ([.ref (G.1 0), .int (gI a1), .int (gI a2), .int (gI a3), .ref (G.1 147)]) (n := 6) (Nat.le_of_ble_eq_true rfl)
  rw [lg_entry_eq]
  generalize (lg_sl ([.ref (G.1 0), .int (gI a1), .int (gI a2), .int (gI a3), .ref (G.1 147)]) ++ List.replicate (6 - (lg_sl ([.ref (G.1 0), .int (gI a1), .int (gI a2), .int (gI a3), .ref (G.1 147)])).length) Slot.unset).toArray = ls at hl ⊢
  have hl : lv_has ls 6 [(0, .ref (G.1 0)), (1, .int (gI a1)), (2, .int (gI a2)), (3, .int (gI a3)), (4, .ref (G.1 147))] := hl
  obtain ⟨x, ex, h⟩ := gWrS_some h
  refine lv_aload hx hb0 dL_addTask_0 (lv_at hl 4 rfl) ?_
  refine lv_iconst (v := gI (0 : Int)) hx hb0 dL_addTask_2 (by decide) ?_
  refine lv_aload_n hx hb0 dL_addTask_3 rfl (lv_at hl 0 rfl) ?_
  refine lv_iload_n hx hb0 dL_addTask_4 rfl (lv_at hl 1 rfl) ?_
  refine lv_iload_n hx hb0 dL_addTask_5 rfl (lv_at hl 2 rfl) ?_
  refine lv_iload_n hx hb0 dL_addTask_6 rfl (lv_at hl 3 rfl) ?_
  refine g_xcallVs (k := 0) (T := TX8) (N := 10) (As := [.int (gI a1), .int (gI a2), .int (gI a3)]) (rest := [.int (gI (0 : Int)), .ref (G.1 147)]) (x := x) ⟨hx, hb0, hml, hown, hts⟩ (metX8_addTask l hlt D G σ μ a1 a2 a3 x ex) (g_cwX (C := RX8) 3 hts q_ml_L_19 q_im_X8_addTask q_se_X8_addTask q_in_X8 q_co_X8_addTask ⟨rfl, rfl⟩ (by decide +kernel) ⟨Nat.le_of_ble_eq_true rfl, Nat.le_of_ble_eq_true rfl⟩) hX hH (rfl : gKinds[0]? = _) rfl rfl hl.1 rfl (Nat.le_of_ble_eq_true rfl) dL_addTask_7 ⟨Nat.le_of_ble_eq_true rfl, Nat.le_of_ble_eq_true rfl⟩ (fun k9 E9 ce9 q9 H locs hk9 hE9 hH h1 h2 h3 => ?_) (fun u9 hu9 H locs hH => ?_)
  · rcases h with ⟨u8, h8, -, -, -⟩ | ⟨k8, h8, hc8, rfl, rfl⟩
    · rw [h8] at hk9
      cases hk9
    · have hkk : k9 = k8 := by
        rw [h8] at hk9
        exact (Sum.inl.inj hk9).symm
      rw [hkk] at hE9
      by_cases g0 : k8 = 1
      · subst g0
        have hE9 : E9 = "java/lang/IllegalArgumentException" := hE9
        subst hE9
        have hc9 : (1 : Int) = r := by simpa [gHd] using hc8
        subst hc9
        refine vx_catch (own := RL) (name := "java/lang/IllegalArgumentException") hown [] ⟨0, 12, 15, 13⟩ [⟨0, 12, 19, 23⟩] (by rw [htab]; rfl) (fun z hz => nomatch hz) rfl (by decide) (hts _ q_cl_L_13) (va_Nw.use rfl (hX.2.2.2.2.2.2.2.2.1 ("java/lang/IllegalArgumentException", "java/lang/IllegalArgumentException") (by decide +kernel))) h1 h2 h3 ?_
        refine lv_astore (lv' := (5, .ref q9) :: [(0, .ref (G.1 0)), (1, .int (gI a1)), (2, .int (gI a2)), (3, .int (gI a3)), (4, .ref (G.1 147))]) hx hb0 dL_addTask_15 hl (by decide) rfl (fun ls hl => ?_)
        refine lv_iconst (v := gI (1 : Int)) hx hb0 dL_addTask_17 (by decide) ?_
        exact g_iret hx hb0 hr hH hlocks dL_addTask_18
      · skip
        by_cases g1 : k8 = 2
        · subst g1
          have hE9 : E9 = "java/lang/IllegalStateException" := hE9
          subst hE9
          have hc9 : (2 : Int) = r := by simpa [gHd] using hc8
          subst hc9
          refine vx_catch (own := RL) (name := "java/lang/IllegalStateException") hown [⟨0, 12, 15, 13⟩] ⟨0, 12, 19, 23⟩ [] (by rw [htab]; rfl) (fun z hz => by
            simp only [List.mem_cons, List.not_mem_nil, or_false] at hz
            rcases hz with rfl
            · exact Or.inr ⟨by decide, "java/lang/IllegalArgumentException", hts _ q_cl_L_13, g_nc hX (by decide +kernel)⟩) rfl (by decide) (hts _ q_cl_L_23) (va_Nw.use rfl (hX.2.2.2.2.2.2.2.2.1 ("java/lang/IllegalStateException", "java/lang/IllegalStateException") (by decide +kernel))) h1 h2 h3 ?_
          refine lv_astore (lv' := (5, .ref q9) :: [(0, .ref (G.1 0)), (1, .int (gI a1)), (2, .int (gI a2)), (3, .int (gI a3)), (4, .ref (G.1 147))]) hx hb0 dL_addTask_19 hl (by decide) rfl (fun ls hl => ?_)
          refine lv_iconst (v := gI (2 : Int)) hx hb0 dL_addTask_21 (by decide) ?_
          exact g_iret hx hb0 hr hH hlocks dL_addTask_22
        · exact absurd hc8 (by simp [gHd, g0, g1])
  · rcases h with ⟨u8, h8, rfl, rfl, rfl⟩ | ⟨k8, h8, hc8, -, -⟩
    · have huu : u9 = u8 := by
        rw [h8] at hu9
        exact (Sum.inr.inj hu9).symm
      simp only [huu] at hH ⊢
      refine lv_i2l (v := (gI u8.1).toInt64) hx hb0 dL_addTask_10 rfl ?_
      refine g_last hx hb0 hX hH (k := 147) (rfl : gKinds[147]? = _) dL_addTask_11 (fun H locs hH => ?_)
      refine lv_goto (tgt := 23) hx hb0 dL_addTask_12 (by decide) ?_
      refine lv_iconst (v := gI (0 : Int)) hx hb0 dL_addTask_23 (by decide) ?_
      exact g_iret hx hb0 hr hH hlocks dL_addTask_24
    · rw [h8] at hu9
      cases hu9
set_option maxHeartbeats 4000000 in
set_option maxRecDepth 100000 in
theorem metL_move (l : Launch) (hlt : l.stackTraces = false) (D : va_G) (G : gAd) (σ : gSt) (μ : gLg) (a1 : Int) (a2 : Int) (a3 : Int) (r : Int) (σ' : gSt) (μ' : gLg) (h : gWrS (DX8_move σ a1 a2 a3) [(3, 1), (1, 2)] σ μ = some (r, σ', μ')) : Met l yL_move (gWw yL_move cL_move 6 (some .int) [(0, 12, 15, 28), (0, 12, 19, 13)]) ({ frames := 8, cells := 2, slots := 12, locals := 155 } : Room) (gPc D G [.ref (G.1 0), .int (gI a1), .int (gI a2), .int (gI a3), .ref (G.1 147)] σ μ) (gQi D G r σ' μ') 2 12 (gA G) := by
  refine va_MetW (cc := cL_move) (maxL := 6) (ret := some .int) (hh := [(0, 12, 15, 28), (0, 12, 19, 13)]) (by decide) rfl ?_
  intro p e s m args below meth c s₁ B hml hv
  obtain ⟨rfl, hP, hX⟩ := hv
  have hx := B.exec
  have hb0 := B.bytes
  have hr := B.returns
  have hts0 := atoms_spec (ws := (gWw yL_move cL_move 6 (some .int) [(0, 12, 15, 28), (0, 12, 19, 13)])) B.pre
  have htab := vx_table (x := yL_move) B (hts0 _ List.mem_cons_self)
  have hts : ∀ w ∈ gLW, w.before _ s = true := fun w hw => hts0 w (List.mem_cons_of_mem _ hw)
  have hown : s.vm.findClass RL = some m.cls := findClass_of_methodNamed B.named
  have hlocks := B.notSynchronized
  have hH : gH D G s s.heap [] σ μ := ⟨hP, va_S.rf⟩
  have hl := lv_entry ([.ref (G.1 0), .int (gI a1), .int (gI a2), .int (gI a3), .ref (G.1 147)]) (n := 6) (Nat.le_of_ble_eq_true rfl)
  rw [lg_entry_eq]
  generalize (lg_sl ([.ref (G.1 0), .int (gI a1), .int (gI a2), .int (gI a3), .ref (G.1 147)]) ++ List.replicate (6 - (lg_sl ([.ref (G.1 0), .int (gI a1), .int (gI a2), .int (gI a3), .ref (G.1 147)])).length) Slot.unset).toArray = ls at hl ⊢
  have hl : lv_has ls 6 [(0, .ref (G.1 0)), (1, .int (gI a1)), (2, .int (gI a2)), (3, .int (gI a3)), (4, .ref (G.1 147))] := hl
  obtain ⟨x, ex, h⟩ := gWrS_some h
  refine lv_aload hx hb0 dL_move_0 (lv_at hl 4 rfl) ?_
  refine lv_iconst (v := gI (0 : Int)) hx hb0 dL_move_2 (by decide) ?_
  refine lv_aload_n hx hb0 dL_move_3 rfl (lv_at hl 0 rfl) ?_
  refine lv_iload_n hx hb0 dL_move_4 rfl (lv_at hl 1 rfl) ?_
  refine lv_iload_n hx hb0 dL_move_5 rfl (lv_at hl 2 rfl) ?_
  refine lv_iload_n hx hb0 dL_move_6 rfl (lv_at hl 3 rfl) ?_
  refine g_xcallVs (k := 0) (T := TX8) (N := 10) (As := [.int (gI a1), .int (gI a2), .int (gI a3)]) (rest := [.int (gI (0 : Int)), .ref (G.1 147)]) (x := x) ⟨hx, hb0, hml, hown, hts⟩ (metX8_move l hlt D G σ μ a1 a2 a3 x ex) (g_cwX (C := RX8) 3 hts q_ml_L_25 q_im_X8_move q_se_X8_move q_in_X8 q_co_X8_move ⟨rfl, rfl⟩ (by decide +kernel) ⟨Nat.le_of_ble_eq_true rfl, Nat.le_of_ble_eq_true rfl⟩) hX hH (rfl : gKinds[0]? = _) rfl rfl hl.1 rfl (Nat.le_of_ble_eq_true rfl) dL_move_7 ⟨Nat.le_of_ble_eq_true rfl, Nat.le_of_ble_eq_true rfl⟩ (fun k9 E9 ce9 q9 H locs hk9 hE9 hH h1 h2 h3 => ?_) (fun u9 hu9 H locs hH => ?_)
  · rcases h with ⟨u8, h8, -, -, -⟩ | ⟨k8, h8, hc8, rfl, rfl⟩
    · rw [h8] at hk9
      cases hk9
    · have hkk : k9 = k8 := by
        rw [h8] at hk9
        exact (Sum.inl.inj hk9).symm
      rw [hkk] at hE9
      by_cases g0 : k8 = 3
      · subst g0
        have hE9 : E9 = "java/lang/IndexOutOfBoundsException" := hE9
        subst hE9
        have hc9 : (1 : Int) = r := by simpa [gHd] using hc8
        subst hc9
        refine vx_catch (own := RL) (name := "java/lang/IndexOutOfBoundsException") hown [] ⟨0, 12, 15, 28⟩ [⟨0, 12, 19, 13⟩] (by rw [htab]; rfl) (fun z hz => nomatch hz) rfl (by decide) (hts _ q_cl_L_28) (va_Nw.use rfl (hX.2.2.2.2.2.2.2.2.1 ("java/lang/IndexOutOfBoundsException", "java/lang/IndexOutOfBoundsException") (by decide +kernel))) h1 h2 h3 ?_
        refine lv_astore (lv' := (5, .ref q9) :: [(0, .ref (G.1 0)), (1, .int (gI a1)), (2, .int (gI a2)), (3, .int (gI a3)), (4, .ref (G.1 147))]) hx hb0 dL_move_15 hl (by decide) rfl (fun ls hl => ?_)
        refine lv_iconst (v := gI (1 : Int)) hx hb0 dL_move_17 (by decide) ?_
        exact g_iret hx hb0 hr hH hlocks dL_move_18
      · skip
        by_cases g1 : k8 = 1
        · subst g1
          have hE9 : E9 = "java/lang/IllegalArgumentException" := hE9
          subst hE9
          have hc9 : (2 : Int) = r := by simpa [gHd] using hc8
          subst hc9
          refine vx_catch (own := RL) (name := "java/lang/IllegalArgumentException") hown [⟨0, 12, 15, 28⟩] ⟨0, 12, 19, 13⟩ [] (by rw [htab]; rfl) (fun z hz => by
            simp only [List.mem_cons, List.not_mem_nil, or_false] at hz
            rcases hz with rfl
            · exact Or.inr ⟨by decide, "java/lang/IndexOutOfBoundsException", hts _ q_cl_L_28, g_nc hX (by decide +kernel)⟩) rfl (by decide) (hts _ q_cl_L_13) (va_Nw.use rfl (hX.2.2.2.2.2.2.2.2.1 ("java/lang/IllegalArgumentException", "java/lang/IllegalArgumentException") (by decide +kernel))) h1 h2 h3 ?_
          refine lv_astore (lv' := (5, .ref q9) :: [(0, .ref (G.1 0)), (1, .int (gI a1)), (2, .int (gI a2)), (3, .int (gI a3)), (4, .ref (G.1 147))]) hx hb0 dL_move_19 hl (by decide) rfl (fun ls hl => ?_)
          refine lv_iconst (v := gI (2 : Int)) hx hb0 dL_move_21 (by decide) ?_
          exact g_iret hx hb0 hr hH hlocks dL_move_22
        · exact absurd hc8 (by simp [gHd, g0, g1])
  · rcases h with ⟨u8, h8, rfl, rfl, rfl⟩ | ⟨k8, h8, hc8, -, -⟩
    · have huu : u9 = u8 := by
        rw [h8] at hu9
        exact (Sum.inr.inj hu9).symm
      simp only [huu] at hH ⊢
      refine lv_i2l (v := (gI u8.1).toInt64) hx hb0 dL_move_10 rfl ?_
      refine g_last hx hb0 hX hH (k := 147) (rfl : gKinds[147]? = _) dL_move_11 (fun H locs hH => ?_)
      refine lv_goto (tgt := 23) hx hb0 dL_move_12 (by decide) ?_
      refine lv_iconst (v := gI (0 : Int)) hx hb0 dL_move_23 (by decide) ?_
      exact g_iret hx hb0 hr hH hlocks dL_move_24
    · rw [h8] at hu9
      cases hu9
set_option maxHeartbeats 4000000 in
set_option maxRecDepth 100000 in
theorem metL_removeTask (l : Launch) (hlt : l.stackTraces = false) (D : va_G) (G : gAd) (σ : gSt) (μ : gLg) (a1 : Int) (r : Int) (σ' : gSt) (μ' : gLg) (h : gWrS (DX8_removeTask σ a1) [(3, 1)] σ μ = some (r, σ', μ')) : Met l yL_removeTask (gWw yL_removeTask cL_removeTask 4 (some .int) [(0, 9, 12, 28)]) ({ frames := 8, cells := 1, slots := 6, locals := 153 } : Room) (gPc D G [.ref (G.1 0), .int (gI a1), .ref (G.1 147)] σ μ) (gQi D G r σ' μ') 1 6 (gA G) := by
  refine va_MetW (cc := cL_removeTask) (maxL := 4) (ret := some .int) (hh := [(0, 9, 12, 28)]) (by decide) rfl ?_
  intro p e s m args below meth c s₁ B hml hv
  obtain ⟨rfl, hP, hX⟩ := hv
  have hx := B.exec
  have hb0 := B.bytes
  have hr := B.returns
  have hts0 := atoms_spec (ws := (gWw yL_removeTask cL_removeTask 4 (some .int) [(0, 9, 12, 28)])) B.pre
  have htab := vx_table (x := yL_removeTask) B (hts0 _ List.mem_cons_self)
  have hts : ∀ w ∈ gLW, w.before _ s = true := fun w hw => hts0 w (List.mem_cons_of_mem _ hw)
  have hown : s.vm.findClass RL = some m.cls := findClass_of_methodNamed B.named
  have hlocks := B.notSynchronized
  have hH : gH D G s s.heap [] σ μ := ⟨hP, va_S.rf⟩
  have hl := lv_entry ([.ref (G.1 0), .int (gI a1), .ref (G.1 147)]) (n := 4) (Nat.le_of_ble_eq_true rfl)
  rw [lg_entry_eq]
  generalize (lg_sl ([.ref (G.1 0), .int (gI a1), .ref (G.1 147)]) ++ List.replicate (4 - (lg_sl ([.ref (G.1 0), .int (gI a1), .ref (G.1 147)])).length) Slot.unset).toArray = ls at hl ⊢
  have hl : lv_has ls 4 [(0, .ref (G.1 0)), (1, .int (gI a1)), (2, .ref (G.1 147))] := hl
  obtain ⟨x, ex, h⟩ := gWrS_some h
  refine lv_aload_n hx hb0 dL_removeTask_0 rfl (lv_at hl 2 rfl) ?_
  refine lv_iconst (v := gI (0 : Int)) hx hb0 dL_removeTask_1 (by decide) ?_
  refine lv_aload_n hx hb0 dL_removeTask_2 rfl (lv_at hl 0 rfl) ?_
  refine lv_iload_n hx hb0 dL_removeTask_3 rfl (lv_at hl 1 rfl) ?_
  refine g_xcallVs (k := 0) (T := TX8) (N := 10) (As := [.int (gI a1)]) (rest := [.int (gI (0 : Int)), .ref (G.1 147)]) (x := x) ⟨hx, hb0, hml, hown, hts⟩ (metX8_removeTask l hlt D G σ μ a1 x ex) (g_cwX (C := RX8) 1 hts q_ml_L_30 q_im_X8_removeTask q_se_X8_removeTask q_in_X8 q_co_X8_removeTask ⟨rfl, rfl⟩ (by decide +kernel) ⟨Nat.le_of_ble_eq_true rfl, Nat.le_of_ble_eq_true rfl⟩) hX hH (rfl : gKinds[0]? = _) rfl rfl hl.1 rfl (Nat.le_of_ble_eq_true rfl) dL_removeTask_4 ⟨Nat.le_of_ble_eq_true rfl, Nat.le_of_ble_eq_true rfl⟩ (fun k9 E9 ce9 q9 H locs hk9 hE9 hH h1 h2 h3 => ?_) (fun u9 hu9 H locs hH => ?_)
  · rcases h with ⟨u8, h8, -, -, -⟩ | ⟨k8, h8, hc8, rfl, rfl⟩
    · rw [h8] at hk9
      cases hk9
    · have hkk : k9 = k8 := by
        rw [h8] at hk9
        exact (Sum.inl.inj hk9).symm
      rw [hkk] at hE9
      by_cases g0 : k8 = 3
      · subst g0
        have hE9 : E9 = "java/lang/IndexOutOfBoundsException" := hE9
        subst hE9
        have hc9 : (1 : Int) = r := by simpa [gHd] using hc8
        subst hc9
        refine vx_catch (own := RL) (name := "java/lang/IndexOutOfBoundsException") hown [] ⟨0, 9, 12, 28⟩ [] (by rw [htab]; rfl) (fun z hz => nomatch hz) rfl (by decide) (hts _ q_cl_L_28) (va_Nw.use rfl (hX.2.2.2.2.2.2.2.2.1 ("java/lang/IndexOutOfBoundsException", "java/lang/IndexOutOfBoundsException") (by decide +kernel))) h1 h2 h3 ?_
        refine lv_astore_n (lv' := (3, .ref q9) :: [(0, .ref (G.1 0)), (1, .int (gI a1)), (2, .ref (G.1 147))]) hx hb0 dL_removeTask_12 rfl hl (by decide) rfl (fun ls hl => ?_)
        refine lv_iconst (v := gI (1 : Int)) hx hb0 dL_removeTask_13 (by decide) ?_
        exact g_iret hx hb0 hr hH hlocks dL_removeTask_14
      · exact absurd hc8 (by simp [gHd, g0])
  · rcases h with ⟨u8, h8, rfl, rfl, rfl⟩ | ⟨k8, h8, hc8, -, -⟩
    · have huu : u9 = u8 := by
        rw [h8] at hu9
        exact (Sum.inr.inj hu9).symm
      simp only [huu] at hH ⊢
      refine lv_i2l (v := (gI u8.1).toInt64) hx hb0 dL_removeTask_7 rfl ?_
      refine g_last hx hb0 hX hH (k := 147) (rfl : gKinds[147]? = _) dL_removeTask_8 (fun H locs hH => ?_)
      refine lv_goto (tgt := 15) hx hb0 dL_removeTask_9 (by decide) ?_
      refine lv_iconst (v := gI (0 : Int)) hx hb0 dL_removeTask_15 (by decide) ?_
      exact g_iret hx hb0 hr hH hlocks dL_removeTask_16
    · rw [h8] at hu9
      cases hu9
set_option maxHeartbeats 4000000 in
set_option maxRecDepth 100000 in
theorem metL_addArrow (l : Launch) (hlt : l.stackTraces = false) (D : va_G) (G : gAd) (σ : gSt) (μ : gLg) (a1 : Int) (a2 : Int) (r : Int) (σ' : gSt) (μ' : gLg) (h : gWrS (DX8_addArrow σ a1 a2) [(3, 1), (1, 2), (2, 3)] σ μ = some (r, σ', μ')) : Met l yL_addArrow (gWw yL_addArrow cL_addArrow 5 (some .int) [(0, 10, 13, 28), (0, 10, 17, 13), (0, 10, 21, 23)]) ({ frames := 8, cells := 3, slots := 18, locals := 154 } : Room) (gPc D G [.ref (G.1 0), .int (gI a1), .int (gI a2), .ref (G.1 147)] σ μ) (gQi D G r σ' μ') 3 18 (gA G) := by
  refine va_MetW (cc := cL_addArrow) (maxL := 5) (ret := some .int) (hh := [(0, 10, 13, 28), (0, 10, 17, 13), (0, 10, 21, 23)]) (by decide) rfl ?_
  intro p e s m args below meth c s₁ B hml hv
  obtain ⟨rfl, hP, hX⟩ := hv
  have hx := B.exec
  have hb0 := B.bytes
  have hr := B.returns
  have hts0 := atoms_spec (ws := (gWw yL_addArrow cL_addArrow 5 (some .int) [(0, 10, 13, 28), (0, 10, 17, 13), (0, 10, 21, 23)])) B.pre
  have htab := vx_table (x := yL_addArrow) B (hts0 _ List.mem_cons_self)
  have hts : ∀ w ∈ gLW, w.before _ s = true := fun w hw => hts0 w (List.mem_cons_of_mem _ hw)
  have hown : s.vm.findClass RL = some m.cls := findClass_of_methodNamed B.named
  have hlocks := B.notSynchronized
  have hH : gH D G s s.heap [] σ μ := ⟨hP, va_S.rf⟩
  have hl := lv_entry ([.ref (G.1 0), .int (gI a1), .int (gI a2), .ref (G.1 147)]) (n := 5) (Nat.le_of_ble_eq_true rfl)
  rw [lg_entry_eq]
  generalize (lg_sl ([.ref (G.1 0), .int (gI a1), .int (gI a2), .ref (G.1 147)]) ++ List.replicate (5 - (lg_sl ([.ref (G.1 0), .int (gI a1), .int (gI a2), .ref (G.1 147)])).length) Slot.unset).toArray = ls at hl ⊢
  have hl : lv_has ls 5 [(0, .ref (G.1 0)), (1, .int (gI a1)), (2, .int (gI a2)), (3, .ref (G.1 147))] := hl
  obtain ⟨x, ex, h⟩ := gWrS_some h
  refine lv_aload_n hx hb0 dL_addArrow_0 rfl (lv_at hl 3 rfl) ?_
  refine lv_iconst (v := gI (0 : Int)) hx hb0 dL_addArrow_1 (by decide) ?_
  refine lv_aload_n hx hb0 dL_addArrow_2 rfl (lv_at hl 0 rfl) ?_
  refine lv_iload_n hx hb0 dL_addArrow_3 rfl (lv_at hl 1 rfl) ?_
  refine lv_iload_n hx hb0 dL_addArrow_4 rfl (lv_at hl 2 rfl) ?_
  refine g_xcallVs (k := 0) (T := TX8) (N := 10) (As := [.int (gI a1), .int (gI a2)]) (rest := [.int (gI (0 : Int)), .ref (G.1 147)]) (x := x) ⟨hx, hb0, hml, hown, hts⟩ (metX8_addArrow l hlt D G σ μ a1 a2 x ex) (g_cwX (C := RX8) 2 hts q_ml_L_33 q_im_X8_addArrow q_se_X8_addArrow q_in_X8 q_co_X8_addArrow ⟨rfl, rfl⟩ (by decide +kernel) ⟨Nat.le_of_ble_eq_true rfl, Nat.le_of_ble_eq_true rfl⟩) hX hH (rfl : gKinds[0]? = _) rfl rfl hl.1 rfl (Nat.le_of_ble_eq_true rfl) dL_addArrow_5 ⟨Nat.le_of_ble_eq_true rfl, Nat.le_of_ble_eq_true rfl⟩ (fun k9 E9 ce9 q9 H locs hk9 hE9 hH h1 h2 h3 => ?_) (fun u9 hu9 H locs hH => ?_)
  · rcases h with ⟨u8, h8, -, -, -⟩ | ⟨k8, h8, hc8, rfl, rfl⟩
    · rw [h8] at hk9
      cases hk9
    · have hkk : k9 = k8 := by
        rw [h8] at hk9
        exact (Sum.inl.inj hk9).symm
      rw [hkk] at hE9
      by_cases g0 : k8 = 3
      · subst g0
        have hE9 : E9 = "java/lang/IndexOutOfBoundsException" := hE9
        subst hE9
        have hc9 : (1 : Int) = r := by simpa [gHd] using hc8
        subst hc9
        refine vx_catch (own := RL) (name := "java/lang/IndexOutOfBoundsException") hown [] ⟨0, 10, 13, 28⟩ [⟨0, 10, 17, 13⟩, ⟨0, 10, 21, 23⟩] (by rw [htab]; rfl) (fun z hz => nomatch hz) rfl (by decide) (hts _ q_cl_L_28) (va_Nw.use rfl (hX.2.2.2.2.2.2.2.2.1 ("java/lang/IndexOutOfBoundsException", "java/lang/IndexOutOfBoundsException") (by decide +kernel))) h1 h2 h3 ?_
        refine lv_astore (lv' := (4, .ref q9) :: [(0, .ref (G.1 0)), (1, .int (gI a1)), (2, .int (gI a2)), (3, .ref (G.1 147))]) hx hb0 dL_addArrow_13 hl (by decide) rfl (fun ls hl => ?_)
        refine lv_iconst (v := gI (1 : Int)) hx hb0 dL_addArrow_15 (by decide) ?_
        exact g_iret hx hb0 hr hH hlocks dL_addArrow_16
      · skip
        by_cases g1 : k8 = 1
        · subst g1
          have hE9 : E9 = "java/lang/IllegalArgumentException" := hE9
          subst hE9
          have hc9 : (2 : Int) = r := by simpa [gHd] using hc8
          subst hc9
          refine vx_catch (own := RL) (name := "java/lang/IllegalArgumentException") hown [⟨0, 10, 13, 28⟩] ⟨0, 10, 17, 13⟩ [⟨0, 10, 21, 23⟩] (by rw [htab]; rfl) (fun z hz => by
            simp only [List.mem_cons, List.not_mem_nil, or_false] at hz
            rcases hz with rfl
            · exact Or.inr ⟨by decide, "java/lang/IndexOutOfBoundsException", hts _ q_cl_L_28, g_nc hX (by decide +kernel)⟩) rfl (by decide) (hts _ q_cl_L_13) (va_Nw.use rfl (hX.2.2.2.2.2.2.2.2.1 ("java/lang/IllegalArgumentException", "java/lang/IllegalArgumentException") (by decide +kernel))) h1 h2 h3 ?_
          refine lv_astore (lv' := (4, .ref q9) :: [(0, .ref (G.1 0)), (1, .int (gI a1)), (2, .int (gI a2)), (3, .ref (G.1 147))]) hx hb0 dL_addArrow_17 hl (by decide) rfl (fun ls hl => ?_)
          refine lv_iconst (v := gI (2 : Int)) hx hb0 dL_addArrow_19 (by decide) ?_
          exact g_iret hx hb0 hr hH hlocks dL_addArrow_20
        · skip
          by_cases g2 : k8 = 2
          · subst g2
            have hE9 : E9 = "java/lang/IllegalStateException" := hE9
            subst hE9
            have hc9 : (3 : Int) = r := by simpa [gHd] using hc8
            subst hc9
            refine vx_catch (own := RL) (name := "java/lang/IllegalStateException") hown [⟨0, 10, 13, 28⟩, ⟨0, 10, 17, 13⟩] ⟨0, 10, 21, 23⟩ [] (by rw [htab]; rfl) (fun z hz => by
              simp only [List.mem_cons, List.not_mem_nil, or_false] at hz
              rcases hz with rfl | rfl
              · exact Or.inr ⟨by decide, "java/lang/IndexOutOfBoundsException", hts _ q_cl_L_28, g_nc hX (by decide +kernel)⟩
              · exact Or.inr ⟨by decide, "java/lang/IllegalArgumentException", hts _ q_cl_L_13, g_nc hX (by decide +kernel)⟩) rfl (by decide) (hts _ q_cl_L_23) (va_Nw.use rfl (hX.2.2.2.2.2.2.2.2.1 ("java/lang/IllegalStateException", "java/lang/IllegalStateException") (by decide +kernel))) h1 h2 h3 ?_
            refine lv_astore (lv' := (4, .ref q9) :: [(0, .ref (G.1 0)), (1, .int (gI a1)), (2, .int (gI a2)), (3, .ref (G.1 147))]) hx hb0 dL_addArrow_21 hl (by decide) rfl (fun ls hl => ?_)
            refine lv_iconst (v := gI (3 : Int)) hx hb0 dL_addArrow_23 (by decide) ?_
            exact g_iret hx hb0 hr hH hlocks dL_addArrow_24
          · exact absurd hc8 (by simp [gHd, g0, g1, g2])
  · rcases h with ⟨u8, h8, rfl, rfl, rfl⟩ | ⟨k8, h8, hc8, -, -⟩
    · have huu : u9 = u8 := by
        rw [h8] at hu9
        exact (Sum.inr.inj hu9).symm
      simp only [huu] at hH ⊢
      refine lv_i2l (v := (gI u8.1).toInt64) hx hb0 dL_addArrow_8 rfl ?_
      refine g_last hx hb0 hX hH (k := 147) (rfl : gKinds[147]? = _) dL_addArrow_9 (fun H locs hH => ?_)
      refine lv_goto (tgt := 25) hx hb0 dL_addArrow_10 (by decide) ?_
      refine lv_iconst (v := gI (0 : Int)) hx hb0 dL_addArrow_25 (by decide) ?_
      exact g_iret hx hb0 hr hH hlocks dL_addArrow_26
    · rw [h8] at hu9
      cases hu9
set_option maxHeartbeats 4000000 in
set_option maxRecDepth 100000 in
theorem metL_removeArrow (l : Launch) (hlt : l.stackTraces = false) (D : va_G) (G : gAd) (σ : gSt) (μ : gLg) (a1 : Int) (r : Int) (σ' : gSt) (μ' : gLg) (h : gWrS (DX8_removeArrow σ a1) [(3, 1)] σ μ = some (r, σ', μ')) : Met l yL_removeArrow (gWw yL_removeArrow cL_removeArrow 4 (some .int) [(0, 9, 12, 28)]) ({ frames := 8, cells := 1, slots := 6, locals := 152 } : Room) (gPc D G [.ref (G.1 0), .int (gI a1), .ref (G.1 147)] σ μ) (gQi D G r σ' μ') 1 6 (gA G) := by
  refine va_MetW (cc := cL_removeArrow) (maxL := 4) (ret := some .int) (hh := [(0, 9, 12, 28)]) (by decide) rfl ?_
  intro p e s m args below meth c s₁ B hml hv
  obtain ⟨rfl, hP, hX⟩ := hv
  have hx := B.exec
  have hb0 := B.bytes
  have hr := B.returns
  have hts0 := atoms_spec (ws := (gWw yL_removeArrow cL_removeArrow 4 (some .int) [(0, 9, 12, 28)])) B.pre
  have htab := vx_table (x := yL_removeArrow) B (hts0 _ List.mem_cons_self)
  have hts : ∀ w ∈ gLW, w.before _ s = true := fun w hw => hts0 w (List.mem_cons_of_mem _ hw)
  have hown : s.vm.findClass RL = some m.cls := findClass_of_methodNamed B.named
  have hlocks := B.notSynchronized
  have hH : gH D G s s.heap [] σ μ := ⟨hP, va_S.rf⟩
  have hl := lv_entry ([.ref (G.1 0), .int (gI a1), .ref (G.1 147)]) (n := 4) (Nat.le_of_ble_eq_true rfl)
  rw [lg_entry_eq]
  generalize (lg_sl ([.ref (G.1 0), .int (gI a1), .ref (G.1 147)]) ++ List.replicate (4 - (lg_sl ([.ref (G.1 0), .int (gI a1), .ref (G.1 147)])).length) Slot.unset).toArray = ls at hl ⊢
  have hl : lv_has ls 4 [(0, .ref (G.1 0)), (1, .int (gI a1)), (2, .ref (G.1 147))] := hl
  obtain ⟨x, ex, h⟩ := gWrS_some h
  refine lv_aload_n hx hb0 dL_removeArrow_0 rfl (lv_at hl 2 rfl) ?_
  refine lv_iconst (v := gI (0 : Int)) hx hb0 dL_removeArrow_1 (by decide) ?_
  refine lv_aload_n hx hb0 dL_removeArrow_2 rfl (lv_at hl 0 rfl) ?_
  refine lv_iload_n hx hb0 dL_removeArrow_3 rfl (lv_at hl 1 rfl) ?_
  refine g_xcallVs (k := 0) (T := TX8) (N := 10) (As := [.int (gI a1)]) (rest := [.int (gI (0 : Int)), .ref (G.1 147)]) (x := x) ⟨hx, hb0, hml, hown, hts⟩ (metX8_removeArrow l hlt D G σ μ a1 x ex) (g_cwX (C := RX8) 1 hts q_ml_L_36 q_im_X8_removeArrow q_se_X8_removeArrow q_in_X8 q_co_X8_removeArrow ⟨rfl, rfl⟩ (by decide +kernel) ⟨Nat.le_of_ble_eq_true rfl, Nat.le_of_ble_eq_true rfl⟩) hX hH (rfl : gKinds[0]? = _) rfl rfl hl.1 rfl (Nat.le_of_ble_eq_true rfl) dL_removeArrow_4 ⟨Nat.le_of_ble_eq_true rfl, Nat.le_of_ble_eq_true rfl⟩ (fun k9 E9 ce9 q9 H locs hk9 hE9 hH h1 h2 h3 => ?_) (fun u9 hu9 H locs hH => ?_)
  · rcases h with ⟨u8, h8, -, -, -⟩ | ⟨k8, h8, hc8, rfl, rfl⟩
    · rw [h8] at hk9
      cases hk9
    · have hkk : k9 = k8 := by
        rw [h8] at hk9
        exact (Sum.inl.inj hk9).symm
      rw [hkk] at hE9
      by_cases g0 : k8 = 3
      · subst g0
        have hE9 : E9 = "java/lang/IndexOutOfBoundsException" := hE9
        subst hE9
        have hc9 : (1 : Int) = r := by simpa [gHd] using hc8
        subst hc9
        refine vx_catch (own := RL) (name := "java/lang/IndexOutOfBoundsException") hown [] ⟨0, 9, 12, 28⟩ [] (by rw [htab]; rfl) (fun z hz => nomatch hz) rfl (by decide) (hts _ q_cl_L_28) (va_Nw.use rfl (hX.2.2.2.2.2.2.2.2.1 ("java/lang/IndexOutOfBoundsException", "java/lang/IndexOutOfBoundsException") (by decide +kernel))) h1 h2 h3 ?_
        refine lv_astore_n (lv' := (3, .ref q9) :: [(0, .ref (G.1 0)), (1, .int (gI a1)), (2, .ref (G.1 147))]) hx hb0 dL_removeArrow_12 rfl hl (by decide) rfl (fun ls hl => ?_)
        refine lv_iconst (v := gI (1 : Int)) hx hb0 dL_removeArrow_13 (by decide) ?_
        exact g_iret hx hb0 hr hH hlocks dL_removeArrow_14
      · exact absurd hc8 (by simp [gHd, g0])
  · rcases h with ⟨u8, h8, rfl, rfl, rfl⟩ | ⟨k8, h8, hc8, -, -⟩
    · have huu : u9 = u8 := by
        rw [h8] at hu9
        exact (Sum.inr.inj hu9).symm
      simp only [huu] at hH ⊢
      refine lv_i2l (v := (gI u8.1).toInt64) hx hb0 dL_removeArrow_7 rfl ?_
      refine g_last hx hb0 hX hH (k := 147) (rfl : gKinds[147]? = _) dL_removeArrow_8 (fun H locs hH => ?_)
      refine lv_goto (tgt := 15) hx hb0 dL_removeArrow_9 (by decide) ?_
      refine lv_iconst (v := gI (0 : Int)) hx hb0 dL_removeArrow_15 (by decide) ?_
      exact g_iret hx hb0 hr hH hlocks dL_removeArrow_16
    · rw [h8] at hu9
      cases hu9
set_option maxHeartbeats 4000000 in
set_option maxRecDepth 100000 in
theorem metL_task (l : Launch) (hlt : l.stackTraces = false) (D : va_G) (G : gAd) (σ : gSt) (μ : gLg) (a1 : Int) (a2 : Int) (r : Int) (μ' : gLg) (h : gWrP (DX8_task σ a1 a2) [(3, 1), (1, 2)] μ = some (r, μ')) : Met l yL_task (gWw yL_task cL_task 5 (some .int) [(0, 10, 13, 28), (0, 10, 17, 13)]) ({ frames := 8, cells := 2, slots := 12, locals := 125 } : Room) (gPc D G [.ref (G.1 0), .int (gI a1), .int (gI a2), .ref (G.1 147)] σ μ) (gQi D G r σ μ') 2 12 (gA G) := by
  refine va_MetW (cc := cL_task) (maxL := 5) (ret := some .int) (hh := [(0, 10, 13, 28), (0, 10, 17, 13)]) (by decide) rfl ?_
  intro p e s m args below meth c s₁ B hml hv
  obtain ⟨rfl, hP, hX⟩ := hv
  have hx := B.exec
  have hb0 := B.bytes
  have hr := B.returns
  have hts0 := atoms_spec (ws := (gWw yL_task cL_task 5 (some .int) [(0, 10, 13, 28), (0, 10, 17, 13)])) B.pre
  have htab := vx_table (x := yL_task) B (hts0 _ List.mem_cons_self)
  have hts : ∀ w ∈ gLW, w.before _ s = true := fun w hw => hts0 w (List.mem_cons_of_mem _ hw)
  have hown : s.vm.findClass RL = some m.cls := findClass_of_methodNamed B.named
  have hlocks := B.notSynchronized
  have hH : gH D G s s.heap [] σ μ := ⟨hP, va_S.rf⟩
  have hl := lv_entry ([.ref (G.1 0), .int (gI a1), .int (gI a2), .ref (G.1 147)]) (n := 5) (Nat.le_of_ble_eq_true rfl)
  rw [lg_entry_eq]
  generalize (lg_sl ([.ref (G.1 0), .int (gI a1), .int (gI a2), .ref (G.1 147)]) ++ List.replicate (5 - (lg_sl ([.ref (G.1 0), .int (gI a1), .int (gI a2), .ref (G.1 147)])).length) Slot.unset).toArray = ls at hl ⊢
  have hl : lv_has ls 5 [(0, .ref (G.1 0)), (1, .int (gI a1)), (2, .int (gI a2)), (3, .ref (G.1 147))] := hl
  obtain ⟨x, ex, h⟩ := gWrP_some h
  refine lv_aload_n hx hb0 dL_task_0 rfl (lv_at hl 3 rfl) ?_
  refine lv_iconst (v := gI (0 : Int)) hx hb0 dL_task_1 (by decide) ?_
  refine lv_aload_n hx hb0 dL_task_2 rfl (lv_at hl 0 rfl) ?_
  refine lv_iload_n hx hb0 dL_task_3 rfl (lv_at hl 1 rfl) ?_
  refine lv_iload_n hx hb0 dL_task_4 rfl (lv_at hl 2 rfl) ?_
  refine g_xcallVp (k := 0) (T := TX8) (N := 10) (As := [.int (gI a1), .int (gI a2)]) (rest := [.int (gI (0 : Int)), .ref (G.1 147)]) (x := x) ⟨hx, hb0, hml, hown, hts⟩ (metX8_task l hlt D G σ μ a1 a2 x ex) (g_cwX (C := RX8) 2 hts q_ml_L_39 q_im_X8_task q_se_X8_task q_in_X8 q_co_X8_task ⟨rfl, rfl⟩ (by decide +kernel) ⟨Nat.le_of_ble_eq_true rfl, Nat.le_of_ble_eq_true rfl⟩) hX hH (rfl : gKinds[0]? = _) rfl rfl hl.1 rfl (Nat.le_of_ble_eq_true rfl) dL_task_5 ⟨Nat.le_of_ble_eq_true rfl, Nat.le_of_ble_eq_true rfl⟩ (fun k9 E9 ce9 q9 H locs hk9 hE9 hH h1 h2 h3 => ?_) (fun u9 hu9 H locs hH => ?_)
  · rcases h with ⟨u8, h8, -, -⟩ | ⟨k8, h8, hc8, rfl⟩
    · rw [h8] at hk9
      cases hk9
    · have hkk : k9 = k8 := by
        rw [h8] at hk9
        exact (Sum.inl.inj hk9).symm
      rw [hkk] at hE9
      by_cases g0 : k8 = 3
      · subst g0
        have hE9 : E9 = "java/lang/IndexOutOfBoundsException" := hE9
        subst hE9
        have hc9 : (1 : Int) = r := by simpa [gHd] using hc8
        subst hc9
        refine vx_catch (own := RL) (name := "java/lang/IndexOutOfBoundsException") hown [] ⟨0, 10, 13, 28⟩ [⟨0, 10, 17, 13⟩] (by rw [htab]; rfl) (fun z hz => nomatch hz) rfl (by decide) (hts _ q_cl_L_28) (va_Nw.use rfl (hX.2.2.2.2.2.2.2.2.1 ("java/lang/IndexOutOfBoundsException", "java/lang/IndexOutOfBoundsException") (by decide +kernel))) h1 h2 h3 ?_
        refine lv_astore (lv' := (4, .ref q9) :: [(0, .ref (G.1 0)), (1, .int (gI a1)), (2, .int (gI a2)), (3, .ref (G.1 147))]) hx hb0 dL_task_13 hl (by decide) rfl (fun ls hl => ?_)
        refine lv_iconst (v := gI (1 : Int)) hx hb0 dL_task_15 (by decide) ?_
        exact g_iret hx hb0 hr hH hlocks dL_task_16
      · skip
        by_cases g1 : k8 = 1
        · subst g1
          have hE9 : E9 = "java/lang/IllegalArgumentException" := hE9
          subst hE9
          have hc9 : (2 : Int) = r := by simpa [gHd] using hc8
          subst hc9
          refine vx_catch (own := RL) (name := "java/lang/IllegalArgumentException") hown [⟨0, 10, 13, 28⟩] ⟨0, 10, 17, 13⟩ [] (by rw [htab]; rfl) (fun z hz => by
            simp only [List.mem_cons, List.not_mem_nil, or_false] at hz
            rcases hz with rfl
            · exact Or.inr ⟨by decide, "java/lang/IndexOutOfBoundsException", hts _ q_cl_L_28, g_nc hX (by decide +kernel)⟩) rfl (by decide) (hts _ q_cl_L_13) (va_Nw.use rfl (hX.2.2.2.2.2.2.2.2.1 ("java/lang/IllegalArgumentException", "java/lang/IllegalArgumentException") (by decide +kernel))) h1 h2 h3 ?_
          refine lv_astore (lv' := (4, .ref q9) :: [(0, .ref (G.1 0)), (1, .int (gI a1)), (2, .int (gI a2)), (3, .ref (G.1 147))]) hx hb0 dL_task_17 hl (by decide) rfl (fun ls hl => ?_)
          refine lv_iconst (v := gI (2 : Int)) hx hb0 dL_task_19 (by decide) ?_
          exact g_iret hx hb0 hr hH hlocks dL_task_20
        · exact absurd hc8 (by simp [gHd, g0, g1])
  · rcases h with ⟨u8, h8, rfl, rfl⟩ | ⟨k8, h8, hc8, -⟩
    · have huu : u9 = u8 := by
        rw [h8] at hu9
        exact (Sum.inr.inj hu9).symm
      simp only [huu] at hH ⊢
      refine lv_i2l (v := (gI u8).toInt64) hx hb0 dL_task_8 rfl ?_
      refine g_last hx hb0 hX hH (k := 147) (rfl : gKinds[147]? = _) dL_task_9 (fun H locs hH => ?_)
      refine lv_goto (tgt := 21) hx hb0 dL_task_10 (by decide) ?_
      refine lv_iconst (v := gI (0 : Int)) hx hb0 dL_task_21 (by decide) ?_
      exact g_iret hx hb0 hr hH hlocks dL_task_22
    · rw [h8] at hu9
      cases hu9
set_option maxHeartbeats 4000000 in
set_option maxRecDepth 100000 in
theorem metL_row (l : Launch) (hlt : l.stackTraces = false) (D : va_G) (G : gAd) (σ : gSt) (μ : gLg) (a1 : Int) (a2 : Int) (r : Int) (μ' : gLg) (h : gWrP (DX8_row σ a1 a2) [(3, 1)] μ = some (r, μ')) : Met l yL_row (gWw yL_row cL_row 5 (some .int) [(0, 10, 13, 28)]) ({ frames := 8, cells := 2, slots := 12, locals := 125 } : Room) (gPc D G [.ref (G.1 0), .int (gI a1), .int (gI a2), .ref (G.1 147)] σ μ) (gQi D G r σ μ') 2 12 (gA G) := by
  refine va_MetW (cc := cL_row) (maxL := 5) (ret := some .int) (hh := [(0, 10, 13, 28)]) (by decide) rfl ?_
  intro p e s m args below meth c s₁ B hml hv
  obtain ⟨rfl, hP, hX⟩ := hv
  have hx := B.exec
  have hb0 := B.bytes
  have hr := B.returns
  have hts0 := atoms_spec (ws := (gWw yL_row cL_row 5 (some .int) [(0, 10, 13, 28)])) B.pre
  have htab := vx_table (x := yL_row) B (hts0 _ List.mem_cons_self)
  have hts : ∀ w ∈ gLW, w.before _ s = true := fun w hw => hts0 w (List.mem_cons_of_mem _ hw)
  have hown : s.vm.findClass RL = some m.cls := findClass_of_methodNamed B.named
  have hlocks := B.notSynchronized
  have hH : gH D G s s.heap [] σ μ := ⟨hP, va_S.rf⟩
  have hl := lv_entry ([.ref (G.1 0), .int (gI a1), .int (gI a2), .ref (G.1 147)]) (n := 5) (Nat.le_of_ble_eq_true rfl)
  rw [lg_entry_eq]
  generalize (lg_sl ([.ref (G.1 0), .int (gI a1), .int (gI a2), .ref (G.1 147)]) ++ List.replicate (5 - (lg_sl ([.ref (G.1 0), .int (gI a1), .int (gI a2), .ref (G.1 147)])).length) Slot.unset).toArray = ls at hl ⊢
  have hl : lv_has ls 5 [(0, .ref (G.1 0)), (1, .int (gI a1)), (2, .int (gI a2)), (3, .ref (G.1 147))] := hl
  obtain ⟨x, ex, h⟩ := gWrP_some h
  refine lv_aload_n hx hb0 dL_row_0 rfl (lv_at hl 3 rfl) ?_
  refine lv_iconst (v := gI (0 : Int)) hx hb0 dL_row_1 (by decide) ?_
  refine lv_aload_n hx hb0 dL_row_2 rfl (lv_at hl 0 rfl) ?_
  refine lv_iload_n hx hb0 dL_row_3 rfl (lv_at hl 1 rfl) ?_
  refine lv_iload_n hx hb0 dL_row_4 rfl (lv_at hl 2 rfl) ?_
  refine g_xcallVp (k := 0) (T := TX8) (N := 10) (As := [.int (gI a1), .int (gI a2)]) (rest := [.int (gI (0 : Int)), .ref (G.1 147)]) (x := x) ⟨hx, hb0, hml, hown, hts⟩ (metX8_row l hlt D G σ μ a1 a2 x ex) (g_cwX (C := RX8) 2 hts q_ml_L_42 q_im_X8_row q_se_X8_row q_in_X8 q_co_X8_row ⟨rfl, rfl⟩ (by decide +kernel) ⟨Nat.le_of_ble_eq_true rfl, Nat.le_of_ble_eq_true rfl⟩) hX hH (rfl : gKinds[0]? = _) rfl rfl hl.1 rfl (Nat.le_of_ble_eq_true rfl) dL_row_5 ⟨Nat.le_of_ble_eq_true rfl, Nat.le_of_ble_eq_true rfl⟩ (fun k9 E9 ce9 q9 H locs hk9 hE9 hH h1 h2 h3 => ?_) (fun u9 hu9 H locs hH => ?_)
  · rcases h with ⟨u8, h8, -, -⟩ | ⟨k8, h8, hc8, rfl⟩
    · rw [h8] at hk9
      cases hk9
    · have hkk : k9 = k8 := by
        rw [h8] at hk9
        exact (Sum.inl.inj hk9).symm
      rw [hkk] at hE9
      by_cases g0 : k8 = 3
      · subst g0
        have hE9 : E9 = "java/lang/IndexOutOfBoundsException" := hE9
        subst hE9
        have hc9 : (1 : Int) = r := by simpa [gHd] using hc8
        subst hc9
        refine vx_catch (own := RL) (name := "java/lang/IndexOutOfBoundsException") hown [] ⟨0, 10, 13, 28⟩ [] (by rw [htab]; rfl) (fun z hz => nomatch hz) rfl (by decide) (hts _ q_cl_L_28) (va_Nw.use rfl (hX.2.2.2.2.2.2.2.2.1 ("java/lang/IndexOutOfBoundsException", "java/lang/IndexOutOfBoundsException") (by decide +kernel))) h1 h2 h3 ?_
        refine lv_astore (lv' := (4, .ref q9) :: [(0, .ref (G.1 0)), (1, .int (gI a1)), (2, .int (gI a2)), (3, .ref (G.1 147))]) hx hb0 dL_row_13 hl (by decide) rfl (fun ls hl => ?_)
        refine lv_iconst (v := gI (1 : Int)) hx hb0 dL_row_15 (by decide) ?_
        exact g_iret hx hb0 hr hH hlocks dL_row_16
      · exact absurd hc8 (by simp [gHd, g0])
  · rcases h with ⟨u8, h8, rfl, rfl⟩ | ⟨k8, h8, hc8, -⟩
    · have huu : u9 = u8 := by
        rw [h8] at hu9
        exact (Sum.inr.inj hu9).symm
      simp only [huu] at hH ⊢
      refine lv_i2l (v := (gI u8).toInt64) hx hb0 dL_row_8 rfl ?_
      refine g_last hx hb0 hX hH (k := 147) (rfl : gKinds[147]? = _) dL_row_9 (fun H locs hH => ?_)
      refine lv_goto (tgt := 17) hx hb0 dL_row_10 (by decide) ?_
      refine lv_iconst (v := gI (0 : Int)) hx hb0 dL_row_17 (by decide) ?_
      exact g_iret hx hb0 hr hH hlocks dL_row_18
    · rw [h8] at hu9
      cases hu9
set_option maxHeartbeats 4000000 in
set_option maxRecDepth 100000 in
theorem metL_sheet (l : Launch) (hlt : l.stackTraces = false) (D : va_G) (G : gAd) (σ : gSt) (μ : gLg) (a1 : Int) (a2 : Int) (r : Int) (μ' : gLg) (h : gWrP (DX8_sheet σ a1 a2) [(3, 1), (1, 2)] μ = some (r, μ')) : Met l yL_sheet (gWw yL_sheet cL_sheet 5 (some .int) [(0, 10, 13, 28), (0, 10, 17, 13)]) ({ frames := 8, cells := 2, slots := 12, locals := 125 } : Room) (gPc D G [.ref (G.1 0), .int (gI a1), .int (gI a2), .ref (G.1 147)] σ μ) (gQi D G r σ μ') 2 12 (gA G) := by
  refine va_MetW (cc := cL_sheet) (maxL := 5) (ret := some .int) (hh := [(0, 10, 13, 28), (0, 10, 17, 13)]) (by decide) rfl ?_
  intro p e s m args below meth c s₁ B hml hv
  obtain ⟨rfl, hP, hX⟩ := hv
  have hx := B.exec
  have hb0 := B.bytes
  have hr := B.returns
  have hts0 := atoms_spec (ws := (gWw yL_sheet cL_sheet 5 (some .int) [(0, 10, 13, 28), (0, 10, 17, 13)])) B.pre
  have htab := vx_table (x := yL_sheet) B (hts0 _ List.mem_cons_self)
  have hts : ∀ w ∈ gLW, w.before _ s = true := fun w hw => hts0 w (List.mem_cons_of_mem _ hw)
  have hown : s.vm.findClass RL = some m.cls := findClass_of_methodNamed B.named
  have hlocks := B.notSynchronized
  have hH : gH D G s s.heap [] σ μ := ⟨hP, va_S.rf⟩
  have hl := lv_entry ([.ref (G.1 0), .int (gI a1), .int (gI a2), .ref (G.1 147)]) (n := 5) (Nat.le_of_ble_eq_true rfl)
  rw [lg_entry_eq]
  generalize (lg_sl ([.ref (G.1 0), .int (gI a1), .int (gI a2), .ref (G.1 147)]) ++ List.replicate (5 - (lg_sl ([.ref (G.1 0), .int (gI a1), .int (gI a2), .ref (G.1 147)])).length) Slot.unset).toArray = ls at hl ⊢
  have hl : lv_has ls 5 [(0, .ref (G.1 0)), (1, .int (gI a1)), (2, .int (gI a2)), (3, .ref (G.1 147))] := hl
  obtain ⟨x, ex, h⟩ := gWrP_some h
  refine lv_aload_n hx hb0 dL_sheet_0 rfl (lv_at hl 3 rfl) ?_
  refine lv_iconst (v := gI (0 : Int)) hx hb0 dL_sheet_1 (by decide) ?_
  refine lv_aload_n hx hb0 dL_sheet_2 rfl (lv_at hl 0 rfl) ?_
  refine lv_iload_n hx hb0 dL_sheet_3 rfl (lv_at hl 1 rfl) ?_
  refine lv_iload_n hx hb0 dL_sheet_4 rfl (lv_at hl 2 rfl) ?_
  refine g_xcallVp (k := 0) (T := TX8) (N := 10) (As := [.int (gI a1), .int (gI a2)]) (rest := [.int (gI (0 : Int)), .ref (G.1 147)]) (x := x) ⟨hx, hb0, hml, hown, hts⟩ (metX8_sheet l hlt D G σ μ a1 a2 x ex) (g_cwX (C := RX8) 2 hts q_ml_L_45 q_im_X8_sheet q_se_X8_sheet q_in_X8 q_co_X8_sheet ⟨rfl, rfl⟩ (by decide +kernel) ⟨Nat.le_of_ble_eq_true rfl, Nat.le_of_ble_eq_true rfl⟩) hX hH (rfl : gKinds[0]? = _) rfl rfl hl.1 rfl (Nat.le_of_ble_eq_true rfl) dL_sheet_5 ⟨Nat.le_of_ble_eq_true rfl, Nat.le_of_ble_eq_true rfl⟩ (fun k9 E9 ce9 q9 H locs hk9 hE9 hH h1 h2 h3 => ?_) (fun u9 hu9 H locs hH => ?_)
  · rcases h with ⟨u8, h8, -, -⟩ | ⟨k8, h8, hc8, rfl⟩
    · rw [h8] at hk9
      cases hk9
    · have hkk : k9 = k8 := by
        rw [h8] at hk9
        exact (Sum.inl.inj hk9).symm
      rw [hkk] at hE9
      by_cases g0 : k8 = 3
      · subst g0
        have hE9 : E9 = "java/lang/IndexOutOfBoundsException" := hE9
        subst hE9
        have hc9 : (1 : Int) = r := by simpa [gHd] using hc8
        subst hc9
        refine vx_catch (own := RL) (name := "java/lang/IndexOutOfBoundsException") hown [] ⟨0, 10, 13, 28⟩ [⟨0, 10, 17, 13⟩] (by rw [htab]; rfl) (fun z hz => nomatch hz) rfl (by decide) (hts _ q_cl_L_28) (va_Nw.use rfl (hX.2.2.2.2.2.2.2.2.1 ("java/lang/IndexOutOfBoundsException", "java/lang/IndexOutOfBoundsException") (by decide +kernel))) h1 h2 h3 ?_
        refine lv_astore (lv' := (4, .ref q9) :: [(0, .ref (G.1 0)), (1, .int (gI a1)), (2, .int (gI a2)), (3, .ref (G.1 147))]) hx hb0 dL_sheet_13 hl (by decide) rfl (fun ls hl => ?_)
        refine lv_iconst (v := gI (1 : Int)) hx hb0 dL_sheet_15 (by decide) ?_
        exact g_iret hx hb0 hr hH hlocks dL_sheet_16
      · skip
        by_cases g1 : k8 = 1
        · subst g1
          have hE9 : E9 = "java/lang/IllegalArgumentException" := hE9
          subst hE9
          have hc9 : (2 : Int) = r := by simpa [gHd] using hc8
          subst hc9
          refine vx_catch (own := RL) (name := "java/lang/IllegalArgumentException") hown [⟨0, 10, 13, 28⟩] ⟨0, 10, 17, 13⟩ [] (by rw [htab]; rfl) (fun z hz => by
            simp only [List.mem_cons, List.not_mem_nil, or_false] at hz
            rcases hz with rfl
            · exact Or.inr ⟨by decide, "java/lang/IndexOutOfBoundsException", hts _ q_cl_L_28, g_nc hX (by decide +kernel)⟩) rfl (by decide) (hts _ q_cl_L_13) (va_Nw.use rfl (hX.2.2.2.2.2.2.2.2.1 ("java/lang/IllegalArgumentException", "java/lang/IllegalArgumentException") (by decide +kernel))) h1 h2 h3 ?_
          refine lv_astore (lv' := (4, .ref q9) :: [(0, .ref (G.1 0)), (1, .int (gI a1)), (2, .int (gI a2)), (3, .ref (G.1 147))]) hx hb0 dL_sheet_17 hl (by decide) rfl (fun ls hl => ?_)
          refine lv_iconst (v := gI (2 : Int)) hx hb0 dL_sheet_19 (by decide) ?_
          exact g_iret hx hb0 hr hH hlocks dL_sheet_20
        · exact absurd hc8 (by simp [gHd, g0, g1])
  · rcases h with ⟨u8, h8, rfl, rfl⟩ | ⟨k8, h8, hc8, -⟩
    · have huu : u9 = u8 := by
        rw [h8] at hu9
        exact (Sum.inr.inj hu9).symm
      simp only [huu] at hH ⊢
      refine lv_i2l (v := (gI u8).toInt64) hx hb0 dL_sheet_8 rfl ?_
      refine g_last hx hb0 hX hH (k := 147) (rfl : gKinds[147]? = _) dL_sheet_9 (fun H locs hH => ?_)
      refine lv_goto (tgt := 21) hx hb0 dL_sheet_10 (by decide) ?_
      refine lv_iconst (v := gI (0 : Int)) hx hb0 dL_sheet_21 (by decide) ?_
      exact g_iret hx hb0 hr hH hlocks dL_sheet_22
    · rw [h8] at hu9
      cases hu9
set_option maxHeartbeats 4000000 in
set_option maxRecDepth 100000 in
theorem metL_sheetAt (l : Launch) (hlt : l.stackTraces = false) (D : va_G) (G : gAd) (σ : gSt) (μ : gLg) (a1 : Int) (a2 : Int) (r : Int) (μ' : gLg) (h : gWrP (DX8_sheetAt σ a1 a2) [(3, 1), (1, 2)] μ = some (r, μ')) : Met l yL_sheetAt (gWw yL_sheetAt cL_sheetAt 5 (some .int) [(0, 10, 13, 28), (0, 10, 17, 13)]) ({ frames := 8, cells := 2, slots := 12, locals := 125 } : Room) (gPc D G [.ref (G.1 0), .int (gI a1), .int (gI a2), .ref (G.1 147)] σ μ) (gQi D G r σ μ') 2 12 (gA G) := by
  refine va_MetW (cc := cL_sheetAt) (maxL := 5) (ret := some .int) (hh := [(0, 10, 13, 28), (0, 10, 17, 13)]) (by decide) rfl ?_
  intro p e s m args below meth c s₁ B hml hv
  obtain ⟨rfl, hP, hX⟩ := hv
  have hx := B.exec
  have hb0 := B.bytes
  have hr := B.returns
  have hts0 := atoms_spec (ws := (gWw yL_sheetAt cL_sheetAt 5 (some .int) [(0, 10, 13, 28), (0, 10, 17, 13)])) B.pre
  have htab := vx_table (x := yL_sheetAt) B (hts0 _ List.mem_cons_self)
  have hts : ∀ w ∈ gLW, w.before _ s = true := fun w hw => hts0 w (List.mem_cons_of_mem _ hw)
  have hown : s.vm.findClass RL = some m.cls := findClass_of_methodNamed B.named
  have hlocks := B.notSynchronized
  have hH : gH D G s s.heap [] σ μ := ⟨hP, va_S.rf⟩
  have hl := lv_entry ([.ref (G.1 0), .int (gI a1), .int (gI a2), .ref (G.1 147)]) (n := 5) (Nat.le_of_ble_eq_true rfl)
  rw [lg_entry_eq]
  generalize (lg_sl ([.ref (G.1 0), .int (gI a1), .int (gI a2), .ref (G.1 147)]) ++ List.replicate (5 - (lg_sl ([.ref (G.1 0), .int (gI a1), .int (gI a2), .ref (G.1 147)])).length) Slot.unset).toArray = ls at hl ⊢
  have hl : lv_has ls 5 [(0, .ref (G.1 0)), (1, .int (gI a1)), (2, .int (gI a2)), (3, .ref (G.1 147))] := hl
  obtain ⟨x, ex, h⟩ := gWrP_some h
  refine lv_aload_n hx hb0 dL_sheetAt_0 rfl (lv_at hl 3 rfl) ?_
  refine lv_iconst (v := gI (0 : Int)) hx hb0 dL_sheetAt_1 (by decide) ?_
  refine lv_aload_n hx hb0 dL_sheetAt_2 rfl (lv_at hl 0 rfl) ?_
  refine lv_iload_n hx hb0 dL_sheetAt_3 rfl (lv_at hl 1 rfl) ?_
  refine lv_iload_n hx hb0 dL_sheetAt_4 rfl (lv_at hl 2 rfl) ?_
  refine g_xcallVp (k := 0) (T := TX8) (N := 10) (As := [.int (gI a1), .int (gI a2)]) (rest := [.int (gI (0 : Int)), .ref (G.1 147)]) (x := x) ⟨hx, hb0, hml, hown, hts⟩ (metX8_sheetAt l hlt D G σ μ a1 a2 x ex) (g_cwX (C := RX8) 2 hts q_ml_L_48 q_im_X8_sheetAt q_se_X8_sheetAt q_in_X8 q_co_X8_sheetAt ⟨rfl, rfl⟩ (by decide +kernel) ⟨Nat.le_of_ble_eq_true rfl, Nat.le_of_ble_eq_true rfl⟩) hX hH (rfl : gKinds[0]? = _) rfl rfl hl.1 rfl (Nat.le_of_ble_eq_true rfl) dL_sheetAt_5 ⟨Nat.le_of_ble_eq_true rfl, Nat.le_of_ble_eq_true rfl⟩ (fun k9 E9 ce9 q9 H locs hk9 hE9 hH h1 h2 h3 => ?_) (fun u9 hu9 H locs hH => ?_)
  · rcases h with ⟨u8, h8, -, -⟩ | ⟨k8, h8, hc8, rfl⟩
    · rw [h8] at hk9
      cases hk9
    · have hkk : k9 = k8 := by
        rw [h8] at hk9
        exact (Sum.inl.inj hk9).symm
      rw [hkk] at hE9
      by_cases g0 : k8 = 3
      · subst g0
        have hE9 : E9 = "java/lang/IndexOutOfBoundsException" := hE9
        subst hE9
        have hc9 : (1 : Int) = r := by simpa [gHd] using hc8
        subst hc9
        refine vx_catch (own := RL) (name := "java/lang/IndexOutOfBoundsException") hown [] ⟨0, 10, 13, 28⟩ [⟨0, 10, 17, 13⟩] (by rw [htab]; rfl) (fun z hz => nomatch hz) rfl (by decide) (hts _ q_cl_L_28) (va_Nw.use rfl (hX.2.2.2.2.2.2.2.2.1 ("java/lang/IndexOutOfBoundsException", "java/lang/IndexOutOfBoundsException") (by decide +kernel))) h1 h2 h3 ?_
        refine lv_astore (lv' := (4, .ref q9) :: [(0, .ref (G.1 0)), (1, .int (gI a1)), (2, .int (gI a2)), (3, .ref (G.1 147))]) hx hb0 dL_sheetAt_13 hl (by decide) rfl (fun ls hl => ?_)
        refine lv_iconst (v := gI (1 : Int)) hx hb0 dL_sheetAt_15 (by decide) ?_
        exact g_iret hx hb0 hr hH hlocks dL_sheetAt_16
      · skip
        by_cases g1 : k8 = 1
        · subst g1
          have hE9 : E9 = "java/lang/IllegalArgumentException" := hE9
          subst hE9
          have hc9 : (2 : Int) = r := by simpa [gHd] using hc8
          subst hc9
          refine vx_catch (own := RL) (name := "java/lang/IllegalArgumentException") hown [⟨0, 10, 13, 28⟩] ⟨0, 10, 17, 13⟩ [] (by rw [htab]; rfl) (fun z hz => by
            simp only [List.mem_cons, List.not_mem_nil, or_false] at hz
            rcases hz with rfl
            · exact Or.inr ⟨by decide, "java/lang/IndexOutOfBoundsException", hts _ q_cl_L_28, g_nc hX (by decide +kernel)⟩) rfl (by decide) (hts _ q_cl_L_13) (va_Nw.use rfl (hX.2.2.2.2.2.2.2.2.1 ("java/lang/IllegalArgumentException", "java/lang/IllegalArgumentException") (by decide +kernel))) h1 h2 h3 ?_
          refine lv_astore (lv' := (4, .ref q9) :: [(0, .ref (G.1 0)), (1, .int (gI a1)), (2, .int (gI a2)), (3, .ref (G.1 147))]) hx hb0 dL_sheetAt_17 hl (by decide) rfl (fun ls hl => ?_)
          refine lv_iconst (v := gI (2 : Int)) hx hb0 dL_sheetAt_19 (by decide) ?_
          exact g_iret hx hb0 hr hH hlocks dL_sheetAt_20
        · exact absurd hc8 (by simp [gHd, g0, g1])
  · rcases h with ⟨u8, h8, rfl, rfl⟩ | ⟨k8, h8, hc8, -⟩
    · have huu : u9 = u8 := by
        rw [h8] at hu9
        exact (Sum.inr.inj hu9).symm
      simp only [huu] at hH ⊢
      refine lv_i2l (v := (gI u8).toInt64) hx hb0 dL_sheetAt_8 rfl ?_
      refine g_last hx hb0 hX hH (k := 147) (rfl : gKinds[147]? = _) dL_sheetAt_9 (fun H locs hH => ?_)
      refine lv_goto (tgt := 21) hx hb0 dL_sheetAt_10 (by decide) ?_
      refine lv_iconst (v := gI (0 : Int)) hx hb0 dL_sheetAt_21 (by decide) ?_
      exact g_iret hx hb0 hr hH hlocks dL_sheetAt_22
    · rw [h8] at hu9
      cases hu9
set_option maxHeartbeats 4000000 in
set_option maxRecDepth 100000 in
theorem metL_part (l : Launch) (hlt : l.stackTraces = false) (D : va_G) (G : gAd) (σ : gSt) (μ : gLg) (a1 : Int) (a2 : Int) (a3 : Int) (r : Int) (μ' : gLg) (h : gWrP (DX8_part σ a1 a2 a3) [(3, 1), (1, 2)] μ = some (r, μ')) : Met l yL_part (gWw yL_part cL_part 6 (some .int) [(0, 12, 15, 28), (0, 12, 19, 13)]) ({ frames := 8, cells := 2, slots := 12, locals := 126 } : Room) (gPc D G [.ref (G.1 0), .int (gI a1), .int (gI a2), .int (gI a3), .ref (G.1 147)] σ μ) (gQi D G r σ μ') 2 12 (gA G) := by
  refine va_MetW (cc := cL_part) (maxL := 6) (ret := some .int) (hh := [(0, 12, 15, 28), (0, 12, 19, 13)]) (by decide) rfl ?_
  intro p e s m args below meth c s₁ B hml hv
  obtain ⟨rfl, hP, hX⟩ := hv
  have hx := B.exec
  have hb0 := B.bytes
  have hr := B.returns
  have hts0 := atoms_spec (ws := (gWw yL_part cL_part 6 (some .int) [(0, 12, 15, 28), (0, 12, 19, 13)])) B.pre
  have htab := vx_table (x := yL_part) B (hts0 _ List.mem_cons_self)
  have hts : ∀ w ∈ gLW, w.before _ s = true := fun w hw => hts0 w (List.mem_cons_of_mem _ hw)
  have hown : s.vm.findClass RL = some m.cls := findClass_of_methodNamed B.named
  have hlocks := B.notSynchronized
  have hH : gH D G s s.heap [] σ μ := ⟨hP, va_S.rf⟩
  have hl := lv_entry ([.ref (G.1 0), .int (gI a1), .int (gI a2), .int (gI a3), .ref (G.1 147)]) (n := 6) (Nat.le_of_ble_eq_true rfl)
  rw [lg_entry_eq]
  generalize (lg_sl ([.ref (G.1 0), .int (gI a1), .int (gI a2), .int (gI a3), .ref (G.1 147)]) ++ List.replicate (6 - (lg_sl ([.ref (G.1 0), .int (gI a1), .int (gI a2), .int (gI a3), .ref (G.1 147)])).length) Slot.unset).toArray = ls at hl ⊢
  have hl : lv_has ls 6 [(0, .ref (G.1 0)), (1, .int (gI a1)), (2, .int (gI a2)), (3, .int (gI a3)), (4, .ref (G.1 147))] := hl
  obtain ⟨x, ex, h⟩ := gWrP_some h
  refine lv_aload hx hb0 dL_part_0 (lv_at hl 4 rfl) ?_
  refine lv_iconst (v := gI (0 : Int)) hx hb0 dL_part_2 (by decide) ?_
  refine lv_aload_n hx hb0 dL_part_3 rfl (lv_at hl 0 rfl) ?_
  refine lv_iload_n hx hb0 dL_part_4 rfl (lv_at hl 1 rfl) ?_
  refine lv_iload_n hx hb0 dL_part_5 rfl (lv_at hl 2 rfl) ?_
  refine lv_iload_n hx hb0 dL_part_6 rfl (lv_at hl 3 rfl) ?_
  refine g_xcallVp (k := 0) (T := TX8) (N := 10) (As := [.int (gI a1), .int (gI a2), .int (gI a3)]) (rest := [.int (gI (0 : Int)), .ref (G.1 147)]) (x := x) ⟨hx, hb0, hml, hown, hts⟩ (metX8_part l hlt D G σ μ a1 a2 a3 x ex) (g_cwX (C := RX8) 3 hts q_ml_L_51 q_im_X8_part q_se_X8_part q_in_X8 q_co_X8_part ⟨rfl, rfl⟩ (by decide +kernel) ⟨Nat.le_of_ble_eq_true rfl, Nat.le_of_ble_eq_true rfl⟩) hX hH (rfl : gKinds[0]? = _) rfl rfl hl.1 rfl (Nat.le_of_ble_eq_true rfl) dL_part_7 ⟨Nat.le_of_ble_eq_true rfl, Nat.le_of_ble_eq_true rfl⟩ (fun k9 E9 ce9 q9 H locs hk9 hE9 hH h1 h2 h3 => ?_) (fun u9 hu9 H locs hH => ?_)
  · rcases h with ⟨u8, h8, -, -⟩ | ⟨k8, h8, hc8, rfl⟩
    · rw [h8] at hk9
      cases hk9
    · have hkk : k9 = k8 := by
        rw [h8] at hk9
        exact (Sum.inl.inj hk9).symm
      rw [hkk] at hE9
      by_cases g0 : k8 = 3
      · subst g0
        have hE9 : E9 = "java/lang/IndexOutOfBoundsException" := hE9
        subst hE9
        have hc9 : (1 : Int) = r := by simpa [gHd] using hc8
        subst hc9
        refine vx_catch (own := RL) (name := "java/lang/IndexOutOfBoundsException") hown [] ⟨0, 12, 15, 28⟩ [⟨0, 12, 19, 13⟩] (by rw [htab]; rfl) (fun z hz => nomatch hz) rfl (by decide) (hts _ q_cl_L_28) (va_Nw.use rfl (hX.2.2.2.2.2.2.2.2.1 ("java/lang/IndexOutOfBoundsException", "java/lang/IndexOutOfBoundsException") (by decide +kernel))) h1 h2 h3 ?_
        refine lv_astore (lv' := (5, .ref q9) :: [(0, .ref (G.1 0)), (1, .int (gI a1)), (2, .int (gI a2)), (3, .int (gI a3)), (4, .ref (G.1 147))]) hx hb0 dL_part_15 hl (by decide) rfl (fun ls hl => ?_)
        refine lv_iconst (v := gI (1 : Int)) hx hb0 dL_part_17 (by decide) ?_
        exact g_iret hx hb0 hr hH hlocks dL_part_18
      · skip
        by_cases g1 : k8 = 1
        · subst g1
          have hE9 : E9 = "java/lang/IllegalArgumentException" := hE9
          subst hE9
          have hc9 : (2 : Int) = r := by simpa [gHd] using hc8
          subst hc9
          refine vx_catch (own := RL) (name := "java/lang/IllegalArgumentException") hown [⟨0, 12, 15, 28⟩] ⟨0, 12, 19, 13⟩ [] (by rw [htab]; rfl) (fun z hz => by
            simp only [List.mem_cons, List.not_mem_nil, or_false] at hz
            rcases hz with rfl
            · exact Or.inr ⟨by decide, "java/lang/IndexOutOfBoundsException", hts _ q_cl_L_28, g_nc hX (by decide +kernel)⟩) rfl (by decide) (hts _ q_cl_L_13) (va_Nw.use rfl (hX.2.2.2.2.2.2.2.2.1 ("java/lang/IllegalArgumentException", "java/lang/IllegalArgumentException") (by decide +kernel))) h1 h2 h3 ?_
          refine lv_astore (lv' := (5, .ref q9) :: [(0, .ref (G.1 0)), (1, .int (gI a1)), (2, .int (gI a2)), (3, .int (gI a3)), (4, .ref (G.1 147))]) hx hb0 dL_part_19 hl (by decide) rfl (fun ls hl => ?_)
          refine lv_iconst (v := gI (2 : Int)) hx hb0 dL_part_21 (by decide) ?_
          exact g_iret hx hb0 hr hH hlocks dL_part_22
        · exact absurd hc8 (by simp [gHd, g0, g1])
  · rcases h with ⟨u8, h8, rfl, rfl⟩ | ⟨k8, h8, hc8, -⟩
    · have huu : u9 = u8 := by
        rw [h8] at hu9
        exact (Sum.inr.inj hu9).symm
      simp only [huu] at hH ⊢
      refine lv_i2l (v := (gI u8).toInt64) hx hb0 dL_part_10 rfl ?_
      refine g_last hx hb0 hX hH (k := 147) (rfl : gKinds[147]? = _) dL_part_11 (fun H locs hH => ?_)
      refine lv_goto (tgt := 23) hx hb0 dL_part_12 (by decide) ?_
      refine lv_iconst (v := gI (0 : Int)) hx hb0 dL_part_23 (by decide) ?_
      exact g_iret hx hb0 hr hH hlocks dL_part_24
    · rw [h8] at hu9
      cases hu9
set_option maxHeartbeats 4000000 in
set_option maxRecDepth 100000 in
theorem metL_arrow (l : Launch) (hlt : l.stackTraces = false) (D : va_G) (G : gAd) (σ : gSt) (μ : gLg) (a1 : Int) (a2 : Int) (r : Int) (μ' : gLg) (h : gWrP (DX8_arrow σ a1 a2) [(3, 1), (1, 2)] μ = some (r, μ')) : Met l yL_arrow (gWw yL_arrow cL_arrow 5 (some .int) [(0, 10, 13, 28), (0, 10, 17, 13)]) ({ frames := 8, cells := 2, slots := 12, locals := 125 } : Room) (gPc D G [.ref (G.1 0), .int (gI a1), .int (gI a2), .ref (G.1 147)] σ μ) (gQi D G r σ μ') 2 12 (gA G) := by
  refine va_MetW (cc := cL_arrow) (maxL := 5) (ret := some .int) (hh := [(0, 10, 13, 28), (0, 10, 17, 13)]) (by decide) rfl ?_
  intro p e s m args below meth c s₁ B hml hv
  obtain ⟨rfl, hP, hX⟩ := hv
  have hx := B.exec
  have hb0 := B.bytes
  have hr := B.returns
  have hts0 := atoms_spec (ws := (gWw yL_arrow cL_arrow 5 (some .int) [(0, 10, 13, 28), (0, 10, 17, 13)])) B.pre
  have htab := vx_table (x := yL_arrow) B (hts0 _ List.mem_cons_self)
  have hts : ∀ w ∈ gLW, w.before _ s = true := fun w hw => hts0 w (List.mem_cons_of_mem _ hw)
  have hown : s.vm.findClass RL = some m.cls := findClass_of_methodNamed B.named
  have hlocks := B.notSynchronized
  have hH : gH D G s s.heap [] σ μ := ⟨hP, va_S.rf⟩
  have hl := lv_entry ([.ref (G.1 0), .int (gI a1), .int (gI a2), .ref (G.1 147)]) (n := 5) (Nat.le_of_ble_eq_true rfl)
  rw [lg_entry_eq]
  generalize (lg_sl ([.ref (G.1 0), .int (gI a1), .int (gI a2), .ref (G.1 147)]) ++ List.replicate (5 - (lg_sl ([.ref (G.1 0), .int (gI a1), .int (gI a2), .ref (G.1 147)])).length) Slot.unset).toArray = ls at hl ⊢
  have hl : lv_has ls 5 [(0, .ref (G.1 0)), (1, .int (gI a1)), (2, .int (gI a2)), (3, .ref (G.1 147))] := hl
  obtain ⟨x, ex, h⟩ := gWrP_some h
  refine lv_aload_n hx hb0 dL_arrow_0 rfl (lv_at hl 3 rfl) ?_
  refine lv_iconst (v := gI (0 : Int)) hx hb0 dL_arrow_1 (by decide) ?_
  refine lv_aload_n hx hb0 dL_arrow_2 rfl (lv_at hl 0 rfl) ?_
  refine lv_iload_n hx hb0 dL_arrow_3 rfl (lv_at hl 1 rfl) ?_
  refine lv_iload_n hx hb0 dL_arrow_4 rfl (lv_at hl 2 rfl) ?_
  refine g_xcallVp (k := 0) (T := TX8) (N := 10) (As := [.int (gI a1), .int (gI a2)]) (rest := [.int (gI (0 : Int)), .ref (G.1 147)]) (x := x) ⟨hx, hb0, hml, hown, hts⟩ (metX8_arrow l hlt D G σ μ a1 a2 x ex) (g_cwX (C := RX8) 2 hts q_ml_L_54 q_im_X8_arrow q_se_X8_arrow q_in_X8 q_co_X8_arrow ⟨rfl, rfl⟩ (by decide +kernel) ⟨Nat.le_of_ble_eq_true rfl, Nat.le_of_ble_eq_true rfl⟩) hX hH (rfl : gKinds[0]? = _) rfl rfl hl.1 rfl (Nat.le_of_ble_eq_true rfl) dL_arrow_5 ⟨Nat.le_of_ble_eq_true rfl, Nat.le_of_ble_eq_true rfl⟩ (fun k9 E9 ce9 q9 H locs hk9 hE9 hH h1 h2 h3 => ?_) (fun u9 hu9 H locs hH => ?_)
  · rcases h with ⟨u8, h8, -, -⟩ | ⟨k8, h8, hc8, rfl⟩
    · rw [h8] at hk9
      cases hk9
    · have hkk : k9 = k8 := by
        rw [h8] at hk9
        exact (Sum.inl.inj hk9).symm
      rw [hkk] at hE9
      by_cases g0 : k8 = 3
      · subst g0
        have hE9 : E9 = "java/lang/IndexOutOfBoundsException" := hE9
        subst hE9
        have hc9 : (1 : Int) = r := by simpa [gHd] using hc8
        subst hc9
        refine vx_catch (own := RL) (name := "java/lang/IndexOutOfBoundsException") hown [] ⟨0, 10, 13, 28⟩ [⟨0, 10, 17, 13⟩] (by rw [htab]; rfl) (fun z hz => nomatch hz) rfl (by decide) (hts _ q_cl_L_28) (va_Nw.use rfl (hX.2.2.2.2.2.2.2.2.1 ("java/lang/IndexOutOfBoundsException", "java/lang/IndexOutOfBoundsException") (by decide +kernel))) h1 h2 h3 ?_
        refine lv_astore (lv' := (4, .ref q9) :: [(0, .ref (G.1 0)), (1, .int (gI a1)), (2, .int (gI a2)), (3, .ref (G.1 147))]) hx hb0 dL_arrow_13 hl (by decide) rfl (fun ls hl => ?_)
        refine lv_iconst (v := gI (1 : Int)) hx hb0 dL_arrow_15 (by decide) ?_
        exact g_iret hx hb0 hr hH hlocks dL_arrow_16
      · skip
        by_cases g1 : k8 = 1
        · subst g1
          have hE9 : E9 = "java/lang/IllegalArgumentException" := hE9
          subst hE9
          have hc9 : (2 : Int) = r := by simpa [gHd] using hc8
          subst hc9
          refine vx_catch (own := RL) (name := "java/lang/IllegalArgumentException") hown [⟨0, 10, 13, 28⟩] ⟨0, 10, 17, 13⟩ [] (by rw [htab]; rfl) (fun z hz => by
            simp only [List.mem_cons, List.not_mem_nil, or_false] at hz
            rcases hz with rfl
            · exact Or.inr ⟨by decide, "java/lang/IndexOutOfBoundsException", hts _ q_cl_L_28, g_nc hX (by decide +kernel)⟩) rfl (by decide) (hts _ q_cl_L_13) (va_Nw.use rfl (hX.2.2.2.2.2.2.2.2.1 ("java/lang/IllegalArgumentException", "java/lang/IllegalArgumentException") (by decide +kernel))) h1 h2 h3 ?_
          refine lv_astore (lv' := (4, .ref q9) :: [(0, .ref (G.1 0)), (1, .int (gI a1)), (2, .int (gI a2)), (3, .ref (G.1 147))]) hx hb0 dL_arrow_17 hl (by decide) rfl (fun ls hl => ?_)
          refine lv_iconst (v := gI (2 : Int)) hx hb0 dL_arrow_19 (by decide) ?_
          exact g_iret hx hb0 hr hH hlocks dL_arrow_20
        · exact absurd hc8 (by simp [gHd, g0, g1])
  · rcases h with ⟨u8, h8, rfl, rfl⟩ | ⟨k8, h8, hc8, -⟩
    · have huu : u9 = u8 := by
        rw [h8] at hu9
        exact (Sum.inr.inj hu9).symm
      simp only [huu] at hH ⊢
      refine lv_i2l (v := (gI u8).toInt64) hx hb0 dL_arrow_8 rfl ?_
      refine g_last hx hb0 hX hH (k := 147) (rfl : gKinds[147]? = _) dL_arrow_9 (fun H locs hH => ?_)
      refine lv_goto (tgt := 21) hx hb0 dL_arrow_10 (by decide) ?_
      refine lv_iconst (v := gI (0 : Int)) hx hb0 dL_arrow_21 (by decide) ?_
      exact g_iret hx hb0 hr hH hlocks dL_arrow_22
    · rw [h8] at hu9
      cases hu9
set_option maxHeartbeats 4000000 in
set_option maxRecDepth 100000 in
theorem metL_arrowOf (l : Launch) (hlt : l.stackTraces = false) (D : va_G) (G : gAd) (σ : gSt) (μ : gLg) (a1 : Int) (r : Int) (μ' : gLg) (h : gWrP (DX8_arrowOf σ a1) [(3, 1)] μ = some (r, μ')) : Met l yL_arrowOf (gWw yL_arrowOf cL_arrowOf 4 (some .int) [(0, 9, 12, 28)]) ({ frames := 7, cells := 1, slots := 6, locals := 103 } : Room) (gPc D G [.ref (G.1 0), .int (gI a1), .ref (G.1 147)] σ μ) (gQi D G r σ μ') 1 6 (gA G) := by
  refine va_MetW (cc := cL_arrowOf) (maxL := 4) (ret := some .int) (hh := [(0, 9, 12, 28)]) (by decide) rfl ?_
  intro p e s m args below meth c s₁ B hml hv
  obtain ⟨rfl, hP, hX⟩ := hv
  have hx := B.exec
  have hb0 := B.bytes
  have hr := B.returns
  have hts0 := atoms_spec (ws := (gWw yL_arrowOf cL_arrowOf 4 (some .int) [(0, 9, 12, 28)])) B.pre
  have htab := vx_table (x := yL_arrowOf) B (hts0 _ List.mem_cons_self)
  have hts : ∀ w ∈ gLW, w.before _ s = true := fun w hw => hts0 w (List.mem_cons_of_mem _ hw)
  have hown : s.vm.findClass RL = some m.cls := findClass_of_methodNamed B.named
  have hlocks := B.notSynchronized
  have hH : gH D G s s.heap [] σ μ := ⟨hP, va_S.rf⟩
  have hl := lv_entry ([.ref (G.1 0), .int (gI a1), .ref (G.1 147)]) (n := 4) (Nat.le_of_ble_eq_true rfl)
  rw [lg_entry_eq]
  generalize (lg_sl ([.ref (G.1 0), .int (gI a1), .ref (G.1 147)]) ++ List.replicate (4 - (lg_sl ([.ref (G.1 0), .int (gI a1), .ref (G.1 147)])).length) Slot.unset).toArray = ls at hl ⊢
  have hl : lv_has ls 4 [(0, .ref (G.1 0)), (1, .int (gI a1)), (2, .ref (G.1 147))] := hl
  obtain ⟨x, ex, h⟩ := gWrP_some h
  refine lv_aload_n hx hb0 dL_arrowOf_0 rfl (lv_at hl 2 rfl) ?_
  refine lv_iconst (v := gI (0 : Int)) hx hb0 dL_arrowOf_1 (by decide) ?_
  refine lv_aload_n hx hb0 dL_arrowOf_2 rfl (lv_at hl 0 rfl) ?_
  refine lv_iload_n hx hb0 dL_arrowOf_3 rfl (lv_at hl 1 rfl) ?_
  refine g_xcallVp (k := 0) (T := TX8) (N := 10) (As := [.int (gI a1)]) (rest := [.int (gI (0 : Int)), .ref (G.1 147)]) (x := x) ⟨hx, hb0, hml, hown, hts⟩ (metX8_arrowOf l hlt D G σ μ a1 x ex) (g_cwX (C := RX8) 1 hts q_ml_L_57 q_im_X8_arrowOf q_se_X8_arrowOf q_in_X8 q_co_X8_arrowOf ⟨rfl, rfl⟩ (by decide +kernel) ⟨Nat.le_of_ble_eq_true rfl, Nat.le_of_ble_eq_true rfl⟩) hX hH (rfl : gKinds[0]? = _) rfl rfl hl.1 rfl (Nat.le_of_ble_eq_true rfl) dL_arrowOf_4 ⟨Nat.le_of_ble_eq_true rfl, Nat.le_of_ble_eq_true rfl⟩ (fun k9 E9 ce9 q9 H locs hk9 hE9 hH h1 h2 h3 => ?_) (fun u9 hu9 H locs hH => ?_)
  · rcases h with ⟨u8, h8, -, -⟩ | ⟨k8, h8, hc8, rfl⟩
    · rw [h8] at hk9
      cases hk9
    · have hkk : k9 = k8 := by
        rw [h8] at hk9
        exact (Sum.inl.inj hk9).symm
      rw [hkk] at hE9
      by_cases g0 : k8 = 3
      · subst g0
        have hE9 : E9 = "java/lang/IndexOutOfBoundsException" := hE9
        subst hE9
        have hc9 : (1 : Int) = r := by simpa [gHd] using hc8
        subst hc9
        refine vx_catch (own := RL) (name := "java/lang/IndexOutOfBoundsException") hown [] ⟨0, 9, 12, 28⟩ [] (by rw [htab]; rfl) (fun z hz => nomatch hz) rfl (by decide) (hts _ q_cl_L_28) (va_Nw.use rfl (hX.2.2.2.2.2.2.2.2.1 ("java/lang/IndexOutOfBoundsException", "java/lang/IndexOutOfBoundsException") (by decide +kernel))) h1 h2 h3 ?_
        refine lv_astore_n (lv' := (3, .ref q9) :: [(0, .ref (G.1 0)), (1, .int (gI a1)), (2, .ref (G.1 147))]) hx hb0 dL_arrowOf_12 rfl hl (by decide) rfl (fun ls hl => ?_)
        refine lv_iconst (v := gI (1 : Int)) hx hb0 dL_arrowOf_13 (by decide) ?_
        exact g_iret hx hb0 hr hH hlocks dL_arrowOf_14
      · exact absurd hc8 (by simp [gHd, g0])
  · rcases h with ⟨u8, h8, rfl, rfl⟩ | ⟨k8, h8, hc8, -⟩
    · have huu : u9 = u8 := by
        rw [h8] at hu9
        exact (Sum.inr.inj hu9).symm
      simp only [huu] at hH ⊢
      refine lv_i2l (v := (gI u8).toInt64) hx hb0 dL_arrowOf_7 rfl ?_
      refine g_last hx hb0 hX hH (k := 147) (rfl : gKinds[147]? = _) dL_arrowOf_8 (fun H locs hH => ?_)
      refine lv_goto (tgt := 15) hx hb0 dL_arrowOf_9 (by decide) ?_
      refine lv_iconst (v := gI (0 : Int)) hx hb0 dL_arrowOf_15 (by decide) ?_
      exact g_iret hx hb0 hr hH hlocks dL_arrowOf_16
    · rw [h8] at hu9
      cases hu9
set_option maxHeartbeats 4000000 in
set_option maxRecDepth 100000 in
theorem metL_taskAt (l : Launch) (hlt : l.stackTraces = false) (D : va_G) (G : gAd) (σ : gSt) (μ : gLg) (a1 : Int) (a2 : Int) (a3 : Int) (r : Int) (μ' : gLg) (h : gWrP (DX8_taskAt σ a1 a2 a3) [(3, 1)] μ = some (r, μ')) : Met l yL_taskAt (gWw yL_taskAt cL_taskAt 6 (some .int) [(0, 12, 15, 28)]) ({ frames := 8, cells := 3, slots := 18, locals := 128 } : Room) (gPc D G [.ref (G.1 0), .int (gI a1), .int (gI a2), .int (gI a3), .ref (G.1 147)] σ μ) (gQi D G r σ μ') 3 18 (gA G) := by
  refine va_MetW (cc := cL_taskAt) (maxL := 6) (ret := some .int) (hh := [(0, 12, 15, 28)]) (by decide) rfl ?_
  intro p e s m args below meth c s₁ B hml hv
  obtain ⟨rfl, hP, hX⟩ := hv
  have hx := B.exec
  have hb0 := B.bytes
  have hr := B.returns
  have hts0 := atoms_spec (ws := (gWw yL_taskAt cL_taskAt 6 (some .int) [(0, 12, 15, 28)])) B.pre
  have htab := vx_table (x := yL_taskAt) B (hts0 _ List.mem_cons_self)
  have hts : ∀ w ∈ gLW, w.before _ s = true := fun w hw => hts0 w (List.mem_cons_of_mem _ hw)
  have hown : s.vm.findClass RL = some m.cls := findClass_of_methodNamed B.named
  have hlocks := B.notSynchronized
  have hH : gH D G s s.heap [] σ μ := ⟨hP, va_S.rf⟩
  have hl := lv_entry ([.ref (G.1 0), .int (gI a1), .int (gI a2), .int (gI a3), .ref (G.1 147)]) (n := 6) (Nat.le_of_ble_eq_true rfl)
  rw [lg_entry_eq]
  generalize (lg_sl ([.ref (G.1 0), .int (gI a1), .int (gI a2), .int (gI a3), .ref (G.1 147)]) ++ List.replicate (6 - (lg_sl ([.ref (G.1 0), .int (gI a1), .int (gI a2), .int (gI a3), .ref (G.1 147)])).length) Slot.unset).toArray = ls at hl ⊢
  have hl : lv_has ls 6 [(0, .ref (G.1 0)), (1, .int (gI a1)), (2, .int (gI a2)), (3, .int (gI a3)), (4, .ref (G.1 147))] := hl
  obtain ⟨x, ex, h⟩ := gWrP_some h
  refine lv_aload hx hb0 dL_taskAt_0 (lv_at hl 4 rfl) ?_
  refine lv_iconst (v := gI (0 : Int)) hx hb0 dL_taskAt_2 (by decide) ?_
  refine lv_aload_n hx hb0 dL_taskAt_3 rfl (lv_at hl 0 rfl) ?_
  refine lv_iload_n hx hb0 dL_taskAt_4 rfl (lv_at hl 1 rfl) ?_
  refine lv_iload_n hx hb0 dL_taskAt_5 rfl (lv_at hl 2 rfl) ?_
  refine lv_iload_n hx hb0 dL_taskAt_6 rfl (lv_at hl 3 rfl) ?_
  refine g_xcallVp (k := 0) (T := TX8) (N := 10) (As := [.int (gI a1), .int (gI a2), .int (gI a3)]) (rest := [.int (gI (0 : Int)), .ref (G.1 147)]) (x := x) ⟨hx, hb0, hml, hown, hts⟩ (metX8_taskAt l hlt D G σ μ a1 a2 a3 x ex) (g_cwX (C := RX8) 3 hts q_ml_L_60 q_im_X8_taskAt q_se_X8_taskAt q_in_X8 q_co_X8_taskAt ⟨rfl, rfl⟩ (by decide +kernel) ⟨Nat.le_of_ble_eq_true rfl, Nat.le_of_ble_eq_true rfl⟩) hX hH (rfl : gKinds[0]? = _) rfl rfl hl.1 rfl (Nat.le_of_ble_eq_true rfl) dL_taskAt_7 ⟨Nat.le_of_ble_eq_true rfl, Nat.le_of_ble_eq_true rfl⟩ (fun k9 E9 ce9 q9 H locs hk9 hE9 hH h1 h2 h3 => ?_) (fun u9 hu9 H locs hH => ?_)
  · rcases h with ⟨u8, h8, -, -⟩ | ⟨k8, h8, hc8, rfl⟩
    · rw [h8] at hk9
      cases hk9
    · have hkk : k9 = k8 := by
        rw [h8] at hk9
        exact (Sum.inl.inj hk9).symm
      rw [hkk] at hE9
      by_cases g0 : k8 = 3
      · subst g0
        have hE9 : E9 = "java/lang/IndexOutOfBoundsException" := hE9
        subst hE9
        have hc9 : (1 : Int) = r := by simpa [gHd] using hc8
        subst hc9
        refine vx_catch (own := RL) (name := "java/lang/IndexOutOfBoundsException") hown [] ⟨0, 12, 15, 28⟩ [] (by rw [htab]; rfl) (fun z hz => nomatch hz) rfl (by decide) (hts _ q_cl_L_28) (va_Nw.use rfl (hX.2.2.2.2.2.2.2.2.1 ("java/lang/IndexOutOfBoundsException", "java/lang/IndexOutOfBoundsException") (by decide +kernel))) h1 h2 h3 ?_
        refine lv_astore (lv' := (5, .ref q9) :: [(0, .ref (G.1 0)), (1, .int (gI a1)), (2, .int (gI a2)), (3, .int (gI a3)), (4, .ref (G.1 147))]) hx hb0 dL_taskAt_15 hl (by decide) rfl (fun ls hl => ?_)
        refine lv_iconst (v := gI (1 : Int)) hx hb0 dL_taskAt_17 (by decide) ?_
        exact g_iret hx hb0 hr hH hlocks dL_taskAt_18
      · exact absurd hc8 (by simp [gHd, g0])
  · rcases h with ⟨u8, h8, rfl, rfl⟩ | ⟨k8, h8, hc8, -⟩
    · have huu : u9 = u8 := by
        rw [h8] at hu9
        exact (Sum.inr.inj hu9).symm
      simp only [huu] at hH ⊢
      refine lv_i2l (v := (gI u8).toInt64) hx hb0 dL_taskAt_10 rfl ?_
      refine g_last hx hb0 hX hH (k := 147) (rfl : gKinds[147]? = _) dL_taskAt_11 (fun H locs hH => ?_)
      refine lv_goto (tgt := 19) hx hb0 dL_taskAt_12 (by decide) ?_
      refine lv_iconst (v := gI (0 : Int)) hx hb0 dL_taskAt_19 (by decide) ?_
      exact g_iret hx hb0 hr hH hlocks dL_taskAt_20
    · rw [h8] at hu9
      cases hu9
set_option maxHeartbeats 4000000 in
set_option maxRecDepth 100000 in
theorem metL_sheetsWith (l : Launch) (hlt : l.stackTraces = false) (D : va_G) (G : gAd) (σ : gSt) (μ : gLg) (a1 : Int) (a2 : Int) (r : Int) (σ' : gSt) (μ' : gLg) (h : gWrS (DX8_sheetsWith σ a1 a2) [(1, 1)] σ μ = some (r, σ', μ')) : Met l yL_sheetsWith (gWw yL_sheetsWith cL_sheetsWith 5 (some .int) [(0, 10, 13, 13)]) ({ frames := 7, cells := 1, slots := 6, locals := 133 } : Room) (gPc D G [.ref (G.1 0), .int (gI a1), .int (gI a2), .ref (G.1 147)] σ μ) (gQi D G r σ' μ') 1 6 (gA G) := by
  refine va_MetW (cc := cL_sheetsWith) (maxL := 5) (ret := some .int) (hh := [(0, 10, 13, 13)]) (by decide) rfl ?_
  intro p e s m args below meth c s₁ B hml hv
  obtain ⟨rfl, hP, hX⟩ := hv
  have hx := B.exec
  have hb0 := B.bytes
  have hr := B.returns
  have hts0 := atoms_spec (ws := (gWw yL_sheetsWith cL_sheetsWith 5 (some .int) [(0, 10, 13, 13)])) B.pre
  have htab := vx_table (x := yL_sheetsWith) B (hts0 _ List.mem_cons_self)
  have hts : ∀ w ∈ gLW, w.before _ s = true := fun w hw => hts0 w (List.mem_cons_of_mem _ hw)
  have hown : s.vm.findClass RL = some m.cls := findClass_of_methodNamed B.named
  have hlocks := B.notSynchronized
  have hH : gH D G s s.heap [] σ μ := ⟨hP, va_S.rf⟩
  have hl := lv_entry ([.ref (G.1 0), .int (gI a1), .int (gI a2), .ref (G.1 147)]) (n := 5) (Nat.le_of_ble_eq_true rfl)
  rw [lg_entry_eq]
  generalize (lg_sl ([.ref (G.1 0), .int (gI a1), .int (gI a2), .ref (G.1 147)]) ++ List.replicate (5 - (lg_sl ([.ref (G.1 0), .int (gI a1), .int (gI a2), .ref (G.1 147)])).length) Slot.unset).toArray = ls at hl ⊢
  have hl : lv_has ls 5 [(0, .ref (G.1 0)), (1, .int (gI a1)), (2, .int (gI a2)), (3, .ref (G.1 147))] := hl
  obtain ⟨x, ex, h⟩ := gWrS_some h
  refine lv_aload_n hx hb0 dL_sheetsWith_0 rfl (lv_at hl 3 rfl) ?_
  refine lv_iconst (v := gI (0 : Int)) hx hb0 dL_sheetsWith_1 (by decide) ?_
  refine lv_aload_n hx hb0 dL_sheetsWith_2 rfl (lv_at hl 0 rfl) ?_
  refine lv_iload_n hx hb0 dL_sheetsWith_3 rfl (lv_at hl 1 rfl) ?_
  refine lv_iload_n hx hb0 dL_sheetsWith_4 rfl (lv_at hl 2 rfl) ?_
  refine g_xcallVs (k := 0) (T := TX8) (N := 10) (As := [.int (gI a1), .int (gI a2)]) (rest := [.int (gI (0 : Int)), .ref (G.1 147)]) (x := x) ⟨hx, hb0, hml, hown, hts⟩ (metX8_sheetsWith l hlt D G σ μ a1 a2 x ex) (g_cwX (C := RX8) 2 hts q_ml_L_63 q_im_X8_sheetsWith q_se_X8_sheetsWith q_in_X8 q_co_X8_sheetsWith ⟨rfl, rfl⟩ (by decide +kernel) ⟨Nat.le_of_ble_eq_true rfl, Nat.le_of_ble_eq_true rfl⟩) hX hH (rfl : gKinds[0]? = _) rfl rfl hl.1 rfl (Nat.le_of_ble_eq_true rfl) dL_sheetsWith_5 ⟨Nat.le_of_ble_eq_true rfl, Nat.le_of_ble_eq_true rfl⟩ (fun k9 E9 ce9 q9 H locs hk9 hE9 hH h1 h2 h3 => ?_) (fun u9 hu9 H locs hH => ?_)
  · rcases h with ⟨u8, h8, -, -, -⟩ | ⟨k8, h8, hc8, rfl, rfl⟩
    · rw [h8] at hk9
      cases hk9
    · have hkk : k9 = k8 := by
        rw [h8] at hk9
        exact (Sum.inl.inj hk9).symm
      rw [hkk] at hE9
      by_cases g0 : k8 = 1
      · subst g0
        have hE9 : E9 = "java/lang/IllegalArgumentException" := hE9
        subst hE9
        have hc9 : (1 : Int) = r := by simpa [gHd] using hc8
        subst hc9
        refine vx_catch (own := RL) (name := "java/lang/IllegalArgumentException") hown [] ⟨0, 10, 13, 13⟩ [] (by rw [htab]; rfl) (fun z hz => nomatch hz) rfl (by decide) (hts _ q_cl_L_13) (va_Nw.use rfl (hX.2.2.2.2.2.2.2.2.1 ("java/lang/IllegalArgumentException", "java/lang/IllegalArgumentException") (by decide +kernel))) h1 h2 h3 ?_
        refine lv_astore (lv' := (4, .ref q9) :: [(0, .ref (G.1 0)), (1, .int (gI a1)), (2, .int (gI a2)), (3, .ref (G.1 147))]) hx hb0 dL_sheetsWith_13 hl (by decide) rfl (fun ls hl => ?_)
        refine lv_iconst (v := gI (1 : Int)) hx hb0 dL_sheetsWith_15 (by decide) ?_
        exact g_iret hx hb0 hr hH hlocks dL_sheetsWith_16
      · exact absurd hc8 (by simp [gHd, g0])
  · rcases h with ⟨u8, h8, rfl, rfl, rfl⟩ | ⟨k8, h8, hc8, -, -⟩
    · have huu : u9 = u8 := by
        rw [h8] at hu9
        exact (Sum.inr.inj hu9).symm
      simp only [huu] at hH ⊢
      refine lv_i2l (v := (gI u8.1).toInt64) hx hb0 dL_sheetsWith_8 rfl ?_
      refine g_last hx hb0 hX hH (k := 147) (rfl : gKinds[147]? = _) dL_sheetsWith_9 (fun H locs hH => ?_)
      refine lv_goto (tgt := 17) hx hb0 dL_sheetsWith_10 (by decide) ?_
      refine lv_iconst (v := gI (0 : Int)) hx hb0 dL_sheetsWith_17 (by decide) ?_
      exact g_iret hx hb0 hr hH hlocks dL_sheetsWith_18
    · rw [h8] at hu9
      cases hu9
set_option maxHeartbeats 4000000 in
set_option maxRecDepth 100000 in
theorem metL_delay (l : Launch) (hlt : l.stackTraces = false) (D : va_G) (G : gAd) (σ : gSt) (μ : gLg) (a1 : Int) (r : Int) (μ' : gLg) (h : gWrP (DX8_delay σ a1) [(3, 1)] μ = some (r, μ')) : Met l yL_delay (gWw yL_delay cL_delay 4 (some .int) [(0, 9, 12, 28)]) ({ frames := 8, cells := 1, slots := 6, locals := 126 } : Room) (gPc D G [.ref (G.1 0), .int (gI a1), .ref (G.1 147)] σ μ) (gQi D G r σ μ') 1 6 (gA G) := by
  refine va_MetW (cc := cL_delay) (maxL := 4) (ret := some .int) (hh := [(0, 9, 12, 28)]) (by decide) rfl ?_
  intro p e s m args below meth c s₁ B hml hv
  obtain ⟨rfl, hP, hX⟩ := hv
  have hx := B.exec
  have hb0 := B.bytes
  have hr := B.returns
  have hts0 := atoms_spec (ws := (gWw yL_delay cL_delay 4 (some .int) [(0, 9, 12, 28)])) B.pre
  have htab := vx_table (x := yL_delay) B (hts0 _ List.mem_cons_self)
  have hts : ∀ w ∈ gLW, w.before _ s = true := fun w hw => hts0 w (List.mem_cons_of_mem _ hw)
  have hown : s.vm.findClass RL = some m.cls := findClass_of_methodNamed B.named
  have hlocks := B.notSynchronized
  have hH : gH D G s s.heap [] σ μ := ⟨hP, va_S.rf⟩
  have hl := lv_entry ([.ref (G.1 0), .int (gI a1), .ref (G.1 147)]) (n := 4) (Nat.le_of_ble_eq_true rfl)
  rw [lg_entry_eq]
  generalize (lg_sl ([.ref (G.1 0), .int (gI a1), .ref (G.1 147)]) ++ List.replicate (4 - (lg_sl ([.ref (G.1 0), .int (gI a1), .ref (G.1 147)])).length) Slot.unset).toArray = ls at hl ⊢
  have hl : lv_has ls 4 [(0, .ref (G.1 0)), (1, .int (gI a1)), (2, .ref (G.1 147))] := hl
  obtain ⟨x, ex, h⟩ := gWrP_some h
  refine lv_aload_n hx hb0 dL_delay_0 rfl (lv_at hl 2 rfl) ?_
  refine lv_iconst (v := gI (0 : Int)) hx hb0 dL_delay_1 (by decide) ?_
  refine lv_aload_n hx hb0 dL_delay_2 rfl (lv_at hl 0 rfl) ?_
  refine lv_iload_n hx hb0 dL_delay_3 rfl (lv_at hl 1 rfl) ?_
  refine g_xcallVp (k := 0) (T := TX8) (N := 10) (As := [.int (gI a1)]) (rest := [.int (gI (0 : Int)), .ref (G.1 147)]) (x := x) ⟨hx, hb0, hml, hown, hts⟩ (metX8_delay l hlt D G σ μ a1 x ex) (g_cwX (C := RX8) 1 hts q_ml_L_66 q_im_X8_delay q_se_X8_delay q_in_X8 q_co_X8_delay ⟨rfl, rfl⟩ (by decide +kernel) ⟨Nat.le_of_ble_eq_true rfl, Nat.le_of_ble_eq_true rfl⟩) hX hH (rfl : gKinds[0]? = _) rfl rfl hl.1 rfl (Nat.le_of_ble_eq_true rfl) dL_delay_4 ⟨Nat.le_of_ble_eq_true rfl, Nat.le_of_ble_eq_true rfl⟩ (fun k9 E9 ce9 q9 H locs hk9 hE9 hH h1 h2 h3 => ?_) (fun u9 hu9 H locs hH => ?_)
  · rcases h with ⟨u8, h8, -, -⟩ | ⟨k8, h8, hc8, rfl⟩
    · rw [h8] at hk9
      cases hk9
    · have hkk : k9 = k8 := by
        rw [h8] at hk9
        exact (Sum.inl.inj hk9).symm
      rw [hkk] at hE9
      by_cases g0 : k8 = 3
      · subst g0
        have hE9 : E9 = "java/lang/IndexOutOfBoundsException" := hE9
        subst hE9
        have hc9 : (1 : Int) = r := by simpa [gHd] using hc8
        subst hc9
        refine vx_catch (own := RL) (name := "java/lang/IndexOutOfBoundsException") hown [] ⟨0, 9, 12, 28⟩ [] (by rw [htab]; rfl) (fun z hz => nomatch hz) rfl (by decide) (hts _ q_cl_L_28) (va_Nw.use rfl (hX.2.2.2.2.2.2.2.2.1 ("java/lang/IndexOutOfBoundsException", "java/lang/IndexOutOfBoundsException") (by decide +kernel))) h1 h2 h3 ?_
        refine lv_astore_n (lv' := (3, .ref q9) :: [(0, .ref (G.1 0)), (1, .int (gI a1)), (2, .ref (G.1 147))]) hx hb0 dL_delay_12 rfl hl (by decide) rfl (fun ls hl => ?_)
        refine lv_iconst (v := gI (1 : Int)) hx hb0 dL_delay_13 (by decide) ?_
        exact g_iret hx hb0 hr hH hlocks dL_delay_14
      · exact absurd hc8 (by simp [gHd, g0])
  · rcases h with ⟨u8, h8, rfl, rfl⟩ | ⟨k8, h8, hc8, -⟩
    · have huu : u9 = u8 := by
        rw [h8] at hu9
        exact (Sum.inr.inj hu9).symm
      simp only [huu] at hH ⊢
      refine lv_i2l (v := (gI u8).toInt64) hx hb0 dL_delay_7 rfl ?_
      refine g_last hx hb0 hX hH (k := 147) (rfl : gKinds[147]? = _) dL_delay_8 (fun H locs hH => ?_)
      refine lv_goto (tgt := 15) hx hb0 dL_delay_9 (by decide) ?_
      refine lv_iconst (v := gI (0 : Int)) hx hb0 dL_delay_15 (by decide) ?_
      exact g_iret hx hb0 hr hH hlocks dL_delay_16
    · rw [h8] at hu9
      cases hu9
set_option maxHeartbeats 4000000 in
set_option maxRecDepth 100000 in
theorem metL_append (l : Launch) (hlt : l.stackTraces = false) (D : va_G) (G : gAd) (σ : gSt) (μ : gLg) (a1 : Int) (r : Int) (σ' : gSt) (μ' : gLg) (h : gWrS (DX8_append σ a1) [(1, 1), (2, 2)] σ μ = some (r, σ', μ')) : Met l yL_append (gWw yL_append cL_append 4 (some .int) [(0, 9, 12, 13), (0, 9, 15, 23)]) ({ frames := 7, cells := 1, slots := 6, locals := 103 } : Room) (gPc D G [.ref (G.1 0), .int (gI a1), .ref (G.1 147)] σ μ) (gQi D G r σ' μ') 1 6 (gA G) := by
  refine va_MetW (cc := cL_append) (maxL := 4) (ret := some .int) (hh := [(0, 9, 12, 13), (0, 9, 15, 23)]) (by decide) rfl ?_
  intro p e s m args below meth c s₁ B hml hv
  obtain ⟨rfl, hP, hX⟩ := hv
  have hx := B.exec
  have hb0 := B.bytes
  have hr := B.returns
  have hts0 := atoms_spec (ws := (gWw yL_append cL_append 4 (some .int) [(0, 9, 12, 13), (0, 9, 15, 23)])) B.pre
  have htab := vx_table (x := yL_append) B (hts0 _ List.mem_cons_self)
  have hts : ∀ w ∈ gLW, w.before _ s = true := fun w hw => hts0 w (List.mem_cons_of_mem _ hw)
  have hown : s.vm.findClass RL = some m.cls := findClass_of_methodNamed B.named
  have hlocks := B.notSynchronized
  have hH : gH D G s s.heap [] σ μ := ⟨hP, va_S.rf⟩
  have hl := lv_entry ([.ref (G.1 0), .int (gI a1), .ref (G.1 147)]) (n := 4) (Nat.le_of_ble_eq_true rfl)
  rw [lg_entry_eq]
  generalize (lg_sl ([.ref (G.1 0), .int (gI a1), .ref (G.1 147)]) ++ List.replicate (4 - (lg_sl ([.ref (G.1 0), .int (gI a1), .ref (G.1 147)])).length) Slot.unset).toArray = ls at hl ⊢
  have hl : lv_has ls 4 [(0, .ref (G.1 0)), (1, .int (gI a1)), (2, .ref (G.1 147))] := hl
  obtain ⟨x, ex, h⟩ := gWrS_some h
  refine lv_aload_n hx hb0 dL_append_0 rfl (lv_at hl 2 rfl) ?_
  refine lv_iconst (v := gI (0 : Int)) hx hb0 dL_append_1 (by decide) ?_
  refine lv_aload_n hx hb0 dL_append_2 rfl (lv_at hl 0 rfl) ?_
  refine lv_iload_n hx hb0 dL_append_3 rfl (lv_at hl 1 rfl) ?_
  refine g_xcallVs (k := 0) (T := TX8) (N := 10) (As := [.int (gI a1)]) (rest := [.int (gI (0 : Int)), .ref (G.1 147)]) (x := x) ⟨hx, hb0, hml, hown, hts⟩ (metX8_append l hlt D G σ μ a1 x ex) (g_cwX (C := RX8) 1 hts q_ml_L_69 q_im_X8_append q_se_X8_append q_in_X8 q_co_X8_append ⟨rfl, rfl⟩ (by decide +kernel) ⟨Nat.le_of_ble_eq_true rfl, Nat.le_of_ble_eq_true rfl⟩) hX hH (rfl : gKinds[0]? = _) rfl rfl hl.1 rfl (Nat.le_of_ble_eq_true rfl) dL_append_4 ⟨Nat.le_of_ble_eq_true rfl, Nat.le_of_ble_eq_true rfl⟩ (fun k9 E9 ce9 q9 H locs hk9 hE9 hH h1 h2 h3 => ?_) (fun u9 hu9 H locs hH => ?_)
  · rcases h with ⟨u8, h8, -, -, -⟩ | ⟨k8, h8, hc8, rfl, rfl⟩
    · rw [h8] at hk9
      cases hk9
    · have hkk : k9 = k8 := by
        rw [h8] at hk9
        exact (Sum.inl.inj hk9).symm
      rw [hkk] at hE9
      by_cases g0 : k8 = 1
      · subst g0
        have hE9 : E9 = "java/lang/IllegalArgumentException" := hE9
        subst hE9
        have hc9 : (1 : Int) = r := by simpa [gHd] using hc8
        subst hc9
        refine vx_catch (own := RL) (name := "java/lang/IllegalArgumentException") hown [] ⟨0, 9, 12, 13⟩ [⟨0, 9, 15, 23⟩] (by rw [htab]; rfl) (fun z hz => nomatch hz) rfl (by decide) (hts _ q_cl_L_13) (va_Nw.use rfl (hX.2.2.2.2.2.2.2.2.1 ("java/lang/IllegalArgumentException", "java/lang/IllegalArgumentException") (by decide +kernel))) h1 h2 h3 ?_
        refine lv_astore_n (lv' := (3, .ref q9) :: [(0, .ref (G.1 0)), (1, .int (gI a1)), (2, .ref (G.1 147))]) hx hb0 dL_append_12 rfl hl (by decide) rfl (fun ls hl => ?_)
        refine lv_iconst (v := gI (1 : Int)) hx hb0 dL_append_13 (by decide) ?_
        exact g_iret hx hb0 hr hH hlocks dL_append_14
      · skip
        by_cases g1 : k8 = 2
        · subst g1
          have hE9 : E9 = "java/lang/IllegalStateException" := hE9
          subst hE9
          have hc9 : (2 : Int) = r := by simpa [gHd] using hc8
          subst hc9
          refine vx_catch (own := RL) (name := "java/lang/IllegalStateException") hown [⟨0, 9, 12, 13⟩] ⟨0, 9, 15, 23⟩ [] (by rw [htab]; rfl) (fun z hz => by
            simp only [List.mem_cons, List.not_mem_nil, or_false] at hz
            rcases hz with rfl
            · exact Or.inr ⟨by decide, "java/lang/IllegalArgumentException", hts _ q_cl_L_13, g_nc hX (by decide +kernel)⟩) rfl (by decide) (hts _ q_cl_L_23) (va_Nw.use rfl (hX.2.2.2.2.2.2.2.2.1 ("java/lang/IllegalStateException", "java/lang/IllegalStateException") (by decide +kernel))) h1 h2 h3 ?_
          refine lv_astore_n (lv' := (3, .ref q9) :: [(0, .ref (G.1 0)), (1, .int (gI a1)), (2, .ref (G.1 147))]) hx hb0 dL_append_15 rfl hl (by decide) rfl (fun ls hl => ?_)
          refine lv_iconst (v := gI (2 : Int)) hx hb0 dL_append_16 (by decide) ?_
          exact g_iret hx hb0 hr hH hlocks dL_append_17
        · exact absurd hc8 (by simp [gHd, g0, g1])
  · rcases h with ⟨u8, h8, rfl, rfl, rfl⟩ | ⟨k8, h8, hc8, -, -⟩
    · have huu : u9 = u8 := by
        rw [h8] at hu9
        exact (Sum.inr.inj hu9).symm
      simp only [huu] at hH ⊢
      refine lv_i2l (v := (gI u8.1).toInt64) hx hb0 dL_append_7 rfl ?_
      refine g_last hx hb0 hX hH (k := 147) (rfl : gKinds[147]? = _) dL_append_8 (fun H locs hH => ?_)
      refine lv_goto (tgt := 18) hx hb0 dL_append_9 (by decide) ?_
      refine lv_iconst (v := gI (0 : Int)) hx hb0 dL_append_18 (by decide) ?_
      exact g_iret hx hb0 hr hH hlocks dL_append_19
    · rw [h8] at hu9
      cases hu9
set_option maxHeartbeats 4000000 in
set_option maxRecDepth 100000 in
theorem metL_undo (l : Launch) (hlt : l.stackTraces = false) (D : va_G) (G : gAd) (σ : gSt) (μ : gLg) (r : Int) (σ' : gSt) (μ' : gLg) (h : gWrS (DX8_undo σ) [(2, 1)] σ μ = some (r, σ', μ')) : Met l yL_undo (gWw yL_undo cL_undo 3 (some .int) [(0, 8, 11, 23)]) ({ frames := 7, cells := 1, slots := 6, locals := 151 } : Room) (gPc D G [.ref (G.1 0), .ref (G.1 147)] σ μ) (gQi D G r σ' μ') 1 6 (gA G) := by
  refine va_MetW (cc := cL_undo) (maxL := 3) (ret := some .int) (hh := [(0, 8, 11, 23)]) (by decide) rfl ?_
  intro p e s m args below meth c s₁ B hml hv
  obtain ⟨rfl, hP, hX⟩ := hv
  have hx := B.exec
  have hb0 := B.bytes
  have hr := B.returns
  have hts0 := atoms_spec (ws := (gWw yL_undo cL_undo 3 (some .int) [(0, 8, 11, 23)])) B.pre
  have htab := vx_table (x := yL_undo) B (hts0 _ List.mem_cons_self)
  have hts : ∀ w ∈ gLW, w.before _ s = true := fun w hw => hts0 w (List.mem_cons_of_mem _ hw)
  have hown : s.vm.findClass RL = some m.cls := findClass_of_methodNamed B.named
  have hlocks := B.notSynchronized
  have hH : gH D G s s.heap [] σ μ := ⟨hP, va_S.rf⟩
  have hl := lv_entry ([.ref (G.1 0), .ref (G.1 147)]) (n := 3) (Nat.le_of_ble_eq_true rfl)
  rw [lg_entry_eq]
  generalize (lg_sl ([.ref (G.1 0), .ref (G.1 147)]) ++ List.replicate (3 - (lg_sl ([.ref (G.1 0), .ref (G.1 147)])).length) Slot.unset).toArray = ls at hl ⊢
  have hl : lv_has ls 3 [(0, .ref (G.1 0)), (1, .ref (G.1 147))] := hl
  obtain ⟨x, ex, h⟩ := gWrS_some h
  refine lv_aload_n hx hb0 dL_undo_0 rfl (lv_at hl 1 rfl) ?_
  refine lv_iconst (v := gI (0 : Int)) hx hb0 dL_undo_1 (by decide) ?_
  refine lv_aload_n hx hb0 dL_undo_2 rfl (lv_at hl 0 rfl) ?_
  refine g_xcallVs (k := 0) (T := TX8) (N := 10) (As := []) (rest := [.int (gI (0 : Int)), .ref (G.1 147)]) (x := x) ⟨hx, hb0, hml, hown, hts⟩ (metX8_undo l hlt D G σ μ x ex) (g_cwX (C := RX8) 0 hts q_ml_L_72 q_im_X8_undo q_se_X8_undo q_in_X8 q_co_X8_undo ⟨rfl, rfl⟩ (by decide +kernel) ⟨Nat.le_of_ble_eq_true rfl, Nat.le_of_ble_eq_true rfl⟩) hX hH (rfl : gKinds[0]? = _) rfl rfl hl.1 rfl (Nat.le_of_ble_eq_true rfl) dL_undo_3 ⟨Nat.le_of_ble_eq_true rfl, Nat.le_of_ble_eq_true rfl⟩ (fun k9 E9 ce9 q9 H locs hk9 hE9 hH h1 h2 h3 => ?_) (fun u9 hu9 H locs hH => ?_)
  · rcases h with ⟨u8, h8, -, -, -⟩ | ⟨k8, h8, hc8, rfl, rfl⟩
    · rw [h8] at hk9
      cases hk9
    · have hkk : k9 = k8 := by
        rw [h8] at hk9
        exact (Sum.inl.inj hk9).symm
      rw [hkk] at hE9
      by_cases g0 : k8 = 2
      · subst g0
        have hE9 : E9 = "java/lang/IllegalStateException" := hE9
        subst hE9
        have hc9 : (1 : Int) = r := by simpa [gHd] using hc8
        subst hc9
        refine vx_catch (own := RL) (name := "java/lang/IllegalStateException") hown [] ⟨0, 8, 11, 23⟩ [] (by rw [htab]; rfl) (fun z hz => nomatch hz) rfl (by decide) (hts _ q_cl_L_23) (va_Nw.use rfl (hX.2.2.2.2.2.2.2.2.1 ("java/lang/IllegalStateException", "java/lang/IllegalStateException") (by decide +kernel))) h1 h2 h3 ?_
        refine lv_astore_n (lv' := (2, .ref q9) :: [(0, .ref (G.1 0)), (1, .ref (G.1 147))]) hx hb0 dL_undo_11 rfl hl (by decide) rfl (fun ls hl => ?_)
        refine lv_iconst (v := gI (1 : Int)) hx hb0 dL_undo_12 (by decide) ?_
        exact g_iret hx hb0 hr hH hlocks dL_undo_13
      · exact absurd hc8 (by simp [gHd, g0])
  · rcases h with ⟨u8, h8, rfl, rfl, rfl⟩ | ⟨k8, h8, hc8, -, -⟩
    · have huu : u9 = u8 := by
        rw [h8] at hu9
        exact (Sum.inr.inj hu9).symm
      simp only [huu] at hH ⊢
      refine lv_i2l (v := (gI u8.1).toInt64) hx hb0 dL_undo_6 rfl ?_
      refine g_last hx hb0 hX hH (k := 147) (rfl : gKinds[147]? = _) dL_undo_7 (fun H locs hH => ?_)
      refine lv_goto (tgt := 14) hx hb0 dL_undo_8 (by decide) ?_
      refine lv_iconst (v := gI (0 : Int)) hx hb0 dL_undo_14 (by decide) ?_
      exact g_iret hx hb0 hr hH hlocks dL_undo_15
    · rw [h8] at hu9
      cases hu9
