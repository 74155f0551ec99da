/-! constructors: the world as a list of cells -/
def cPre (D : va_G) (cI cP : ClassId) (B : Nat) (vs : List Value) (ws : va_W) (sz : Nat) : Array Value → State → Prop := va_Pc vs (fun U => U.heap.size = sz ∧ va_P D vwCl ws U.heap ∧ va_K D vwCl [(cI, .int), (cP, .object "TaskSheets$Plan")] U ∧ va_D (fun q => B ≤ q) ws ∧ B ≤ sz ∧ gZs (fun q => B ≤ q) U U.heap ∧ va_AO "TaskSheets$Plan" U)
def cPost (D : va_G) (W : (Nat → Nat) → va_W) (ws : va_W) (sz : Nat) : Array Value → State → Outcome → State → Prop := va_Qv (fun (_ : Nat → Nat) => True) (fun u t => va_P D vwCl (W u) t.heap ∧ va_D (va_A ws sz) (W u)) (va_A ws sz)
theorem va_S.wide {A A' : Nat → Prop} {H0 H : Heap} {locs : List Loc} (h : va_S A H0 H locs) (hAA : ∀ q, A q → A' q) : va_S A' H0 H locs := ⟨h.1, fun q h1 h2 => h.2.1 q h1 (fun z => h2 (hAA q z)), fun l hl => hAA _ (h.2.2 l hl)⟩
theorem gZs.calling {A : Nat → Prop} {U : State} (g : JFrame) (mk : MethodId) (a : Array Value) (h3 : gZs A U U.heap) : gZs A (U.calling g mk a) (U.calling g mk a).heap := by
  refine ⟨fun q hm => ?_, ⟨va_Zq.moved (u := U) (U := U.calling g mk a) (Vm.Alike.refl U.vm) h3.2.1.1, vx_L.moved (u := U) (U := U.calling g mk a) (Vm.Alike.refl U.vm) h3.2.1.2⟩, ⟨va_Zq.moved (u := U) (U := U.calling g mk a) (Vm.Alike.refl U.vm) h3.2.2.1.1, vx_L.moved (u := U) (U := U.calling g mk a) (Vm.Alike.refl U.vm) h3.2.2.1.2⟩, fun q hm => ?_, fun q hm => va_Nw.same rfl rfl (h3.2.2.2.2.1 q hm), fun q hm => va_Nw.same rfl rfl (h3.2.2.2.2.2.1 q hm), fun q hm => va_Nw.same rfl rfl (h3.2.2.2.2.2.2.1 q hm), fun q hm => by rw [gCast_vm (s := U) (U := U.calling g mk a) (Vm.Alike.refl U.vm)]; exact h3.2.2.2.2.2.2.2.1 q hm, fun y hm => va_Nw.same rfl rfl (h3.2.2.2.2.2.2.2.2 y hm)⟩
  · obtain ⟨t, h1, h2⟩ := h3.1 q hm
    exact ⟨t, va_Z.moved (u := U) (U := U.calling g mk a) (Vm.Alike.refl U.vm) h1, va_T.moved (u := U) (U := U.calling g mk a) (Vm.Alike.refl U.vm) h2⟩
  · obtain ⟨a9, h1⟩ := h3.2.2.2.1 q hm
    exact ⟨a9, vk_R.same (u := U) (U := U.calling g mk a) rfl h1⟩
theorem cPre_blind {D : va_G} {cI cP : ClassId} {B : Nat} {vs : List Value} {ws : va_W} {sz : Nat} : FrameBlind (cPre D cI cP B vs ws sz) := by
  intro a U g mk h
  obtain ⟨h0, h1, h2, h3, h4, h5, h6, h7⟩ := h
  exact ⟨h0, h1, h2, va_K.moved (u := U) (U := U.calling g mk a) (Vm.Alike.refl U.vm) h3, h4, h5, gZs.calling g mk a h6, va_AO.moved (u := U) (U := U.calling g mk a) (Vm.Alike.refl U.vm) h7⟩
theorem g_sameA {D : va_G} {tys : List (ClassId × FieldType)} {s : State} (hK : va_K D vwCl tys s) {cA cB : ClassId} (i j : Nat) (hi : tys[i]? = some (cA, .int)) (hj : tys[j]? = some (cB, .int)) : cB = cA := by
  have h1 : s.vm.findClass ("[" ++ FieldType.int.toString) = some cA := (hK.2 i _ hi).2
  have h2 : s.vm.findClass ("[" ++ FieldType.int.toString) = some cB := (hK.2 j _ hj).2
  exact Option.some.inj (h2.symm.trans h1)
theorem g_sameP {D : va_G} {tys : List (ClassId × FieldType)} {s : State} (hK : va_K D vwCl tys s) {cA cB : ClassId} (i j : Nat) (hi : tys[i]? = some (cA, .object "TaskSheets$Plan")) (hj : tys[j]? = some (cB, .object "TaskSheets$Plan")) : cB = cA := by
  obtain ⟨_, _, _, _, _, h1⟩ := (hK.2 i _ hi).2
  obtain ⟨_, _, _, _, _, h2⟩ := (hK.2 j _ hj).2
  exact Option.some.inj (h2.symm.trans h1)
/-- behind a constructor's call: the new object was the last cell -/
theorem g_joinLast {A0 : Nat → Prop} {D : va_G} {cl : List vw_C} {wr w1 : va_W} {x : Nat × va_E} {H H1 : Heap} (hP : va_P D cl (wr ++ [x]) H) (hD : va_D A0 (wr ++ [x])) (hk : ∀ q : Nat, q < H.size → ¬ va_A [x] H.size q → H1[q]? = H[q]?) (hF : ∀ q, va_A [x] H.size q → A0 q) (hP1 : va_P D cl w1 H1) (hD1 : va_D (va_A [x] H.size) w1) : va_P D cl (wr ++ w1) H1 ∧ va_D A0 (wr ++ w1) := by
  have hg : ∀ (k : Nat) (q : Nat × va_E), wr[k]? = some q → (wr ++ [x])[k]? = some q := fun k q h => by
    have hl : k < wr.length := (List.getElem?_eq_some_iff.mp h).1
    rw [List.getElem?_append_left hl]; exact h
  have hx : (wr ++ [x])[wr.length]? = some x := by simp
  have apart : ∀ (k : Nat) (q : Nat × va_E), wr[k]? = some q → q.1 < H.size ∧ ¬ va_A [x] H.size q.1 := by
    intro k q hq
    have hl := (hP k q (hg k q hq)).lt
    refine ⟨hl, fun h => ?_⟩
    rcases h with ⟨k2, e, h⟩ | h
    · match k2, h with
      | 0, h =>
        cases h
        have hij := hD.1 k wr.length q _ (hg k q hq) hx rfl
        have hl2 : k < wr.length := (List.getElem?_eq_some_iff.mp hq).1
        omega
      | k2 + 1, h => simp at h
    · omega
  refine ⟨va_P.app (fun k q hq => ?_) hP1, va_D.app ⟨fun i j p q hi hj e => hD.1 i j p q (hg i p hi) (hg j q hj) e, fun k q hq => hD.2 k q (hg k q hq)⟩ (hD1.weaken (fun k q _ h => hF q.1 h)) (fun i j p q hp hq hpq => ?_)⟩
  · obtain ⟨g1, g2⟩ := apart k q hq
    exact (hP k q (hg k q hq)).kept (hk q.1 g1 g2)
  · exact (apart i p hp).2 (by rw [hpq]; exact hD1.2 j q hq)
theorem g_freeLast {A0 : Nat → Prop} {wr : va_W} {x : Nat × va_E} {H0 H : Heap} {locs : List Loc} (hD : va_D A0 (wr ++ [x])) (hS : va_S A0 H0 H locs) (hA : ∀ q, H0.size ≤ q → A0 q) : ∀ q, va_A [x] H.size q → A0 q := by
  intro q h
  rcases h with ⟨k, e, h⟩ | h
  · match k, h with
    | 0, h => exact hD.2 wr.length x (by simp) |> fun z => by cases h; exact z
    | k + 1, h => simp at h
  · exact hA q (Nat.le_trans hS.1 h)
theorem g_lastP {D : va_G} {cl : List vw_C} {wr : va_W} {x : Nat × va_E} {H : Heap} (hP : va_P D cl (wr ++ [x]) H) : va_P D cl [x] H := by
  intro k q h
  match k, h with
  | 0, h => exact hP wr.length q (by simpa using h)
  | k + 1, h => simp at h
theorem g_lastD {A B : Nat → Prop} {wr : va_W} {x : Nat × va_E} (hD : va_D A (wr ++ [x])) (hAB : ∀ q, A q → B q) : va_D B [x] := by
  refine ⟨fun i j p q hi hj _ => ?_, fun k q h => ?_⟩
  · match i, j, hi, hj with
    | 0, 0, _, _ => rfl
    | i + 1, _, hi, _ => simp at hi
    | _, j + 1, _, hj => simp at hj
  · match k, h with
    | 0, h => exact hAB _ (hD.2 wr.length q (by simpa using h))
    | k + 1, h => simp at h
def gInit : Nat → Int32 := upd (upd (upd (upd (fun _ => 0) 0 8) 1 20) 2 1) 3 0

set_option maxHeartbeats 4000000 in
set_option maxRecDepth 100000 in
theorem ccX4_init (l : Launch) (D : va_G) (cI cP : ClassId) (B h0 sz N : Nat) (hN : N ≤ 2000) : Met l yX4_init (gWs yX4_init cX4_init 2 none) ({ frames := 1, cells := 1, slots := N, locals := 20 } : Room) (cPre D cI cP B [.ref h0, .int (nI N)] [(h0, .inr (4, [.null]))] sz) (cPost D (fun u => [(h0, .inr (4, [.ref (u 1)])), (u 1, .inl (cI, N, .inl (fun _ => 0)))]) [(h0, .inr (4, [.null]))] sz) 1 N (va_A [(h0, .inr (4, [.null]))] sz) := by
  refine Met.ofW (cc := cX4_init) (maxL := 2) (ret := none) (by decide) rfl ?_
  intro p e s m args below meth c s₁ B0 hml hv
  obtain ⟨rfl, hsz, hP, hK, hD0, hBs, hZ, hAO⟩ := hv
  have hx := B0.exec
  have hb := B0.bytes
  have hr := B0.returns
  have hts0 := atoms_spec (ws := gWs yX4_init cX4_init 2 none) B0.pre
  have hts : ∀ w ∈ gLW, w.before _ s = true := fun w hw => hts0 w (List.mem_cons_of_mem _ hw)
  have hown : s.vm.findClass RX4 = some m.cls := findClass_of_methodNamed B0.named
  have hlocks := B0.notSynchronized
  have hin : meth.name = "<init>" := (name_of_methodNamed B0.named B0.method).1
  subst hsz
  have hD := hD0.self (sz := s.heap.size)
  generalize hAe : va_A [(h0, .inr (4, [.null]))] s.heap.size = A at hD ⊢
  have hA : ∀ q : Nat, s.heap.size ≤ q → A q := fun q h => by rw [← hAe]; exact Or.inr h
  have hS : va_S A s.heap s.heap [] := va_S.rf
  have hl := lv_entry ([.ref h0, .int (nI N)]) (n := 2) (Nat.le_of_ble_eq_true rfl)
  rw [lg_entry_eq]
  generalize (lg_sl ([.ref h0, .int (nI N)]) ++ List.replicate (2 - (lg_sl ([.ref h0, .int (nI N)])).length) Slot.unset).toArray = ls at hl ⊢
  have hl : lv_has ls 2 [(0, .ref h0), (1, .int (nI N))] := hl
  refine lv_aload_n hx hb dX4_init_0 rfl (lv_at hl 0 rfl) ?_
  refine W.objInit hx hb hown (hts _ q_ml_X4_3) (hts _ q_im_obj) (hts _ q_co_obj) rfl (by rw [hml]; exact hl.1) rfl dX4_init_1 (Nat.le_of_ble_eq_true rfl) (Nat.le_of_ble_eq_true rfl) ?_
  refine W.eq (g2 := F0 m 4 ls []) rfl ?_
  refine lv_aload_n hx hb dX4_init_4 rfl (lv_at hl 0 rfl) ?_
  refine lv_iload_n hx hb dX4_init_5 rfl (lv_at hl 1 rfl) ?_
  refine lv_if_ge (tgt := 13) hx hb dX4_init_6 (by decide) (fun _ => ?_) (fun h9 => absurd (nI_pos' (by omega)) h9)
  refine lv_iload_n hx hb dX4_init_13 rfl (lv_at hl 1 rfl) ?_
  refine va_newa (atype := .int) (ty := .int) (N' := N) (a0 := (N, .inl (fun _ => 0))) hx hb (hts _ q_ac_int) rfl hK hP hD hS hA (fun cA => rfl) (nI_pos (by omega)) (nI_clamp (by omega)) (by show N * 4 ≤ 536870912; omega) (Nat.le_of_ble_eq_true rfl) (by show 0 + N ≤ N; omega) dX4_init_14 (fun q cA H hK hP hD hS => ?_)
  obtain rfl : cA = cI := g_sameA hK 0 2 rfl rfl
  have hK := hK.sub (tys' := [(cA, .int), (cP, .object "TaskSheets$Plan")]) [0, 1] rfl
  refine va_putF (D := D) (ci := 4) (v := .ref q) (ty := .array .int) (C := RX4) (T := TX4) (N := 1) hx hb hts q_ws_X4 tyX4 tyX4_ok nmX4 hown hK hP hD hS 0 rfl rfl 0 (by decide) (hts _ q_fl_X4_9) (fun _ h9 => h9) rfl hin rfl (by decide +kernel) rfl rfl (Nat.le_of_ble_eq_true rfl) dX4_init_16 (fun H locs hP hD hS => ?_)
  refine W.widen (k := 1) (n := N) (by omega) (by omega) ?_
  have hP : va_P D vwCl [(h0, .inr (4, [.ref q])), (q, .inl (cA, N, .inl (fun _ => 0)))] H := hP
  have hD : va_D A [(h0, .inr (4, [.ref q])), (q, .inl (cA, N, .inl (fun _ => 0)))] := hD
  subst hAe
  exact W.vret hx hb hr (fun t ht hW => ⟨⟨(fun _ => q), rfl, trivial, by dsimp only; rw [ht]; exact hP, hD⟩, hS.F ht⟩) hS.2.2 dX4_init_19
set_option maxHeartbeats 4000000 in
set_option maxRecDepth 100000 in
theorem ccX4_put (l : Launch) (D : va_G) (cI cP : ClassId) (B h0 q sz N i : Nat) (f : Nat → Int32) (v : Int32) (hN : N ≤ 2000) (hi : i < N) : Met l yX4_put (gWs yX4_put cX4_put 3 none) ({ frames := 0, cells := 0, slots := 0, locals := 0 } : Room) (cPre D cI cP B [.ref h0, .int (nI i), .int v] [(h0, .inr (4, [.ref q])), (q, .inl (cI, N, .inl f))] sz) (cPost D (fun _ => [(h0, .inr (4, [.ref q])), (q, .inl (cI, N, .inl (upd f i v)))]) [(h0, .inr (4, [.ref q])), (q, .inl (cI, N, .inl f))] sz) 0 0 (va_A [(h0, .inr (4, [.ref q])), (q, .inl (cI, N, .inl f))] sz) := by
  refine Met.ofW (cc := cX4_put) (maxL := 3) (ret := none) (by decide) rfl ?_
  intro p e s m args below meth c s₁ B0 hml hv
  obtain ⟨rfl, hsz, hP, hK, hD0, hBs, hZ, hAO⟩ := hv
  have hx := B0.exec
  have hb := B0.bytes
  have hr := B0.returns
  have hts0 := atoms_spec (ws := gWs yX4_put cX4_put 3 none) B0.pre
  have hts : ∀ w ∈ gLW, w.before _ s = true := fun w hw => hts0 w (List.mem_cons_of_mem _ hw)
  have hown : s.vm.findClass RX4 = some m.cls := findClass_of_methodNamed B0.named
  have hlocks := B0.notSynchronized
  subst hsz
  have hD := hD0.self (sz := s.heap.size)
  generalize hAe : va_A [(h0, .inr (4, [.ref q])), (q, .inl (cI, N, .inl f))] s.heap.size = A at hD ⊢
  have hS : va_S A s.heap s.heap [] := va_S.rf
  have hl := lv_entry ([.ref h0, .int (nI i), .int v]) (n := 3) (Nat.le_of_ble_eq_true rfl)
  rw [lg_entry_eq]
  generalize (lg_sl ([.ref h0, .int (nI i), .int v]) ++ List.replicate (3 - (lg_sl ([.ref h0, .int (nI i), .int v])).length) Slot.unset).toArray = ls at hl ⊢
  have hl : lv_has ls 3 [(0, .ref h0), (1, .int (nI i)), (2, .int v)] := hl
  refine lv_iload_n hx hb dX4_put_0 rfl (lv_at hl 1 rfl) ?_
  refine lv_if_lt (tgt := 20) hx hb dX4_put_1 (by decide) (fun h9 => absurd h9 (nI_pos (by omega))) (fun _ => ?_)
  refine lv_iload_n hx hb dX4_put_4 rfl (lv_at hl 1 rfl) ?_
  refine lv_aload_n hx hb dX4_put_5 rfl (lv_at hl 0 rfl) ?_
  refine va_get (D := D) (ci := 4) (v := .ref q) (C := RX4) (T := TX4) (N := 1) hx hb hts q_ws_X4 hown hK hP 0 rfl rfl 0 (by decide) (hts _ q_fl_X4_9) (fun _ h9 => h9) rfl dX4_put_6 ?_
  refine va_alen (v := nI N) hx hb hK hP 1 0 rfl rfl rfl dX4_put_9 ?_
  refine lv_icmp_ge (tgt := 20) hx hb dX4_put_10 (by decide) (fun h9 => absurd h9 (nI_ge (by omega) (by omega))) (fun _ => ?_)
  refine lv_aload_n hx hb dX4_put_13 rfl (lv_at hl 0 rfl) ?_
  refine va_get (D := D) (ci := 4) (v := .ref q) (C := RX4) (T := TX4) (N := 1) hx hb hts q_ws_X4 hown hK hP 0 rfl rfl 0 (by decide) (hts _ q_fl_X4_9) (fun _ h9 => h9) rfl dX4_put_14 ?_
  refine lv_iload_n hx hb dX4_put_17 rfl (lv_at hl 1 rfl) ?_
  refine lv_iload_n hx hb dX4_put_18 rfl (lv_at hl 2 rfl) ?_
  refine va_iast hx hb hK hP hD hS 1 0 rfl rfl (vp_in_nI hi (by omega)) dX4_put_19 (fun H locs hP hD hS => ?_)
  rw [nI_clamp (by omega)] at hP hD
  have hP : va_P D vwCl [(h0, .inr (4, [.ref q])), (q, .inl (cI, N, .inl (upd f i v)))] H := hP
  have hD : va_D A [(h0, .inr (4, [.ref q])), (q, .inl (cI, N, .inl (upd f i v)))] := hD
  subst hAe
  exact W.vret hx hb hr (fun t ht hW => ⟨⟨(fun _ => 0), rfl, trivial, by dsimp only; rw [ht]; exact hP, hD⟩, hS.F ht⟩) hS.2.2 dX4_put_20
def wBands (cI : ClassId) (h0 : Nat) (u : Nat → Nat) : va_W := [(h0, .inr (0, [.ref (u 1), .ref (u 3), .ref (u 5), .ref (u 7), .int 0, .int 0, .int 0, .int 0])), (u 1, .inr (4, [.ref (u 2)])), (u 2, .inl (cI, 480, .inl (fun _ => 0))), (u 3, .inr (4, [.ref (u 4)])), (u 4, .inl (cI, 24, .inl (fun _ => 0))), (u 5, .inr (4, [.ref (u 6)])), (u 6, .inl (cI, 24, .inl (fun _ => 0))), (u 7, .inr (4, [.ref (u 8)])), (u 8, .inl (cI, 24, .inl (fun _ => 0)))]
set_option maxHeartbeats 8000000 in
set_option maxRecDepth 100000 in
theorem ccX0_init (l : Launch) (D : va_G) (cI cP : ClassId) (B h0 sz : Nat) : Met l yX0_init (gWs yX0_init cX0_init 1 none) ({ frames := 2, cells := 8, slots := 556, locals := 41 } : Room) (cPre D cI cP B [.ref h0] [(h0, .inr (0, [.null, .null, .null, .null, .int 0, .int 0, .int 0, .int 0]))] sz) (cPost D (wBands cI h0) [(h0, .inr (0, [.null, .null, .null, .null, .int 0, .int 0, .int 0, .int 0]))] sz) 8 556 (va_A [(h0, .inr (0, [.null, .null, .null, .null, .int 0, .int 0, .int 0, .int 0]))] sz) := by
  refine Met.ofW (cc := cX0_init) (maxL := 1) (ret := none) (by decide) rfl ?_
  intro p e s m args below meth c s₁ B0 hml hv
  obtain ⟨rfl, hsz, hP, hK, hD0, hBs, hZ, hAO⟩ := hv
  have hx := B0.exec
  have hb := B0.bytes
  have hr := B0.returns
  have hts0 := atoms_spec (ws := gWs yX0_init cX0_init 1 none) B0.pre
  have hts : ∀ w ∈ gLW, w.before _ s = true := fun w hw => hts0 w (List.mem_cons_of_mem _ hw)
  have hown : s.vm.findClass RX0 = some m.cls := findClass_of_methodNamed B0.named
  have hlocks := B0.notSynchronized
  have hin : meth.name = "<init>" := (name_of_methodNamed B0.named B0.method).1
  subst hsz
  have hD := hD0.self (sz := s.heap.size)
  have hAB0 : ∀ q : Nat, va_A [(h0, .inr (0, [.null, .null, .null, .null, .int 0, .int 0, .int 0, .int 0]))] s.heap.size q → B ≤ q := fun q h => by
    rcases h with ⟨k, e9, h⟩ | h
    · exact hD0.2 k _ h
    · exact Nat.le_trans hBs h
  generalize hAe : va_A [(h0, .inr (0, [.null, .null, .null, .null, .int 0, .int 0, .int 0, .int 0]))] s.heap.size = A at hD hAB0 ⊢
  have hAB : ∀ q : Nat, A q → B ≤ q := hAB0
  have hA : ∀ q : Nat, s.heap.size ≤ q → A q := fun q h => by rw [← hAe]; exact Or.inr h
  have hS : va_S A s.heap s.heap [] := va_S.rf
  have hl := lv_entry ([.ref h0]) (n := 1) (Nat.le_of_ble_eq_true rfl)
  rw [lg_entry_eq]
  generalize (lg_sl ([.ref h0]) ++ List.replicate (1 - (lg_sl ([.ref h0])).length) Slot.unset).toArray = ls at hl ⊢
  have hl : lv_has ls 1 [(0, .ref h0)] := hl
  obtain ⟨tI, hZI, hTI⟩ := hZ.1 ("INITIAL", [8, 20, 1, 0]) (by decide +kernel)
  have hZI := hZI.narrow hAB
  have hTI := hTI.narrow hAB
  refine lv_aload_n hx hb dX0_init_0 rfl (lv_at hl 0 rfl) ?_
  refine W.objInit hx hb hown (hts _ q_ml_X0_3) (hts _ q_im_obj) (hts _ q_co_obj) rfl (by rw [hml]; exact hl.1) rfl dX0_init_1 (Nat.le_of_ble_eq_true rfl) (Nat.le_of_ble_eq_true rfl) ?_
  refine W.eq (g2 := F0 m 4 ls []) rfl ?_
  refine lv_aload_n hx hb dX0_init_4 rfl (lv_at hl 0 rfl) ?_
  refine va_new (ci := 4) (fs := [.null]) (C := RX4) (T := TX4) (N := 1) hx hb hts q_ws_X4 tyX4 tyX4_ok hown (hts _ q_cl_X0_9) (hts _ q_ia_X4) (hts _ q_in_X4) hK hP hD hS hA rfl (fun j hj => by rcases (show j = 0 by omega) with rfl <;> rfl) (Nat.le_of_ble_eq_true rfl) (Nat.le_of_ble_eq_true rfl) dX0_init_5 (fun q0 H hP hD hS => ?_)
  have hP : va_P D vwCl ([(h0, .inr (0, [.null, .null, .null, .null, .int 0, .int 0, .int 0, .int 0]))] ++ [(q0, .inr (4, [.null]))]) H := hP
  have hD : va_D A ([(h0, .inr (0, [.null, .null, .null, .null, .int 0, .int 0, .int 0, .int 0]))] ++ [(q0, .inr (4, [.null]))]) := hD
  refine lv_dup hx hb dX0_init_8 rfl ?_
  refine lv_sipush (v := nI 480) hx hb dX0_init_9 (by decide) ?_
  have hts2 : ∀ w ∈ gWs yX4_init cX4_init 2 none, w.before _ s = true := fun w hw => (List.mem_cons.mp hw).elim (fun e => by rw [e]; exact hts _ q_co_X4_init) (hts w)
  have hFc := g_freeLast hD hS hA
  refine va_callv (A1 := va_A [(q0, .inr (4, [.null]))] H.size) (va_runI (As := [.int (nI 480)]) (rest := [.ref q0, .ref h0]) ⟨hx, hb, hml, hown, hts⟩ (ccX4_init l D cI cP B q0 H.size 480 (by decide)) (cwI 1 hts2 (gGood (n := 2) (r := none) q_co_X4_init) rfl rfl rfl (hts _ q_in_X4) (hts _ q_ml_X0_11) (hts _ q_im_X4_init) rfl (by decide +kernel) ⟨Nat.le_of_ble_eq_true rfl, Nat.le_of_ble_eq_true rfl⟩) ⟨cPre_blind, fun U hU hW => ⟨rfl, by rw [hU], by rw [hU]; exact g_lastP hP, va_K.moved hW.alike (hK.sub (tys' := [(cI, .int), (cP, .object "TaskSheets$Plan")]) [0, 1] rfl), g_lastD hD hAB, Nat.le_trans hBs hS.1, by rw [hU]; exact hZ.go (hS.wide hAB) hW, va_AO.moved hW.alike hAO⟩⟩ rfl rfl hl.1 rfl (lv_room (Nat.le_of_ble_eq_true rfl)) dX0_init_12 ⟨Nat.le_of_ble_eq_true rfl, Nat.le_of_ble_eq_true rfl⟩) hS (fun q _ h => hFc q h) hFc (fun u0 t H1 locs1 ht hvm hw hB hz1 hk1 hS => ?_)
  obtain ⟨hP1, hD1⟩ := hB
  rw [ht] at hP1
  obtain ⟨hP, hD⟩ := g_joinLast (w1 := [(q0, .inr (4, [.ref (u0 1)])), (u0 1, .inl (cI, 480, .inl (fun _ => 0)))]) hP hD hk1 hFc hP1 hD1
  generalize H1 = H at hP hS ⊢
  have hP : va_P D vwCl ([(h0, .inr (0, [.null, .null, .null, .null, .int 0, .int 0, .int 0, .int 0]))] ++ [(q0, .inr (4, [.ref (u0 1)])), (u0 1, .inl (cI, 480, .inl (fun _ => 0)))]) H := hP
  have hD : va_D A ([(h0, .inr (0, [.null, .null, .null, .null, .int 0, .int 0, .int 0, .int 0]))] ++ [(q0, .inr (4, [.ref (u0 1)])), (u0 1, .inl (cI, 480, .inl (fun _ => 0)))]) := hD
  refine va_putF (D := D) (ci := 0) (v := .ref q0) (ty := .object "TaskSheets$Numbers") (C := RX0) (T := TX0) (N := 8) hx hb hts q_ws_X0 tyX0 tyX0_ok nmX0 hown hK hP hD hS 0 rfl rfl 0 (by decide) (hts _ q_fl_X0_14) (fun _ h9 => h9) rfl hin rfl (by decide +kernel) rfl rfl (Nat.le_of_ble_eq_true rfl) dX0_init_15 (fun H locs hP hD hS => ?_)
  have hP : va_P D vwCl ([(h0, .inr (0, [.ref q0, .null, .null, .null, .int 0, .int 0, .int 0, .int 0]))] ++ [(q0, .inr (4, [.ref (u0 1)])), (u0 1, .inl (cI, 480, .inl (fun _ => 0)))]) H := hP
  have hD : va_D A ([(h0, .inr (0, [.ref q0, .null, .null, .null, .int 0, .int 0, .int 0, .int 0]))] ++ [(q0, .inr (4, [.ref (u0 1)])), (u0 1, .inl (cI, 480, .inl (fun _ => 0)))]) := hD
  refine lv_aload_n hx hb dX0_init_18 rfl (lv_at hl 0 rfl) ?_
  refine va_new (ci := 4) (fs := [.null]) (C := RX4) (T := TX4) (N := 1) hx hb hts q_ws_X4 tyX4 tyX4_ok hown (hts _ q_cl_X0_9) (hts _ q_ia_X4) (hts _ q_in_X4) hK hP hD hS hA rfl (fun j hj => by rcases (show j = 0 by omega) with rfl <;> rfl) (Nat.le_of_ble_eq_true rfl) (Nat.le_of_ble_eq_true rfl) dX0_init_19 (fun q1 H hP hD hS => ?_)
  have hP : va_P D vwCl (([(h0, .inr (0, [.ref q0, .null, .null, .null, .int 0, .int 0, .int 0, .int 0]))] ++ [(q0, .inr (4, [.ref (u0 1)])), (u0 1, .inl (cI, 480, .inl (fun _ => 0)))]) ++ [(q1, .inr (4, [.null]))]) H := hP
  have hD : va_D A (([(h0, .inr (0, [.ref q0, .null, .null, .null, .int 0, .int 0, .int 0, .int 0]))] ++ [(q0, .inr (4, [.ref (u0 1)])), (u0 1, .inl (cI, 480, .inl (fun _ => 0)))]) ++ [(q1, .inr (4, [.null]))]) := hD
  refine lv_dup hx hb dX0_init_22 rfl ?_
  refine lv_bipush (v := nI 24) hx hb dX0_init_23 (by decide) ?_
  have hts2 : ∀ w ∈ gWs yX4_init cX4_init 2 none, w.before _ s = true := fun w hw => (List.mem_cons.mp hw).elim (fun e => by rw [e]; exact hts _ q_co_X4_init) (hts w)
  have hFc := g_freeLast hD hS hA
  refine va_callv (A1 := va_A [(q1, .inr (4, [.null]))] H.size) (va_runI (As := [.int (nI 24)]) (rest := [.ref q1, .ref h0]) ⟨hx, hb, hml, hown, hts⟩ (ccX4_init l D cI cP B q1 H.size 24 (by decide)) (cwI 1 hts2 (gGood (n := 2) (r := none) q_co_X4_init) rfl rfl rfl (hts _ q_in_X4) (hts _ q_ml_X0_11) (hts _ q_im_X4_init) rfl (by decide +kernel) ⟨Nat.le_of_ble_eq_true rfl, Nat.le_of_ble_eq_true rfl⟩) ⟨cPre_blind, fun U hU hW => ⟨rfl, by rw [hU], by rw [hU]; exact g_lastP hP, va_K.moved hW.alike (hK.sub (tys' := [(cI, .int), (cP, .object "TaskSheets$Plan")]) [0, 1] rfl), g_lastD hD hAB, Nat.le_trans hBs hS.1, by rw [hU]; exact hZ.go (hS.wide hAB) hW, va_AO.moved hW.alike hAO⟩⟩ rfl rfl hl.1 rfl (lv_room (Nat.le_of_ble_eq_true rfl)) dX0_init_25 ⟨Nat.le_of_ble_eq_true rfl, Nat.le_of_ble_eq_true rfl⟩) hS (fun q _ h => hFc q h) hFc (fun u1 t H1 locs1 ht hvm hw hB hz1 hk1 hS => ?_)
  obtain ⟨hP1, hD1⟩ := hB
  rw [ht] at hP1
  obtain ⟨hP, hD⟩ := g_joinLast (w1 := [(q1, .inr (4, [.ref (u1 1)])), (u1 1, .inl (cI, 24, .inl (fun _ => 0)))]) hP hD hk1 hFc hP1 hD1
  generalize H1 = H at hP hS ⊢
  have hP : va_P D vwCl (([(h0, .inr (0, [.ref q0, .null, .null, .null, .int 0, .int 0, .int 0, .int 0]))] ++ [(q0, .inr (4, [.ref (u0 1)])), (u0 1, .inl (cI, 480, .inl (fun _ => 0)))]) ++ [(q1, .inr (4, [.ref (u1 1)])), (u1 1, .inl (cI, 24, .inl (fun _ => 0)))]) H := hP
  have hD : va_D A (([(h0, .inr (0, [.ref q0, .null, .null, .null, .int 0, .int 0, .int 0, .int 0]))] ++ [(q0, .inr (4, [.ref (u0 1)])), (u0 1, .inl (cI, 480, .inl (fun _ => 0)))]) ++ [(q1, .inr (4, [.ref (u1 1)])), (u1 1, .inl (cI, 24, .inl (fun _ => 0)))]) := hD
  refine va_putF (D := D) (ci := 0) (v := .ref q1) (ty := .object "TaskSheets$Numbers") (C := RX0) (T := TX0) (N := 8) hx hb hts q_ws_X0 tyX0 tyX0_ok nmX0 hown hK hP hD hS 0 rfl rfl 1 (by decide) (hts _ q_fl_X0_20) (fun _ h9 => h9) rfl hin rfl (by decide +kernel) rfl rfl (Nat.le_of_ble_eq_true rfl) dX0_init_28 (fun H locs hP hD hS => ?_)
  have hP : va_P D vwCl (([(h0, .inr (0, [.ref q0, .ref q1, .null, .null, .int 0, .int 0, .int 0, .int 0]))] ++ [(q0, .inr (4, [.ref (u0 1)])), (u0 1, .inl (cI, 480, .inl (fun _ => 0)))]) ++ [(q1, .inr (4, [.ref (u1 1)])), (u1 1, .inl (cI, 24, .inl (fun _ => 0)))]) H := hP
  have hD : va_D A (([(h0, .inr (0, [.ref q0, .ref q1, .null, .null, .int 0, .int 0, .int 0, .int 0]))] ++ [(q0, .inr (4, [.ref (u0 1)])), (u0 1, .inl (cI, 480, .inl (fun _ => 0)))]) ++ [(q1, .inr (4, [.ref (u1 1)])), (u1 1, .inl (cI, 24, .inl (fun _ => 0)))]) := hD
  refine lv_aload_n hx hb dX0_init_31 rfl (lv_at hl 0 rfl) ?_
  refine va_new (ci := 4) (fs := [.null]) (C := RX4) (T := TX4) (N := 1) hx hb hts q_ws_X4 tyX4 tyX4_ok hown (hts _ q_cl_X0_9) (hts _ q_ia_X4) (hts _ q_in_X4) hK hP hD hS hA rfl (fun j hj => by rcases (show j = 0 by omega) with rfl <;> rfl) (Nat.le_of_ble_eq_true rfl) (Nat.le_of_ble_eq_true rfl) dX0_init_32 (fun q2 H hP hD hS => ?_)
  have hP : va_P D vwCl ((([(h0, .inr (0, [.ref q0, .ref q1, .null, .null, .int 0, .int 0, .int 0, .int 0]))] ++ [(q0, .inr (4, [.ref (u0 1)])), (u0 1, .inl (cI, 480, .inl (fun _ => 0)))]) ++ [(q1, .inr (4, [.ref (u1 1)])), (u1 1, .inl (cI, 24, .inl (fun _ => 0)))]) ++ [(q2, .inr (4, [.null]))]) H := hP
  have hD : va_D A ((([(h0, .inr (0, [.ref q0, .ref q1, .null, .null, .int 0, .int 0, .int 0, .int 0]))] ++ [(q0, .inr (4, [.ref (u0 1)])), (u0 1, .inl (cI, 480, .inl (fun _ => 0)))]) ++ [(q1, .inr (4, [.ref (u1 1)])), (u1 1, .inl (cI, 24, .inl (fun _ => 0)))]) ++ [(q2, .inr (4, [.null]))]) := hD
  refine lv_dup hx hb dX0_init_35 rfl ?_
  refine lv_bipush (v := nI 24) hx hb dX0_init_36 (by decide) ?_
  have hts2 : ∀ w ∈ gWs yX4_init cX4_init 2 none, w.before _ s = true := fun w hw => (List.mem_cons.mp hw).elim (fun e => by rw [e]; exact hts _ q_co_X4_init) (hts w)
  have hFc := g_freeLast hD hS hA
  refine va_callv (A1 := va_A [(q2, .inr (4, [.null]))] H.size) (va_runI (As := [.int (nI 24)]) (rest := [.ref q2, .ref h0]) ⟨hx, hb, hml, hown, hts⟩ (ccX4_init l D cI cP B q2 H.size 24 (by decide)) (cwI 1 hts2 (gGood (n := 2) (r := none) q_co_X4_init) rfl rfl rfl (hts _ q_in_X4) (hts _ q_ml_X0_11) (hts _ q_im_X4_init) rfl (by decide +kernel) ⟨Nat.le_of_ble_eq_true rfl, Nat.le_of_ble_eq_true rfl⟩) ⟨cPre_blind, fun U hU hW => ⟨rfl, by rw [hU], by rw [hU]; exact g_lastP hP, va_K.moved hW.alike (hK.sub (tys' := [(cI, .int), (cP, .object "TaskSheets$Plan")]) [0, 1] rfl), g_lastD hD hAB, Nat.le_trans hBs hS.1, by rw [hU]; exact hZ.go (hS.wide hAB) hW, va_AO.moved hW.alike hAO⟩⟩ rfl rfl hl.1 rfl (lv_room (Nat.le_of_ble_eq_true rfl)) dX0_init_38 ⟨Nat.le_of_ble_eq_true rfl, Nat.le_of_ble_eq_true rfl⟩) hS (fun q _ h => hFc q h) hFc (fun u2 t H1 locs1 ht hvm hw hB hz1 hk1 hS => ?_)
  obtain ⟨hP1, hD1⟩ := hB
  rw [ht] at hP1
  obtain ⟨hP, hD⟩ := g_joinLast (w1 := [(q2, .inr (4, [.ref (u2 1)])), (u2 1, .inl (cI, 24, .inl (fun _ => 0)))]) hP hD hk1 hFc hP1 hD1
  generalize H1 = H at hP hS ⊢
  have hP : va_P D vwCl ((([(h0, .inr (0, [.ref q0, .ref q1, .null, .null, .int 0, .int 0, .int 0, .int 0]))] ++ [(q0, .inr (4, [.ref (u0 1)])), (u0 1, .inl (cI, 480, .inl (fun _ => 0)))]) ++ [(q1, .inr (4, [.ref (u1 1)])), (u1 1, .inl (cI, 24, .inl (fun _ => 0)))]) ++ [(q2, .inr (4, [.ref (u2 1)])), (u2 1, .inl (cI, 24, .inl (fun _ => 0)))]) H := hP
  have hD : va_D A ((([(h0, .inr (0, [.ref q0, .ref q1, .null, .null, .int 0, .int 0, .int 0, .int 0]))] ++ [(q0, .inr (4, [.ref (u0 1)])), (u0 1, .inl (cI, 480, .inl (fun _ => 0)))]) ++ [(q1, .inr (4, [.ref (u1 1)])), (u1 1, .inl (cI, 24, .inl (fun _ => 0)))]) ++ [(q2, .inr (4, [.ref (u2 1)])), (u2 1, .inl (cI, 24, .inl (fun _ => 0)))]) := hD
  refine va_putF (D := D) (ci := 0) (v := .ref q2) (ty := .object "TaskSheets$Numbers") (C := RX0) (T := TX0) (N := 8) hx hb hts q_ws_X0 tyX0 tyX0_ok nmX0 hown hK hP hD hS 0 rfl rfl 2 (by decide) (hts _ q_fl_X0_23) (fun _ h9 => h9) rfl hin rfl (by decide +kernel) rfl rfl (Nat.le_of_ble_eq_true rfl) dX0_init_41 (fun H locs hP hD hS => ?_)
  have hP : va_P D vwCl ((([(h0, .inr (0, [.ref q0, .ref q1, .ref q2, .null, .int 0, .int 0, .int 0, .int 0]))] ++ [(q0, .inr (4, [.ref (u0 1)])), (u0 1, .inl (cI, 480, .inl (fun _ => 0)))]) ++ [(q1, .inr (4, [.ref (u1 1)])), (u1 1, .inl (cI, 24, .inl (fun _ => 0)))]) ++ [(q2, .inr (4, [.ref (u2 1)])), (u2 1, .inl (cI, 24, .inl (fun _ => 0)))]) H := hP
  have hD : va_D A ((([(h0, .inr (0, [.ref q0, .ref q1, .ref q2, .null, .int 0, .int 0, .int 0, .int 0]))] ++ [(q0, .inr (4, [.ref (u0 1)])), (u0 1, .inl (cI, 480, .inl (fun _ => 0)))]) ++ [(q1, .inr (4, [.ref (u1 1)])), (u1 1, .inl (cI, 24, .inl (fun _ => 0)))]) ++ [(q2, .inr (4, [.ref (u2 1)])), (u2 1, .inl (cI, 24, .inl (fun _ => 0)))]) := hD
  refine lv_aload_n hx hb dX0_init_44 rfl (lv_at hl 0 rfl) ?_
  refine va_new (ci := 4) (fs := [.null]) (C := RX4) (T := TX4) (N := 1) hx hb hts q_ws_X4 tyX4 tyX4_ok hown (hts _ q_cl_X0_9) (hts _ q_ia_X4) (hts _ q_in_X4) hK hP hD hS hA rfl (fun j hj => by rcases (show j = 0 by omega) with rfl <;> rfl) (Nat.le_of_ble_eq_true rfl) (Nat.le_of_ble_eq_true rfl) dX0_init_45 (fun q3 H hP hD hS => ?_)
  have hP : va_P D vwCl (((([(h0, .inr (0, [.ref q0, .ref q1, .ref q2, .null, .int 0, .int 0, .int 0, .int 0]))] ++ [(q0, .inr (4, [.ref (u0 1)])), (u0 1, .inl (cI, 480, .inl (fun _ => 0)))]) ++ [(q1, .inr (4, [.ref (u1 1)])), (u1 1, .inl (cI, 24, .inl (fun _ => 0)))]) ++ [(q2, .inr (4, [.ref (u2 1)])), (u2 1, .inl (cI, 24, .inl (fun _ => 0)))]) ++ [(q3, .inr (4, [.null]))]) H := hP
  have hD : va_D A (((([(h0, .inr (0, [.ref q0, .ref q1, .ref q2, .null, .int 0, .int 0, .int 0, .int 0]))] ++ [(q0, .inr (4, [.ref (u0 1)])), (u0 1, .inl (cI, 480, .inl (fun _ => 0)))]) ++ [(q1, .inr (4, [.ref (u1 1)])), (u1 1, .inl (cI, 24, .inl (fun _ => 0)))]) ++ [(q2, .inr (4, [.ref (u2 1)])), (u2 1, .inl (cI, 24, .inl (fun _ => 0)))]) ++ [(q3, .inr (4, [.null]))]) := hD
  refine lv_dup hx hb dX0_init_48 rfl ?_
  refine lv_bipush (v := nI 24) hx hb dX0_init_49 (by decide) ?_
  have hts2 : ∀ w ∈ gWs yX4_init cX4_init 2 none, w.before _ s = true := fun w hw => (List.mem_cons.mp hw).elim (fun e => by rw [e]; exact hts _ q_co_X4_init) (hts w)
  have hFc := g_freeLast hD hS hA
  refine va_callv (A1 := va_A [(q3, .inr (4, [.null]))] H.size) (va_runI (As := [.int (nI 24)]) (rest := [.ref q3, .ref h0]) ⟨hx, hb, hml, hown, hts⟩ (ccX4_init l D cI cP B q3 H.size 24 (by decide)) (cwI 1 hts2 (gGood (n := 2) (r := none) q_co_X4_init) rfl rfl rfl (hts _ q_in_X4) (hts _ q_ml_X0_11) (hts _ q_im_X4_init) rfl (by decide +kernel) ⟨Nat.le_of_ble_eq_true rfl, Nat.le_of_ble_eq_true rfl⟩) ⟨cPre_blind, fun U hU hW => ⟨rfl, by rw [hU], by rw [hU]; exact g_lastP hP, va_K.moved hW.alike (hK.sub (tys' := [(cI, .int), (cP, .object "TaskSheets$Plan")]) [0, 1] rfl), g_lastD hD hAB, Nat.le_trans hBs hS.1, by rw [hU]; exact hZ.go (hS.wide hAB) hW, va_AO.moved hW.alike hAO⟩⟩ rfl rfl hl.1 rfl (lv_room (Nat.le_of_ble_eq_true rfl)) dX0_init_51 ⟨Nat.le_of_ble_eq_true rfl, Nat.le_of_ble_eq_true rfl⟩) hS (fun q _ h => hFc q h) hFc (fun u3 t H1 locs1 ht hvm hw hB hz1 hk1 hS => ?_)
  obtain ⟨hP1, hD1⟩ := hB
  rw [ht] at hP1
  obtain ⟨hP, hD⟩ := g_joinLast (w1 := [(q3, .inr (4, [.ref (u3 1)])), (u3 1, .inl (cI, 24, .inl (fun _ => 0)))]) hP hD hk1 hFc hP1 hD1
  generalize H1 = H at hP hS ⊢
  have hP : va_P D vwCl (((([(h0, .inr (0, [.ref q0, .ref q1, .ref q2, .null, .int 0, .int 0, .int 0, .int 0]))] ++ [(q0, .inr (4, [.ref (u0 1)])), (u0 1, .inl (cI, 480, .inl (fun _ => 0)))]) ++ [(q1, .inr (4, [.ref (u1 1)])), (u1 1, .inl (cI, 24, .inl (fun _ => 0)))]) ++ [(q2, .inr (4, [.ref (u2 1)])), (u2 1, .inl (cI, 24, .inl (fun _ => 0)))]) ++ [(q3, .inr (4, [.ref (u3 1)])), (u3 1, .inl (cI, 24, .inl (fun _ => 0)))]) H := hP
  have hD : va_D A (((([(h0, .inr (0, [.ref q0, .ref q1, .ref q2, .null, .int 0, .int 0, .int 0, .int 0]))] ++ [(q0, .inr (4, [.ref (u0 1)])), (u0 1, .inl (cI, 480, .inl (fun _ => 0)))]) ++ [(q1, .inr (4, [.ref (u1 1)])), (u1 1, .inl (cI, 24, .inl (fun _ => 0)))]) ++ [(q2, .inr (4, [.ref (u2 1)])), (u2 1, .inl (cI, 24, .inl (fun _ => 0)))]) ++ [(q3, .inr (4, [.ref (u3 1)])), (u3 1, .inl (cI, 24, .inl (fun _ => 0)))]) := hD
  refine va_putF (D := D) (ci := 0) (v := .ref q3) (ty := .object "TaskSheets$Numbers") (C := RX0) (T := TX0) (N := 8) hx hb hts q_ws_X0 tyX0 tyX0_ok nmX0 hown hK hP hD hS 0 rfl rfl 3 (by decide) (hts _ q_fl_X0_26) (fun _ h9 => h9) rfl hin rfl (by decide +kernel) rfl rfl (Nat.le_of_ble_eq_true rfl) dX0_init_54 (fun H locs hP hD hS => ?_)
  have hP : va_P D vwCl (((([(h0, .inr (0, [.ref q0, .ref q1, .ref q2, .ref q3, .int 0, .int 0, .int 0, .int 0]))] ++ [(q0, .inr (4, [.ref (u0 1)])), (u0 1, .inl (cI, 480, .inl (fun _ => 0)))]) ++ [(q1, .inr (4, [.ref (u1 1)])), (u1 1, .inl (cI, 24, .inl (fun _ => 0)))]) ++ [(q2, .inr (4, [.ref (u2 1)])), (u2 1, .inl (cI, 24, .inl (fun _ => 0)))]) ++ [(q3, .inr (4, [.ref (u3 1)])), (u3 1, .inl (cI, 24, .inl (fun _ => 0)))]) H := hP
  have hD : va_D A (((([(h0, .inr (0, [.ref q0, .ref q1, .ref q2, .ref q3, .int 0, .int 0, .int 0, .int 0]))] ++ [(q0, .inr (4, [.ref (u0 1)])), (u0 1, .inl (cI, 480, .inl (fun _ => 0)))]) ++ [(q1, .inr (4, [.ref (u1 1)])), (u1 1, .inl (cI, 24, .inl (fun _ => 0)))]) ++ [(q2, .inr (4, [.ref (u2 1)])), (u2 1, .inl (cI, 24, .inl (fun _ => 0)))]) ++ [(q3, .inr (4, [.ref (u3 1)])), (u3 1, .inl (cI, 24, .inl (fun _ => 0)))]) := hD
  have hP9 : va_P D vwCl (wBands cI h0 (fun i => ([h0, q0, u0 1, q1, u1 1, q2, u2 1, q3, u3 1] : List Nat).getD i 0)) H := hP
  have hD9 : va_D A (wBands cI h0 (fun i => ([h0, q0, u0 1, q1, u1 1, q2, u2 1, q3, u3 1] : List Nat).getD i 0)) := hD
  refine W.widen (k := 8) (n := 556) (Nat.le_of_ble_eq_true rfl) (Nat.le_of_ble_eq_true rfl) ?_
  subst hAe
  exact W.vret hx hb hr (fun t ht hW => ⟨⟨(fun i => ([h0, q0, u0 1, q1, u1 1, q2, u2 1, q3, u3 1] : List Nat).getD i 0), rfl, trivial, by rw [ht]; exact hP9, hD9⟩, hS.F ht⟩) hS.2.2 dX0_init_57
def wChains (cI : ClassId) (h0 : Nat) (u : Nat → Nat) : va_W := [(h0, .inr (1, [.ref (u 1)])), (u 1, .inr (4, [.ref (u 2)])), (u 2, .inl (cI, 24, .inl (fun _ => 0)))]
set_option maxHeartbeats 8000000 in
set_option maxRecDepth 100000 in
theorem ccX1_init (l : Launch) (D : va_G) (cI cP : ClassId) (B h0 sz : Nat) : Met l yX1_init (gWs yX1_init cX1_init 1 none) ({ frames := 2, cells := 2, slots := 25, locals := 41 } : Room) (cPre D cI cP B [.ref h0] [(h0, .inr (1, [.null]))] sz) (cPost D (wChains cI h0) [(h0, .inr (1, [.null]))] sz) 2 25 (va_A [(h0, .inr (1, [.null]))] sz) := by
  refine Met.ofW (cc := cX1_init) (maxL := 1) (ret := none) (by decide) rfl ?_
  intro p e s m args below meth c s₁ B0 hml hv
  obtain ⟨rfl, hsz, hP, hK, hD0, hBs, hZ, hAO⟩ := hv
  have hx := B0.exec
  have hb := B0.bytes
  have hr := B0.returns
  have hts0 := atoms_spec (ws := gWs yX1_init cX1_init 1 none) B0.pre
  have hts : ∀ w ∈ gLW, w.before _ s = true := fun w hw => hts0 w (List.mem_cons_of_mem _ hw)
  have hown : s.vm.findClass RX1 = some m.cls := findClass_of_methodNamed B0.named
  have hlocks := B0.notSynchronized
  have hin : meth.name = "<init>" := (name_of_methodNamed B0.named B0.method).1
  subst hsz
  have hD := hD0.self (sz := s.heap.size)
  have hAB0 : ∀ q : Nat, va_A [(h0, .inr (1, [.null]))] s.heap.size q → B ≤ q := fun q h => by
    rcases h with ⟨k, e9, h⟩ | h
    · exact hD0.2 k _ h
    · exact Nat.le_trans hBs h
  generalize hAe : va_A [(h0, .inr (1, [.null]))] s.heap.size = A at hD hAB0 ⊢
  have hAB : ∀ q : Nat, A q → B ≤ q := hAB0
  have hA : ∀ q : Nat, s.heap.size ≤ q → A q := fun q h => by rw [← hAe]; exact Or.inr h
  have hS : va_S A s.heap s.heap [] := va_S.rf
  have hl := lv_entry ([.ref h0]) (n := 1) (Nat.le_of_ble_eq_true rfl)
  rw [lg_entry_eq]
  generalize (lg_sl ([.ref h0]) ++ List.replicate (1 - (lg_sl ([.ref h0])).length) Slot.unset).toArray = ls at hl ⊢
  have hl : lv_has ls 1 [(0, .ref h0)] := hl
  obtain ⟨tI, hZI, hTI⟩ := hZ.1 ("INITIAL", [8, 20, 1, 0]) (by decide +kernel)
  have hZI := hZI.narrow hAB
  have hTI := hTI.narrow hAB
  refine lv_aload_n hx hb dX1_init_0 rfl (lv_at hl 0 rfl) ?_
  refine W.objInit hx hb hown (hts _ q_ml_X1_3) (hts _ q_im_obj) (hts _ q_co_obj) rfl (by rw [hml]; exact hl.1) rfl dX1_init_1 (Nat.le_of_ble_eq_true rfl) (Nat.le_of_ble_eq_true rfl) ?_
  refine W.eq (g2 := F0 m 4 ls []) rfl ?_
  refine lv_aload_n hx hb dX1_init_4 rfl (lv_at hl 0 rfl) ?_
  refine va_new (ci := 4) (fs := [.null]) (C := RX4) (T := TX4) (N := 1) hx hb hts q_ws_X4 tyX4 tyX4_ok hown (hts _ q_cl_X1_9) (hts _ q_ia_X4) (hts _ q_in_X4) hK hP hD hS hA rfl (fun j hj => by rcases (show j = 0 by omega) with rfl <;> rfl) (Nat.le_of_ble_eq_true rfl) (Nat.le_of_ble_eq_true rfl) dX1_init_5 (fun q0 H hP hD hS => ?_)
  have hP : va_P D vwCl ([(h0, .inr (1, [.null]))] ++ [(q0, .inr (4, [.null]))]) H := hP
  have hD : va_D A ([(h0, .inr (1, [.null]))] ++ [(q0, .inr (4, [.null]))]) := hD
  refine lv_dup hx hb dX1_init_8 rfl ?_
  refine lv_bipush (v := nI 24) hx hb dX1_init_9 (by decide) ?_
  have hts2 : ∀ w ∈ gWs yX4_init cX4_init 2 none, w.before _ s = true := fun w hw => (List.mem_cons.mp hw).elim (fun e => by rw [e]; exact hts _ q_co_X4_init) (hts w)
  have hFc := g_freeLast hD hS hA
  refine va_callv (A1 := va_A [(q0, .inr (4, [.null]))] H.size) (va_runI (As := [.int (nI 24)]) (rest := [.ref q0, .ref h0]) ⟨hx, hb, hml, hown, hts⟩ (ccX4_init l D cI cP B q0 H.size 24 (by decide)) (cwI 1 hts2 (gGood (n := 2) (r := none) q_co_X4_init) rfl rfl rfl (hts _ q_in_X4) (hts _ q_ml_X1_11) (hts _ q_im_X4_init) rfl (by decide +kernel) ⟨Nat.le_of_ble_eq_true rfl, Nat.le_of_ble_eq_true rfl⟩) ⟨cPre_blind, fun U hU hW => ⟨rfl, by rw [hU], by rw [hU]; exact g_lastP hP, va_K.moved hW.alike (hK.sub (tys' := [(cI, .int), (cP, .object "TaskSheets$Plan")]) [0, 1] rfl), g_lastD hD hAB, Nat.le_trans hBs hS.1, by rw [hU]; exact hZ.go (hS.wide hAB) hW, va_AO.moved hW.alike hAO⟩⟩ rfl rfl hl.1 rfl (lv_room (Nat.le_of_ble_eq_true rfl)) dX1_init_11 ⟨Nat.le_of_ble_eq_true rfl, Nat.le_of_ble_eq_true rfl⟩) hS (fun q _ h => hFc q h) hFc (fun u0 t H1 locs1 ht hvm hw hB hz1 hk1 hS => ?_)
  obtain ⟨hP1, hD1⟩ := hB
  rw [ht] at hP1
  obtain ⟨hP, hD⟩ := g_joinLast (w1 := [(q0, .inr (4, [.ref (u0 1)])), (u0 1, .inl (cI, 24, .inl (fun _ => 0)))]) hP hD hk1 hFc hP1 hD1
  generalize H1 = H at hP hS ⊢
  have hP : va_P D vwCl ([(h0, .inr (1, [.null]))] ++ [(q0, .inr (4, [.ref (u0 1)])), (u0 1, .inl (cI, 24, .inl (fun _ => 0)))]) H := hP
  have hD : va_D A ([(h0, .inr (1, [.null]))] ++ [(q0, .inr (4, [.ref (u0 1)])), (u0 1, .inl (cI, 24, .inl (fun _ => 0)))]) := hD
  refine va_putF (D := D) (ci := 1) (v := .ref q0) (ty := .object "TaskSheets$Numbers") (C := RX1) (T := TX1) (N := 1) hx hb hts q_ws_X1 tyX1 tyX1_ok nmX1 hown hK hP hD hS 0 rfl rfl 0 (by decide) (hts _ q_fl_X1_14) (fun _ h9 => h9) rfl hin rfl (by decide +kernel) rfl rfl (Nat.le_of_ble_eq_true rfl) dX1_init_14 (fun H locs hP hD hS => ?_)
  have hP : va_P D vwCl ([(h0, .inr (1, [.ref q0]))] ++ [(q0, .inr (4, [.ref (u0 1)])), (u0 1, .inl (cI, 24, .inl (fun _ => 0)))]) H := hP
  have hD : va_D A ([(h0, .inr (1, [.ref q0]))] ++ [(q0, .inr (4, [.ref (u0 1)])), (u0 1, .inl (cI, 24, .inl (fun _ => 0)))]) := hD
  have hP9 : va_P D vwCl (wChains cI h0 (fun i => ([h0, q0, u0 1] : List Nat).getD i 0)) H := hP
  have hD9 : va_D A (wChains cI h0 (fun i => ([h0, q0, u0 1] : List Nat).getD i 0)) := hD
  refine W.widen (k := 2) (n := 25) (Nat.le_of_ble_eq_true rfl) (Nat.le_of_ble_eq_true rfl) ?_
  subst hAe
  exact W.vret hx hb hr (fun t ht hW => ⟨⟨(fun i => ([h0, q0, u0 1] : List Nat).getD i 0), rfl, trivial, by rw [ht]; exact hP9, hD9⟩, hS.F ht⟩) hS.2.2 dX1_init_17
def wExits (cI : ClassId) (h0 : Nat) (u : Nat → Nat) : va_W := [(h0, .inr (2, [.ref (u 1), .ref (u 3), .ref (u 5), .ref (u 7), .ref (u 9), .ref (u 11), .int 0])), (u 1, .inr (4, [.ref (u 2)])), (u 2, .inl (cI, 30, .inl (fun _ => 0))), (u 3, .inr (4, [.ref (u 4)])), (u 4, .inl (cI, 30, .inl (fun _ => 0))), (u 5, .inr (4, [.ref (u 6)])), (u 6, .inl (cI, 30, .inl (fun _ => 0))), (u 7, .inr (4, [.ref (u 8)])), (u 8, .inl (cI, 31, .inl (fun _ => 0))), (u 9, .inr (4, [.ref (u 10)])), (u 10, .inl (cI, 312, .inl (fun _ => 0))), (u 11, .inr (4, [.ref (u 12)])), (u 12, .inl (cI, 312, .inl (fun _ => 0)))]
set_option maxHeartbeats 8000000 in
set_option maxRecDepth 100000 in
theorem ccX2_init (l : Launch) (D : va_G) (cI cP : ClassId) (B h0 sz : Nat) : Met l yX2_init (gWs yX2_init cX2_init 1 none) ({ frames := 2, cells := 12, slots := 751, locals := 41 } : Room) (cPre D cI cP B [.ref h0] [(h0, .inr (2, [.null, .null, .null, .null, .null, .null, .int 0]))] sz) (cPost D (wExits cI h0) [(h0, .inr (2, [.null, .null, .null, .null, .null, .null, .int 0]))] sz) 12 751 (va_A [(h0, .inr (2, [.null, .null, .null, .null, .null, .null, .int 0]))] sz) := by
  refine Met.ofW (cc := cX2_init) (maxL := 1) (ret := none) (by decide) rfl ?_
  intro p e s m args below meth c s₁ B0 hml hv
  obtain ⟨rfl, hsz, hP, hK, hD0, hBs, hZ, hAO⟩ := hv
  have hx := B0.exec
  have hb := B0.bytes
  have hr := B0.returns
  have hts0 := atoms_spec (ws := gWs yX2_init cX2_init 1 none) B0.pre
  have hts : ∀ w ∈ gLW, w.before _ s = true := fun w hw => hts0 w (List.mem_cons_of_mem _ hw)
  have hown : s.vm.findClass RX2 = some m.cls := findClass_of_methodNamed B0.named
  have hlocks := B0.notSynchronized
  have hin : meth.name = "<init>" := (name_of_methodNamed B0.named B0.method).1
  subst hsz
  have hD := hD0.self (sz := s.heap.size)
  have hAB0 : ∀ q : Nat, va_A [(h0, .inr (2, [.null, .null, .null, .null, .null, .null, .int 0]))] s.heap.size q → B ≤ q := fun q h => by
    rcases h with ⟨k, e9, h⟩ | h
    · exact hD0.2 k _ h
    · exact Nat.le_trans hBs h
  generalize hAe : va_A [(h0, .inr (2, [.null, .null, .null, .null, .null, .null, .int 0]))] s.heap.size = A at hD hAB0 ⊢
  have hAB : ∀ q : Nat, A q → B ≤ q := hAB0
  have hA : ∀ q : Nat, s.heap.size ≤ q → A q := fun q h => by rw [← hAe]; exact Or.inr h
  have hS : va_S A s.heap s.heap [] := va_S.rf
  have hl := lv_entry ([.ref h0]) (n := 1) (Nat.le_of_ble_eq_true rfl)
  rw [lg_entry_eq]
  generalize (lg_sl ([.ref h0]) ++ List.replicate (1 - (lg_sl ([.ref h0])).length) Slot.unset).toArray = ls at hl ⊢
  have hl : lv_has ls 1 [(0, .ref h0)] := hl
  obtain ⟨tI, hZI, hTI⟩ := hZ.1 ("INITIAL", [8, 20, 1, 0]) (by decide +kernel)
  have hZI := hZI.narrow hAB
  have hTI := hTI.narrow hAB
  refine lv_aload_n hx hb dX2_init_0 rfl (lv_at hl 0 rfl) ?_
  refine W.objInit hx hb hown (hts _ q_ml_X2_3) (hts _ q_im_obj) (hts _ q_co_obj) rfl (by rw [hml]; exact hl.1) rfl dX2_init_1 (Nat.le_of_ble_eq_true rfl) (Nat.le_of_ble_eq_true rfl) ?_
  refine W.eq (g2 := F0 m 4 ls []) rfl ?_
  refine lv_aload_n hx hb dX2_init_4 rfl (lv_at hl 0 rfl) ?_
  refine va_new (ci := 4) (fs := [.null]) (C := RX4) (T := TX4) (N := 1) hx hb hts q_ws_X4 tyX4 tyX4_ok hown (hts _ q_cl_X2_9) (hts _ q_ia_X4) (hts _ q_in_X4) hK hP hD hS hA rfl (fun j hj => by rcases (show j = 0 by omega) with rfl <;> rfl) (Nat.le_of_ble_eq_true rfl) (Nat.le_of_ble_eq_true rfl) dX2_init_5 (fun q0 H hP hD hS => ?_)
  have hP : va_P D vwCl ([(h0, .inr (2, [.null, .null, .null, .null, .null, .null, .int 0]))] ++ [(q0, .inr (4, [.null]))]) H := hP
  have hD : va_D A ([(h0, .inr (2, [.null, .null, .null, .null, .null, .null, .int 0]))] ++ [(q0, .inr (4, [.null]))]) := hD
  refine lv_dup hx hb dX2_init_8 rfl ?_
  refine lv_bipush (v := nI 30) hx hb dX2_init_9 (by decide) ?_
  have hts2 : ∀ w ∈ gWs yX4_init cX4_init 2 none, w.before _ s = true := fun w hw => (List.mem_cons.mp hw).elim (fun e => by rw [e]; exact hts _ q_co_X4_init) (hts w)
  have hFc := g_freeLast hD hS hA
  refine va_callv (A1 := va_A [(q0, .inr (4, [.null]))] H.size) (va_runI (As := [.int (nI 30)]) (rest := [.ref q0, .ref h0]) ⟨hx, hb, hml, hown, hts⟩ (ccX4_init l D cI cP B q0 H.size 30 (by decide)) (cwI 1 hts2 (gGood (n := 2) (r := none) q_co_X4_init) rfl rfl rfl (hts _ q_in_X4) (hts _ q_ml_X2_11) (hts _ q_im_X4_init) rfl (by decide +kernel) ⟨Nat.le_of_ble_eq_true rfl, Nat.le_of_ble_eq_true rfl⟩) ⟨cPre_blind, fun U hU hW => ⟨rfl, by rw [hU], by rw [hU]; exact g_lastP hP, va_K.moved hW.alike (hK.sub (tys' := [(cI, .int), (cP, .object "TaskSheets$Plan")]) [0, 1] rfl), g_lastD hD hAB, Nat.le_trans hBs hS.1, by rw [hU]; exact hZ.go (hS.wide hAB) hW, va_AO.moved hW.alike hAO⟩⟩ rfl rfl hl.1 rfl (lv_room (Nat.le_of_ble_eq_true rfl)) dX2_init_11 ⟨Nat.le_of_ble_eq_true rfl, Nat.le_of_ble_eq_true rfl⟩) hS (fun q _ h => hFc q h) hFc (fun u0 t H1 locs1 ht hvm hw hB hz1 hk1 hS => ?_)
  obtain ⟨hP1, hD1⟩ := hB
  rw [ht] at hP1
  obtain ⟨hP, hD⟩ := g_joinLast (w1 := [(q0, .inr (4, [.ref (u0 1)])), (u0 1, .inl (cI, 30, .inl (fun _ => 0)))]) hP hD hk1 hFc hP1 hD1
  generalize H1 = H at hP hS ⊢
  have hP : va_P D vwCl ([(h0, .inr (2, [.null, .null, .null, .null, .null, .null, .int 0]))] ++ [(q0, .inr (4, [.ref (u0 1)])), (u0 1, .inl (cI, 30, .inl (fun _ => 0)))]) H := hP
  have hD : va_D A ([(h0, .inr (2, [.null, .null, .null, .null, .null, .null, .int 0]))] ++ [(q0, .inr (4, [.ref (u0 1)])), (u0 1, .inl (cI, 30, .inl (fun _ => 0)))]) := hD
  refine va_putF (D := D) (ci := 2) (v := .ref q0) (ty := .object "TaskSheets$Numbers") (C := RX2) (T := TX2) (N := 7) hx hb hts q_ws_X2 tyX2 tyX2_ok nmX2 hown hK hP hD hS 0 rfl rfl 0 (by decide) (hts _ q_fl_X2_14) (fun _ h9 => h9) rfl hin rfl (by decide +kernel) rfl rfl (Nat.le_of_ble_eq_true rfl) dX2_init_14 (fun H locs hP hD hS => ?_)
  have hP : va_P D vwCl ([(h0, .inr (2, [.ref q0, .null, .null, .null, .null, .null, .int 0]))] ++ [(q0, .inr (4, [.ref (u0 1)])), (u0 1, .inl (cI, 30, .inl (fun _ => 0)))]) H := hP
  have hD : va_D A ([(h0, .inr (2, [.ref q0, .null, .null, .null, .null, .null, .int 0]))] ++ [(q0, .inr (4, [.ref (u0 1)])), (u0 1, .inl (cI, 30, .inl (fun _ => 0)))]) := hD
  refine lv_aload_n hx hb dX2_init_17 rfl (lv_at hl 0 rfl) ?_
  refine va_new (ci := 4) (fs := [.null]) (C := RX4) (T := TX4) (N := 1) hx hb hts q_ws_X4 tyX4 tyX4_ok hown (hts _ q_cl_X2_9) (hts _ q_ia_X4) (hts _ q_in_X4) hK hP hD hS hA rfl (fun j hj => by rcases (show j = 0 by omega) with rfl <;> rfl) (Nat.le_of_ble_eq_true rfl) (Nat.le_of_ble_eq_true rfl) dX2_init_18 (fun q1 H hP hD hS => ?_)
  have hP : va_P D vwCl (([(h0, .inr (2, [.ref q0, .null, .null, .null, .null, .null, .int 0]))] ++ [(q0, .inr (4, [.ref (u0 1)])), (u0 1, .inl (cI, 30, .inl (fun _ => 0)))]) ++ [(q1, .inr (4, [.null]))]) H := hP
  have hD : va_D A (([(h0, .inr (2, [.ref q0, .null, .null, .null, .null, .null, .int 0]))] ++ [(q0, .inr (4, [.ref (u0 1)])), (u0 1, .inl (cI, 30, .inl (fun _ => 0)))]) ++ [(q1, .inr (4, [.null]))]) := hD
  refine lv_dup hx hb dX2_init_21 rfl ?_
  refine lv_bipush (v := nI 30) hx hb dX2_init_22 (by decide) ?_
  have hts2 : ∀ w ∈ gWs yX4_init cX4_init 2 none, w.before _ s = true := fun w hw => (List.mem_cons.mp hw).elim (fun e => by rw [e]; exact hts _ q_co_X4_init) (hts w)
  have hFc := g_freeLast hD hS hA
  refine va_callv (A1 := va_A [(q1, .inr (4, [.null]))] H.size) (va_runI (As := [.int (nI 30)]) (rest := [.ref q1, .ref h0]) ⟨hx, hb, hml, hown, hts⟩ (ccX4_init l D cI cP B q1 H.size 30 (by decide)) (cwI 1 hts2 (gGood (n := 2) (r := none) q_co_X4_init) rfl rfl rfl (hts _ q_in_X4) (hts _ q_ml_X2_11) (hts _ q_im_X4_init) rfl (by decide +kernel) ⟨Nat.le_of_ble_eq_true rfl, Nat.le_of_ble_eq_true rfl⟩) ⟨cPre_blind, fun U hU hW => ⟨rfl, by rw [hU], by rw [hU]; exact g_lastP hP, va_K.moved hW.alike (hK.sub (tys' := [(cI, .int), (cP, .object "TaskSheets$Plan")]) [0, 1] rfl), g_lastD hD hAB, Nat.le_trans hBs hS.1, by rw [hU]; exact hZ.go (hS.wide hAB) hW, va_AO.moved hW.alike hAO⟩⟩ rfl rfl hl.1 rfl (lv_room (Nat.le_of_ble_eq_true rfl)) dX2_init_24 ⟨Nat.le_of_ble_eq_true rfl, Nat.le_of_ble_eq_true rfl⟩) hS (fun q _ h => hFc q h) hFc (fun u1 t H1 locs1 ht hvm hw hB hz1 hk1 hS => ?_)
  obtain ⟨hP1, hD1⟩ := hB
  rw [ht] at hP1
  obtain ⟨hP, hD⟩ := g_joinLast (w1 := [(q1, .inr (4, [.ref (u1 1)])), (u1 1, .inl (cI, 30, .inl (fun _ => 0)))]) hP hD hk1 hFc hP1 hD1
  generalize H1 = H at hP hS ⊢
  have hP : va_P D vwCl (([(h0, .inr (2, [.ref q0, .null, .null, .null, .null, .null, .int 0]))] ++ [(q0, .inr (4, [.ref (u0 1)])), (u0 1, .inl (cI, 30, .inl (fun _ => 0)))]) ++ [(q1, .inr (4, [.ref (u1 1)])), (u1 1, .inl (cI, 30, .inl (fun _ => 0)))]) H := hP
  have hD : va_D A (([(h0, .inr (2, [.ref q0, .null, .null, .null, .null, .null, .int 0]))] ++ [(q0, .inr (4, [.ref (u0 1)])), (u0 1, .inl (cI, 30, .inl (fun _ => 0)))]) ++ [(q1, .inr (4, [.ref (u1 1)])), (u1 1, .inl (cI, 30, .inl (fun _ => 0)))]) := hD
  refine va_putF (D := D) (ci := 2) (v := .ref q1) (ty := .object "TaskSheets$Numbers") (C := RX2) (T := TX2) (N := 7) hx hb hts q_ws_X2 tyX2 tyX2_ok nmX2 hown hK hP hD hS 0 rfl rfl 1 (by decide) (hts _ q_fl_X2_20) (fun _ h9 => h9) rfl hin rfl (by decide +kernel) rfl rfl (Nat.le_of_ble_eq_true rfl) dX2_init_27 (fun H locs hP hD hS => ?_)
  have hP : va_P D vwCl (([(h0, .inr (2, [.ref q0, .ref q1, .null, .null, .null, .null, .int 0]))] ++ [(q0, .inr (4, [.ref (u0 1)])), (u0 1, .inl (cI, 30, .inl (fun _ => 0)))]) ++ [(q1, .inr (4, [.ref (u1 1)])), (u1 1, .inl (cI, 30, .inl (fun _ => 0)))]) H := hP
  have hD : va_D A (([(h0, .inr (2, [.ref q0, .ref q1, .null, .null, .null, .null, .int 0]))] ++ [(q0, .inr (4, [.ref (u0 1)])), (u0 1, .inl (cI, 30, .inl (fun _ => 0)))]) ++ [(q1, .inr (4, [.ref (u1 1)])), (u1 1, .inl (cI, 30, .inl (fun _ => 0)))]) := hD
  refine lv_aload_n hx hb dX2_init_30 rfl (lv_at hl 0 rfl) ?_
  refine va_new (ci := 4) (fs := [.null]) (C := RX4) (T := TX4) (N := 1) hx hb hts q_ws_X4 tyX4 tyX4_ok hown (hts _ q_cl_X2_9) (hts _ q_ia_X4) (hts _ q_in_X4) hK hP hD hS hA rfl (fun j hj => by rcases (show j = 0 by omega) with rfl <;> rfl) (Nat.le_of_ble_eq_true rfl) (Nat.le_of_ble_eq_true rfl) dX2_init_31 (fun q2 H hP hD hS => ?_)
  have hP : va_P D vwCl ((([(h0, .inr (2, [.ref q0, .ref q1, .null, .null, .null, .null, .int 0]))] ++ [(q0, .inr (4, [.ref (u0 1)])), (u0 1, .inl (cI, 30, .inl (fun _ => 0)))]) ++ [(q1, .inr (4, [.ref (u1 1)])), (u1 1, .inl (cI, 30, .inl (fun _ => 0)))]) ++ [(q2, .inr (4, [.null]))]) H := hP
  have hD : va_D A ((([(h0, .inr (2, [.ref q0, .ref q1, .null, .null, .null, .null, .int 0]))] ++ [(q0, .inr (4, [.ref (u0 1)])), (u0 1, .inl (cI, 30, .inl (fun _ => 0)))]) ++ [(q1, .inr (4, [.ref (u1 1)])), (u1 1, .inl (cI, 30, .inl (fun _ => 0)))]) ++ [(q2, .inr (4, [.null]))]) := hD
  refine lv_dup hx hb dX2_init_34 rfl ?_
  refine lv_bipush (v := nI 30) hx hb dX2_init_35 (by decide) ?_
  have hts2 : ∀ w ∈ gWs yX4_init cX4_init 2 none, w.before _ s = true := fun w hw => (List.mem_cons.mp hw).elim (fun e => by rw [e]; exact hts _ q_co_X4_init) (hts w)
  have hFc := g_freeLast hD hS hA
  refine va_callv (A1 := va_A [(q2, .inr (4, [.null]))] H.size) (va_runI (As := [.int (nI 30)]) (rest := [.ref q2, .ref h0]) ⟨hx, hb, hml, hown, hts⟩ (ccX4_init l D cI cP B q2 H.size 30 (by decide)) (cwI 1 hts2 (gGood (n := 2) (r := none) q_co_X4_init) rfl rfl rfl (hts _ q_in_X4) (hts _ q_ml_X2_11) (hts _ q_im_X4_init) rfl (by decide +kernel) ⟨Nat.le_of_ble_eq_true rfl, Nat.le_of_ble_eq_true rfl⟩) ⟨cPre_blind, fun U hU hW => ⟨rfl, by rw [hU], by rw [hU]; exact g_lastP hP, va_K.moved hW.alike (hK.sub (tys' := [(cI, .int), (cP, .object "TaskSheets$Plan")]) [0, 1] rfl), g_lastD hD hAB, Nat.le_trans hBs hS.1, by rw [hU]; exact hZ.go (hS.wide hAB) hW, va_AO.moved hW.alike hAO⟩⟩ rfl rfl hl.1 rfl (lv_room (Nat.le_of_ble_eq_true rfl)) dX2_init_37 ⟨Nat.le_of_ble_eq_true rfl, Nat.le_of_ble_eq_true rfl⟩) hS (fun q _ h => hFc q h) hFc (fun u2 t H1 locs1 ht hvm hw hB hz1 hk1 hS => ?_)
  obtain ⟨hP1, hD1⟩ := hB
  rw [ht] at hP1
  obtain ⟨hP, hD⟩ := g_joinLast (w1 := [(q2, .inr (4, [.ref (u2 1)])), (u2 1, .inl (cI, 30, .inl (fun _ => 0)))]) hP hD hk1 hFc hP1 hD1
  generalize H1 = H at hP hS ⊢
  have hP : va_P D vwCl ((([(h0, .inr (2, [.ref q0, .ref q1, .null, .null, .null, .null, .int 0]))] ++ [(q0, .inr (4, [.ref (u0 1)])), (u0 1, .inl (cI, 30, .inl (fun _ => 0)))]) ++ [(q1, .inr (4, [.ref (u1 1)])), (u1 1, .inl (cI, 30, .inl (fun _ => 0)))]) ++ [(q2, .inr (4, [.ref (u2 1)])), (u2 1, .inl (cI, 30, .inl (fun _ => 0)))]) H := hP
  have hD : va_D A ((([(h0, .inr (2, [.ref q0, .ref q1, .null, .null, .null, .null, .int 0]))] ++ [(q0, .inr (4, [.ref (u0 1)])), (u0 1, .inl (cI, 30, .inl (fun _ => 0)))]) ++ [(q1, .inr (4, [.ref (u1 1)])), (u1 1, .inl (cI, 30, .inl (fun _ => 0)))]) ++ [(q2, .inr (4, [.ref (u2 1)])), (u2 1, .inl (cI, 30, .inl (fun _ => 0)))]) := hD
  refine va_putF (D := D) (ci := 2) (v := .ref q2) (ty := .object "TaskSheets$Numbers") (C := RX2) (T := TX2) (N := 7) hx hb hts q_ws_X2 tyX2 tyX2_ok nmX2 hown hK hP hD hS 0 rfl rfl 2 (by decide) (hts _ q_fl_X2_23) (fun _ h9 => h9) rfl hin rfl (by decide +kernel) rfl rfl (Nat.le_of_ble_eq_true rfl) dX2_init_40 (fun H locs hP hD hS => ?_)
  have hP : va_P D vwCl ((([(h0, .inr (2, [.ref q0, .ref q1, .ref q2, .null, .null, .null, .int 0]))] ++ [(q0, .inr (4, [.ref (u0 1)])), (u0 1, .inl (cI, 30, .inl (fun _ => 0)))]) ++ [(q1, .inr (4, [.ref (u1 1)])), (u1 1, .inl (cI, 30, .inl (fun _ => 0)))]) ++ [(q2, .inr (4, [.ref (u2 1)])), (u2 1, .inl (cI, 30, .inl (fun _ => 0)))]) H := hP
  have hD : va_D A ((([(h0, .inr (2, [.ref q0, .ref q1, .ref q2, .null, .null, .null, .int 0]))] ++ [(q0, .inr (4, [.ref (u0 1)])), (u0 1, .inl (cI, 30, .inl (fun _ => 0)))]) ++ [(q1, .inr (4, [.ref (u1 1)])), (u1 1, .inl (cI, 30, .inl (fun _ => 0)))]) ++ [(q2, .inr (4, [.ref (u2 1)])), (u2 1, .inl (cI, 30, .inl (fun _ => 0)))]) := hD
  refine lv_aload_n hx hb dX2_init_43 rfl (lv_at hl 0 rfl) ?_
  refine va_new (ci := 4) (fs := [.null]) (C := RX4) (T := TX4) (N := 1) hx hb hts q_ws_X4 tyX4 tyX4_ok hown (hts _ q_cl_X2_9) (hts _ q_ia_X4) (hts _ q_in_X4) hK hP hD hS hA rfl (fun j hj => by rcases (show j = 0 by omega) with rfl <;> rfl) (Nat.le_of_ble_eq_true rfl) (Nat.le_of_ble_eq_true rfl) dX2_init_44 (fun q3 H hP hD hS => ?_)
  have hP : va_P D vwCl (((([(h0, .inr (2, [.ref q0, .ref q1, .ref q2, .null, .null, .null, .int 0]))] ++ [(q0, .inr (4, [.ref (u0 1)])), (u0 1, .inl (cI, 30, .inl (fun _ => 0)))]) ++ [(q1, .inr (4, [.ref (u1 1)])), (u1 1, .inl (cI, 30, .inl (fun _ => 0)))]) ++ [(q2, .inr (4, [.ref (u2 1)])), (u2 1, .inl (cI, 30, .inl (fun _ => 0)))]) ++ [(q3, .inr (4, [.null]))]) H := hP
  have hD : va_D A (((([(h0, .inr (2, [.ref q0, .ref q1, .ref q2, .null, .null, .null, .int 0]))] ++ [(q0, .inr (4, [.ref (u0 1)])), (u0 1, .inl (cI, 30, .inl (fun _ => 0)))]) ++ [(q1, .inr (4, [.ref (u1 1)])), (u1 1, .inl (cI, 30, .inl (fun _ => 0)))]) ++ [(q2, .inr (4, [.ref (u2 1)])), (u2 1, .inl (cI, 30, .inl (fun _ => 0)))]) ++ [(q3, .inr (4, [.null]))]) := hD
  refine lv_dup hx hb dX2_init_47 rfl ?_
  refine lv_bipush (v := nI 31) hx hb dX2_init_48 (by decide) ?_
  have hts2 : ∀ w ∈ gWs yX4_init cX4_init 2 none, w.before _ s = true := fun w hw => (List.mem_cons.mp hw).elim (fun e => by rw [e]; exact hts _ q_co_X4_init) (hts w)
  have hFc := g_freeLast hD hS hA
  refine va_callv (A1 := va_A [(q3, .inr (4, [.null]))] H.size) (va_runI (As := [.int (nI 31)]) (rest := [.ref q3, .ref h0]) ⟨hx, hb, hml, hown, hts⟩ (ccX4_init l D cI cP B q3 H.size 31 (by decide)) (cwI 1 hts2 (gGood (n := 2) (r := none) q_co_X4_init) rfl rfl rfl (hts _ q_in_X4) (hts _ q_ml_X2_11) (hts _ q_im_X4_init) rfl (by decide +kernel) ⟨Nat.le_of_ble_eq_true rfl, Nat.le_of_ble_eq_true rfl⟩) ⟨cPre_blind, fun U hU hW => ⟨rfl, by rw [hU], by rw [hU]; exact g_lastP hP, va_K.moved hW.alike (hK.sub (tys' := [(cI, .int), (cP, .object "TaskSheets$Plan")]) [0, 1] rfl), g_lastD hD hAB, Nat.le_trans hBs hS.1, by rw [hU]; exact hZ.go (hS.wide hAB) hW, va_AO.moved hW.alike hAO⟩⟩ rfl rfl hl.1 rfl (lv_room (Nat.le_of_ble_eq_true rfl)) dX2_init_50 ⟨Nat.le_of_ble_eq_true rfl, Nat.le_of_ble_eq_true rfl⟩) hS (fun q _ h => hFc q h) hFc (fun u3 t H1 locs1 ht hvm hw hB hz1 hk1 hS => ?_)
  obtain ⟨hP1, hD1⟩ := hB
  rw [ht] at hP1
  obtain ⟨hP, hD⟩ := g_joinLast (w1 := [(q3, .inr (4, [.ref (u3 1)])), (u3 1, .inl (cI, 31, .inl (fun _ => 0)))]) hP hD hk1 hFc hP1 hD1
  generalize H1 = H at hP hS ⊢
  have hP : va_P D vwCl (((([(h0, .inr (2, [.ref q0, .ref q1, .ref q2, .null, .null, .null, .int 0]))] ++ [(q0, .inr (4, [.ref (u0 1)])), (u0 1, .inl (cI, 30, .inl (fun _ => 0)))]) ++ [(q1, .inr (4, [.ref (u1 1)])), (u1 1, .inl (cI, 30, .inl (fun _ => 0)))]) ++ [(q2, .inr (4, [.ref (u2 1)])), (u2 1, .inl (cI, 30, .inl (fun _ => 0)))]) ++ [(q3, .inr (4, [.ref (u3 1)])), (u3 1, .inl (cI, 31, .inl (fun _ => 0)))]) H := hP
  have hD : va_D A (((([(h0, .inr (2, [.ref q0, .ref q1, .ref q2, .null, .null, .null, .int 0]))] ++ [(q0, .inr (4, [.ref (u0 1)])), (u0 1, .inl (cI, 30, .inl (fun _ => 0)))]) ++ [(q1, .inr (4, [.ref (u1 1)])), (u1 1, .inl (cI, 30, .inl (fun _ => 0)))]) ++ [(q2, .inr (4, [.ref (u2 1)])), (u2 1, .inl (cI, 30, .inl (fun _ => 0)))]) ++ [(q3, .inr (4, [.ref (u3 1)])), (u3 1, .inl (cI, 31, .inl (fun _ => 0)))]) := hD
  refine va_putF (D := D) (ci := 2) (v := .ref q3) (ty := .object "TaskSheets$Numbers") (C := RX2) (T := TX2) (N := 7) hx hb hts q_ws_X2 tyX2 tyX2_ok nmX2 hown hK hP hD hS 0 rfl rfl 3 (by decide) (hts _ q_fl_X2_26) (fun _ h9 => h9) rfl hin rfl (by decide +kernel) rfl rfl (Nat.le_of_ble_eq_true rfl) dX2_init_53 (fun H locs hP hD hS => ?_)
  have hP : va_P D vwCl (((([(h0, .inr (2, [.ref q0, .ref q1, .ref q2, .ref q3, .null, .null, .int 0]))] ++ [(q0, .inr (4, [.ref (u0 1)])), (u0 1, .inl (cI, 30, .inl (fun _ => 0)))]) ++ [(q1, .inr (4, [.ref (u1 1)])), (u1 1, .inl (cI, 30, .inl (fun _ => 0)))]) ++ [(q2, .inr (4, [.ref (u2 1)])), (u2 1, .inl (cI, 30, .inl (fun _ => 0)))]) ++ [(q3, .inr (4, [.ref (u3 1)])), (u3 1, .inl (cI, 31, .inl (fun _ => 0)))]) H := hP
  have hD : va_D A (((([(h0, .inr (2, [.ref q0, .ref q1, .ref q2, .ref q3, .null, .null, .int 0]))] ++ [(q0, .inr (4, [.ref (u0 1)])), (u0 1, .inl (cI, 30, .inl (fun _ => 0)))]) ++ [(q1, .inr (4, [.ref (u1 1)])), (u1 1, .inl (cI, 30, .inl (fun _ => 0)))]) ++ [(q2, .inr (4, [.ref (u2 1)])), (u2 1, .inl (cI, 30, .inl (fun _ => 0)))]) ++ [(q3, .inr (4, [.ref (u3 1)])), (u3 1, .inl (cI, 31, .inl (fun _ => 0)))]) := hD
  refine lv_aload_n hx hb dX2_init_56 rfl (lv_at hl 0 rfl) ?_
  refine va_new (ci := 4) (fs := [.null]) (C := RX4) (T := TX4) (N := 1) hx hb hts q_ws_X4 tyX4 tyX4_ok hown (hts _ q_cl_X2_9) (hts _ q_ia_X4) (hts _ q_in_X4) hK hP hD hS hA rfl (fun j hj => by rcases (show j = 0 by omega) with rfl <;> rfl) (Nat.le_of_ble_eq_true rfl) (Nat.le_of_ble_eq_true rfl) dX2_init_57 (fun q4 H hP hD hS => ?_)
  have hP : va_P D vwCl ((((([(h0, .inr (2, [.ref q0, .ref q1, .ref q2, .ref q3, .null, .null, .int 0]))] ++ [(q0, .inr (4, [.ref (u0 1)])), (u0 1, .inl (cI, 30, .inl (fun _ => 0)))]) ++ [(q1, .inr (4, [.ref (u1 1)])), (u1 1, .inl (cI, 30, .inl (fun _ => 0)))]) ++ [(q2, .inr (4, [.ref (u2 1)])), (u2 1, .inl (cI, 30, .inl (fun _ => 0)))]) ++ [(q3, .inr (4, [.ref (u3 1)])), (u3 1, .inl (cI, 31, .inl (fun _ => 0)))]) ++ [(q4, .inr (4, [.null]))]) H := hP
  have hD : va_D A ((((([(h0, .inr (2, [.ref q0, .ref q1, .ref q2, .ref q3, .null, .null, .int 0]))] ++ [(q0, .inr (4, [.ref (u0 1)])), (u0 1, .inl (cI, 30, .inl (fun _ => 0)))]) ++ [(q1, .inr (4, [.ref (u1 1)])), (u1 1, .inl (cI, 30, .inl (fun _ => 0)))]) ++ [(q2, .inr (4, [.ref (u2 1)])), (u2 1, .inl (cI, 30, .inl (fun _ => 0)))]) ++ [(q3, .inr (4, [.ref (u3 1)])), (u3 1, .inl (cI, 31, .inl (fun _ => 0)))]) ++ [(q4, .inr (4, [.null]))]) := hD
  refine lv_dup hx hb dX2_init_60 rfl ?_
  refine lv_sipush (v := nI 312) hx hb dX2_init_61 (by decide) ?_
  have hts2 : ∀ w ∈ gWs yX4_init cX4_init 2 none, w.before _ s = true := fun w hw => (List.mem_cons.mp hw).elim (fun e => by rw [e]; exact hts _ q_co_X4_init) (hts w)
  have hFc := g_freeLast hD hS hA
  refine va_callv (A1 := va_A [(q4, .inr (4, [.null]))] H.size) (va_runI (As := [.int (nI 312)]) (rest := [.ref q4, .ref h0]) ⟨hx, hb, hml, hown, hts⟩ (ccX4_init l D cI cP B q4 H.size 312 (by decide)) (cwI 1 hts2 (gGood (n := 2) (r := none) q_co_X4_init) rfl rfl rfl (hts _ q_in_X4) (hts _ q_ml_X2_11) (hts _ q_im_X4_init) rfl (by decide +kernel) ⟨Nat.le_of_ble_eq_true rfl, Nat.le_of_ble_eq_true rfl⟩) ⟨cPre_blind, fun U hU hW => ⟨rfl, by rw [hU], by rw [hU]; exact g_lastP hP, va_K.moved hW.alike (hK.sub (tys' := [(cI, .int), (cP, .object "TaskSheets$Plan")]) [0, 1] rfl), g_lastD hD hAB, Nat.le_trans hBs hS.1, by rw [hU]; exact hZ.go (hS.wide hAB) hW, va_AO.moved hW.alike hAO⟩⟩ rfl rfl hl.1 rfl (lv_room (Nat.le_of_ble_eq_true rfl)) dX2_init_64 ⟨Nat.le_of_ble_eq_true rfl, Nat.le_of_ble_eq_true rfl⟩) hS (fun q _ h => hFc q h) hFc (fun u4 t H1 locs1 ht hvm hw hB hz1 hk1 hS => ?_)
  obtain ⟨hP1, hD1⟩ := hB
  rw [ht] at hP1
  obtain ⟨hP, hD⟩ := g_joinLast (w1 := [(q4, .inr (4, [.ref (u4 1)])), (u4 1, .inl (cI, 312, .inl (fun _ => 0)))]) hP hD hk1 hFc hP1 hD1
  generalize H1 = H at hP hS ⊢
  have hP : va_P D vwCl ((((([(h0, .inr (2, [.ref q0, .ref q1, .ref q2, .ref q3, .null, .null, .int 0]))] ++ [(q0, .inr (4, [.ref (u0 1)])), (u0 1, .inl (cI, 30, .inl (fun _ => 0)))]) ++ [(q1, .inr (4, [.ref (u1 1)])), (u1 1, .inl (cI, 30, .inl (fun _ => 0)))]) ++ [(q2, .inr (4, [.ref (u2 1)])), (u2 1, .inl (cI, 30, .inl (fun _ => 0)))]) ++ [(q3, .inr (4, [.ref (u3 1)])), (u3 1, .inl (cI, 31, .inl (fun _ => 0)))]) ++ [(q4, .inr (4, [.ref (u4 1)])), (u4 1, .inl (cI, 312, .inl (fun _ => 0)))]) H := hP
  have hD : va_D A ((((([(h0, .inr (2, [.ref q0, .ref q1, .ref q2, .ref q3, .null, .null, .int 0]))] ++ [(q0, .inr (4, [.ref (u0 1)])), (u0 1, .inl (cI, 30, .inl (fun _ => 0)))]) ++ [(q1, .inr (4, [.ref (u1 1)])), (u1 1, .inl (cI, 30, .inl (fun _ => 0)))]) ++ [(q2, .inr (4, [.ref (u2 1)])), (u2 1, .inl (cI, 30, .inl (fun _ => 0)))]) ++ [(q3, .inr (4, [.ref (u3 1)])), (u3 1, .inl (cI, 31, .inl (fun _ => 0)))]) ++ [(q4, .inr (4, [.ref (u4 1)])), (u4 1, .inl (cI, 312, .inl (fun _ => 0)))]) := hD
  refine va_putF (D := D) (ci := 2) (v := .ref q4) (ty := .object "TaskSheets$Numbers") (C := RX2) (T := TX2) (N := 7) hx hb hts q_ws_X2 tyX2 tyX2_ok nmX2 hown hK hP hD hS 0 rfl rfl 4 (by decide) (hts _ q_fl_X2_29) (fun _ h9 => h9) rfl hin rfl (by decide +kernel) rfl rfl (Nat.le_of_ble_eq_true rfl) dX2_init_67 (fun H locs hP hD hS => ?_)
  have hP : va_P D vwCl ((((([(h0, .inr (2, [.ref q0, .ref q1, .ref q2, .ref q3, .ref q4, .null, .int 0]))] ++ [(q0, .inr (4, [.ref (u0 1)])), (u0 1, .inl (cI, 30, .inl (fun _ => 0)))]) ++ [(q1, .inr (4, [.ref (u1 1)])), (u1 1, .inl (cI, 30, .inl (fun _ => 0)))]) ++ [(q2, .inr (4, [.ref (u2 1)])), (u2 1, .inl (cI, 30, .inl (fun _ => 0)))]) ++ [(q3, .inr (4, [.ref (u3 1)])), (u3 1, .inl (cI, 31, .inl (fun _ => 0)))]) ++ [(q4, .inr (4, [.ref (u4 1)])), (u4 1, .inl (cI, 312, .inl (fun _ => 0)))]) H := hP
  have hD : va_D A ((((([(h0, .inr (2, [.ref q0, .ref q1, .ref q2, .ref q3, .ref q4, .null, .int 0]))] ++ [(q0, .inr (4, [.ref (u0 1)])), (u0 1, .inl (cI, 30, .inl (fun _ => 0)))]) ++ [(q1, .inr (4, [.ref (u1 1)])), (u1 1, .inl (cI, 30, .inl (fun _ => 0)))]) ++ [(q2, .inr (4, [.ref (u2 1)])), (u2 1, .inl (cI, 30, .inl (fun _ => 0)))]) ++ [(q3, .inr (4, [.ref (u3 1)])), (u3 1, .inl (cI, 31, .inl (fun _ => 0)))]) ++ [(q4, .inr (4, [.ref (u4 1)])), (u4 1, .inl (cI, 312, .inl (fun _ => 0)))]) := hD
  refine lv_aload_n hx hb dX2_init_70 rfl (lv_at hl 0 rfl) ?_
  refine va_new (ci := 4) (fs := [.null]) (C := RX4) (T := TX4) (N := 1) hx hb hts q_ws_X4 tyX4 tyX4_ok hown (hts _ q_cl_X2_9) (hts _ q_ia_X4) (hts _ q_in_X4) hK hP hD hS hA rfl (fun j hj => by rcases (show j = 0 by omega) with rfl <;> rfl) (Nat.le_of_ble_eq_true rfl) (Nat.le_of_ble_eq_true rfl) dX2_init_71 (fun q5 H hP hD hS => ?_)
  have hP : va_P D vwCl (((((([(h0, .inr (2, [.ref q0, .ref q1, .ref q2, .ref q3, .ref q4, .null, .int 0]))] ++ [(q0, .inr (4, [.ref (u0 1)])), (u0 1, .inl (cI, 30, .inl (fun _ => 0)))]) ++ [(q1, .inr (4, [.ref (u1 1)])), (u1 1, .inl (cI, 30, .inl (fun _ => 0)))]) ++ [(q2, .inr (4, [.ref (u2 1)])), (u2 1, .inl (cI, 30, .inl (fun _ => 0)))]) ++ [(q3, .inr (4, [.ref (u3 1)])), (u3 1, .inl (cI, 31, .inl (fun _ => 0)))]) ++ [(q4, .inr (4, [.ref (u4 1)])), (u4 1, .inl (cI, 312, .inl (fun _ => 0)))]) ++ [(q5, .inr (4, [.null]))]) H := hP
  have hD : va_D A (((((([(h0, .inr (2, [.ref q0, .ref q1, .ref q2, .ref q3, .ref q4, .null, .int 0]))] ++ [(q0, .inr (4, [.ref (u0 1)])), (u0 1, .inl (cI, 30, .inl (fun _ => 0)))]) ++ [(q1, .inr (4, [.ref (u1 1)])), (u1 1, .inl (cI, 30, .inl (fun _ => 0)))]) ++ [(q2, .inr (4, [.ref (u2 1)])), (u2 1, .inl (cI, 30, .inl (fun _ => 0)))]) ++ [(q3, .inr (4, [.ref (u3 1)])), (u3 1, .inl (cI, 31, .inl (fun _ => 0)))]) ++ [(q4, .inr (4, [.ref (u4 1)])), (u4 1, .inl (cI, 312, .inl (fun _ => 0)))]) ++ [(q5, .inr (4, [.null]))]) := hD
  refine lv_dup hx hb dX2_init_74 rfl ?_
  refine lv_sipush (v := nI 312) hx hb dX2_init_75 (by decide) ?_
  have hts2 : ∀ w ∈ gWs yX4_init cX4_init 2 none, w.before _ s = true := fun w hw => (List.mem_cons.mp hw).elim (fun e => by rw [e]; exact hts _ q_co_X4_init) (hts w)
  have hFc := g_freeLast hD hS hA
  refine va_callv (A1 := va_A [(q5, .inr (4, [.null]))] H.size) (va_runI (As := [.int (nI 312)]) (rest := [.ref q5, .ref h0]) ⟨hx, hb, hml, hown, hts⟩ (ccX4_init l D cI cP B q5 H.size 312 (by decide)) (cwI 1 hts2 (gGood (n := 2) (r := none) q_co_X4_init) rfl rfl rfl (hts _ q_in_X4) (hts _ q_ml_X2_11) (hts _ q_im_X4_init) rfl (by decide +kernel) ⟨Nat.le_of_ble_eq_true rfl, Nat.le_of_ble_eq_true rfl⟩) ⟨cPre_blind, fun U hU hW => ⟨rfl, by rw [hU], by rw [hU]; exact g_lastP hP, va_K.moved hW.alike (hK.sub (tys' := [(cI, .int), (cP, .object "TaskSheets$Plan")]) [0, 1] rfl), g_lastD hD hAB, Nat.le_trans hBs hS.1, by rw [hU]; exact hZ.go (hS.wide hAB) hW, va_AO.moved hW.alike hAO⟩⟩ rfl rfl hl.1 rfl (lv_room (Nat.le_of_ble_eq_true rfl)) dX2_init_78 ⟨Nat.le_of_ble_eq_true rfl, Nat.le_of_ble_eq_true rfl⟩) hS (fun q _ h => hFc q h) hFc (fun u5 t H1 locs1 ht hvm hw hB hz1 hk1 hS => ?_)
  obtain ⟨hP1, hD1⟩ := hB
  rw [ht] at hP1
  obtain ⟨hP, hD⟩ := g_joinLast (w1 := [(q5, .inr (4, [.ref (u5 1)])), (u5 1, .inl (cI, 312, .inl (fun _ => 0)))]) hP hD hk1 hFc hP1 hD1
  generalize H1 = H at hP hS ⊢
  have hP : va_P D vwCl (((((([(h0, .inr (2, [.ref q0, .ref q1, .ref q2, .ref q3, .ref q4, .null, .int 0]))] ++ [(q0, .inr (4, [.ref (u0 1)])), (u0 1, .inl (cI, 30, .inl (fun _ => 0)))]) ++ [(q1, .inr (4, [.ref (u1 1)])), (u1 1, .inl (cI, 30, .inl (fun _ => 0)))]) ++ [(q2, .inr (4, [.ref (u2 1)])), (u2 1, .inl (cI, 30, .inl (fun _ => 0)))]) ++ [(q3, .inr (4, [.ref (u3 1)])), (u3 1, .inl (cI, 31, .inl (fun _ => 0)))]) ++ [(q4, .inr (4, [.ref (u4 1)])), (u4 1, .inl (cI, 312, .inl (fun _ => 0)))]) ++ [(q5, .inr (4, [.ref (u5 1)])), (u5 1, .inl (cI, 312, .inl (fun _ => 0)))]) H := hP
  have hD : va_D A (((((([(h0, .inr (2, [.ref q0, .ref q1, .ref q2, .ref q3, .ref q4, .null, .int 0]))] ++ [(q0, .inr (4, [.ref (u0 1)])), (u0 1, .inl (cI, 30, .inl (fun _ => 0)))]) ++ [(q1, .inr (4, [.ref (u1 1)])), (u1 1, .inl (cI, 30, .inl (fun _ => 0)))]) ++ [(q2, .inr (4, [.ref (u2 1)])), (u2 1, .inl (cI, 30, .inl (fun _ => 0)))]) ++ [(q3, .inr (4, [.ref (u3 1)])), (u3 1, .inl (cI, 31, .inl (fun _ => 0)))]) ++ [(q4, .inr (4, [.ref (u4 1)])), (u4 1, .inl (cI, 312, .inl (fun _ => 0)))]) ++ [(q5, .inr (4, [.ref (u5 1)])), (u5 1, .inl (cI, 312, .inl (fun _ => 0)))]) := hD
  refine va_putF (D := D) (ci := 2) (v := .ref q5) (ty := .object "TaskSheets$Numbers") (C := RX2) (T := TX2) (N := 7) hx hb hts q_ws_X2 tyX2 tyX2_ok nmX2 hown hK hP hD hS 0 rfl rfl 5 (by decide) (hts _ q_fl_X2_32) (fun _ h9 => h9) rfl hin rfl (by decide +kernel) rfl rfl (Nat.le_of_ble_eq_true rfl) dX2_init_81 (fun H locs hP hD hS => ?_)
  have hP : va_P D vwCl (((((([(h0, .inr (2, [.ref q0, .ref q1, .ref q2, .ref q3, .ref q4, .ref q5, .int 0]))] ++ [(q0, .inr (4, [.ref (u0 1)])), (u0 1, .inl (cI, 30, .inl (fun _ => 0)))]) ++ [(q1, .inr (4, [.ref (u1 1)])), (u1 1, .inl (cI, 30, .inl (fun _ => 0)))]) ++ [(q2, .inr (4, [.ref (u2 1)])), (u2 1, .inl (cI, 30, .inl (fun _ => 0)))]) ++ [(q3, .inr (4, [.ref (u3 1)])), (u3 1, .inl (cI, 31, .inl (fun _ => 0)))]) ++ [(q4, .inr (4, [.ref (u4 1)])), (u4 1, .inl (cI, 312, .inl (fun _ => 0)))]) ++ [(q5, .inr (4, [.ref (u5 1)])), (u5 1, .inl (cI, 312, .inl (fun _ => 0)))]) H := hP
  have hD : va_D A (((((([(h0, .inr (2, [.ref q0, .ref q1, .ref q2, .ref q3, .ref q4, .ref q5, .int 0]))] ++ [(q0, .inr (4, [.ref (u0 1)])), (u0 1, .inl (cI, 30, .inl (fun _ => 0)))]) ++ [(q1, .inr (4, [.ref (u1 1)])), (u1 1, .inl (cI, 30, .inl (fun _ => 0)))]) ++ [(q2, .inr (4, [.ref (u2 1)])), (u2 1, .inl (cI, 30, .inl (fun _ => 0)))]) ++ [(q3, .inr (4, [.ref (u3 1)])), (u3 1, .inl (cI, 31, .inl (fun _ => 0)))]) ++ [(q4, .inr (4, [.ref (u4 1)])), (u4 1, .inl (cI, 312, .inl (fun _ => 0)))]) ++ [(q5, .inr (4, [.ref (u5 1)])), (u5 1, .inl (cI, 312, .inl (fun _ => 0)))]) := hD
  have hP9 : va_P D vwCl (wExits cI h0 (fun i => ([h0, q0, u0 1, q1, u1 1, q2, u2 1, q3, u3 1, q4, u4 1, q5, u5 1] : List Nat).getD i 0)) H := hP
  have hD9 : va_D A (wExits cI h0 (fun i => ([h0, q0, u0 1, q1, u1 1, q2, u2 1, q3, u3 1, q4, u4 1, q5, u5 1] : List Nat).getD i 0)) := hD
  refine W.widen (k := 12) (n := 751) (Nat.le_of_ble_eq_true rfl) (Nat.le_of_ble_eq_true rfl) ?_
  subst hAe
  exact W.vret hx hb hr (fun t ht hW => ⟨⟨(fun i => ([h0, q0, u0 1, q1, u1 1, q2, u2 1, q3, u3 1, q4, u4 1, q5, u5 1] : List Nat).getD i 0), rfl, trivial, by rw [ht]; exact hP9, hD9⟩, hS.F ht⟩) hS.2.2 dX2_init_84
def wSheets (cI : ClassId) (h0 : Nat) (u : Nat → Nat) : va_W := [(h0, .inr (6, [.ref (u 1), .ref (u 3), .ref (u 5), .ref (u 7), .int 0])), (u 1, .inr (4, [.ref (u 2)])), (u 2, .inl (cI, 1248, .inl (fun _ => 0))), (u 3, .inr (4, [.ref (u 4)])), (u 4, .inl (cI, 1248, .inl (fun _ => 0))), (u 5, .inr (4, [.ref (u 6)])), (u 6, .inl (cI, 312, .inl (fun _ => 0))), (u 7, .inr (4, [.ref (u 8)])), (u 8, .inl (cI, 312, .inl (fun _ => 0)))]
set_option maxHeartbeats 8000000 in
set_option maxRecDepth 100000 in
theorem ccX6_init (l : Launch) (D : va_G) (cI cP : ClassId) (B h0 sz : Nat) : Met l yX6_init (gWs yX6_init cX6_init 1 none) ({ frames := 2, cells := 8, slots := 3124, locals := 41 } : Room) (cPre D cI cP B [.ref h0] [(h0, .inr (6, [.null, .null, .null, .null, .int 0]))] sz) (cPost D (wSheets cI h0) [(h0, .inr (6, [.null, .null, .null, .null, .int 0]))] sz) 8 3124 (va_A [(h0, .inr (6, [.null, .null, .null, .null, .int 0]))] sz) := by
  refine Met.ofW (cc := cX6_init) (maxL := 1) (ret := none) (by decide) rfl ?_
  intro p e s m args below meth c s₁ B0 hml hv
  obtain ⟨rfl, hsz, hP, hK, hD0, hBs, hZ, hAO⟩ := hv
  have hx := B0.exec
  have hb := B0.bytes
  have hr := B0.returns
  have hts0 := atoms_spec (ws := gWs yX6_init cX6_init 1 none) B0.pre
  have hts : ∀ w ∈ gLW, w.before _ s = true := fun w hw => hts0 w (List.mem_cons_of_mem _ hw)
  have hown : s.vm.findClass RX6 = some m.cls := findClass_of_methodNamed B0.named
  have hlocks := B0.notSynchronized
  have hin : meth.name = "<init>" := (name_of_methodNamed B0.named B0.method).1
  subst hsz
  have hD := hD0.self (sz := s.heap.size)
  have hAB0 : ∀ q : Nat, va_A [(h0, .inr (6, [.null, .null, .null, .null, .int 0]))] s.heap.size q → B ≤ q := fun q h => by
    rcases h with ⟨k, e9, h⟩ | h
    · exact hD0.2 k _ h
    · exact Nat.le_trans hBs h
  generalize hAe : va_A [(h0, .inr (6, [.null, .null, .null, .null, .int 0]))] s.heap.size = A at hD hAB0 ⊢
  have hAB : ∀ q : Nat, A q → B ≤ q := hAB0
  have hA : ∀ q : Nat, s.heap.size ≤ q → A q := fun q h => by rw [← hAe]; exact Or.inr h
  have hS : va_S A s.heap s.heap [] := va_S.rf
  have hl := lv_entry ([.ref h0]) (n := 1) (Nat.le_of_ble_eq_true rfl)
  rw [lg_entry_eq]
  generalize (lg_sl ([.ref h0]) ++ List.replicate (1 - (lg_sl ([.ref h0])).length) Slot.unset).toArray = ls at hl ⊢
  have hl : lv_has ls 1 [(0, .ref h0)] := hl
  obtain ⟨tI, hZI, hTI⟩ := hZ.1 ("INITIAL", [8, 20, 1, 0]) (by decide +kernel)
  have hZI := hZI.narrow hAB
  have hTI := hTI.narrow hAB
  refine lv_aload_n hx hb dX6_init_0 rfl (lv_at hl 0 rfl) ?_
  refine W.objInit hx hb hown (hts _ q_ml_X6_3) (hts _ q_im_obj) (hts _ q_co_obj) rfl (by rw [hml]; exact hl.1) rfl dX6_init_1 (Nat.le_of_ble_eq_true rfl) (Nat.le_of_ble_eq_true rfl) ?_
  refine W.eq (g2 := F0 m 4 ls []) rfl ?_
  refine lv_aload_n hx hb dX6_init_4 rfl (lv_at hl 0 rfl) ?_
  refine va_new (ci := 4) (fs := [.null]) (C := RX4) (T := TX4) (N := 1) hx hb hts q_ws_X4 tyX4 tyX4_ok hown (hts _ q_cl_X6_9) (hts _ q_ia_X4) (hts _ q_in_X4) hK hP hD hS hA rfl (fun j hj => by rcases (show j = 0 by omega) with rfl <;> rfl) (Nat.le_of_ble_eq_true rfl) (Nat.le_of_ble_eq_true rfl) dX6_init_5 (fun q0 H hP hD hS => ?_)
  have hP : va_P D vwCl ([(h0, .inr (6, [.null, .null, .null, .null, .int 0]))] ++ [(q0, .inr (4, [.null]))]) H := hP
  have hD : va_D A ([(h0, .inr (6, [.null, .null, .null, .null, .int 0]))] ++ [(q0, .inr (4, [.null]))]) := hD
  refine lv_dup hx hb dX6_init_8 rfl ?_
  refine lv_sipush (v := nI 1248) hx hb dX6_init_9 (by decide) ?_
  have hts2 : ∀ w ∈ gWs yX4_init cX4_init 2 none, w.before _ s = true := fun w hw => (List.mem_cons.mp hw).elim (fun e => by rw [e]; exact hts _ q_co_X4_init) (hts w)
  have hFc := g_freeLast hD hS hA
  refine va_callv (A1 := va_A [(q0, .inr (4, [.null]))] H.size) (va_runI (As := [.int (nI 1248)]) (rest := [.ref q0, .ref h0]) ⟨hx, hb, hml, hown, hts⟩ (ccX4_init l D cI cP B q0 H.size 1248 (by decide)) (cwI 1 hts2 (gGood (n := 2) (r := none) q_co_X4_init) rfl rfl rfl (hts _ q_in_X4) (hts _ q_ml_X6_11) (hts _ q_im_X4_init) rfl (by decide +kernel) ⟨Nat.le_of_ble_eq_true rfl, Nat.le_of_ble_eq_true rfl⟩) ⟨cPre_blind, fun U hU hW => ⟨rfl, by rw [hU], by rw [hU]; exact g_lastP hP, va_K.moved hW.alike (hK.sub (tys' := [(cI, .int), (cP, .object "TaskSheets$Plan")]) [0, 1] rfl), g_lastD hD hAB, Nat.le_trans hBs hS.1, by rw [hU]; exact hZ.go (hS.wide hAB) hW, va_AO.moved hW.alike hAO⟩⟩ rfl rfl hl.1 rfl (lv_room (Nat.le_of_ble_eq_true rfl)) dX6_init_12 ⟨Nat.le_of_ble_eq_true rfl, Nat.le_of_ble_eq_true rfl⟩) hS (fun q _ h => hFc q h) hFc (fun u0 t H1 locs1 ht hvm hw hB hz1 hk1 hS => ?_)
  obtain ⟨hP1, hD1⟩ := hB
  rw [ht] at hP1
  obtain ⟨hP, hD⟩ := g_joinLast (w1 := [(q0, .inr (4, [.ref (u0 1)])), (u0 1, .inl (cI, 1248, .inl (fun _ => 0)))]) hP hD hk1 hFc hP1 hD1
  generalize H1 = H at hP hS ⊢
  have hP : va_P D vwCl ([(h0, .inr (6, [.null, .null, .null, .null, .int 0]))] ++ [(q0, .inr (4, [.ref (u0 1)])), (u0 1, .inl (cI, 1248, .inl (fun _ => 0)))]) H := hP
  have hD : va_D A ([(h0, .inr (6, [.null, .null, .null, .null, .int 0]))] ++ [(q0, .inr (4, [.ref (u0 1)])), (u0 1, .inl (cI, 1248, .inl (fun _ => 0)))]) := hD
  refine va_putF (D := D) (ci := 6) (v := .ref q0) (ty := .object "TaskSheets$Numbers") (C := RX6) (T := TX6) (N := 5) hx hb hts q_ws_X6 tyX6 tyX6_ok nmX6 hown hK hP hD hS 0 rfl rfl 0 (by decide) (hts _ q_fl_X6_14) (fun _ h9 => h9) rfl hin rfl (by decide +kernel) rfl rfl (Nat.le_of_ble_eq_true rfl) dX6_init_15 (fun H locs hP hD hS => ?_)
  have hP : va_P D vwCl ([(h0, .inr (6, [.ref q0, .null, .null, .null, .int 0]))] ++ [(q0, .inr (4, [.ref (u0 1)])), (u0 1, .inl (cI, 1248, .inl (fun _ => 0)))]) H := hP
  have hD : va_D A ([(h0, .inr (6, [.ref q0, .null, .null, .null, .int 0]))] ++ [(q0, .inr (4, [.ref (u0 1)])), (u0 1, .inl (cI, 1248, .inl (fun _ => 0)))]) := hD
  refine lv_aload_n hx hb dX6_init_18 rfl (lv_at hl 0 rfl) ?_
  refine va_new (ci := 4) (fs := [.null]) (C := RX4) (T := TX4) (N := 1) hx hb hts q_ws_X4 tyX4 tyX4_ok hown (hts _ q_cl_X6_9) (hts _ q_ia_X4) (hts _ q_in_X4) hK hP hD hS hA rfl (fun j hj => by rcases (show j = 0 by omega) with rfl <;> rfl) (Nat.le_of_ble_eq_true rfl) (Nat.le_of_ble_eq_true rfl) dX6_init_19 (fun q1 H hP hD hS => ?_)
  have hP : va_P D vwCl (([(h0, .inr (6, [.ref q0, .null, .null, .null, .int 0]))] ++ [(q0, .inr (4, [.ref (u0 1)])), (u0 1, .inl (cI, 1248, .inl (fun _ => 0)))]) ++ [(q1, .inr (4, [.null]))]) H := hP
  have hD : va_D A (([(h0, .inr (6, [.ref q0, .null, .null, .null, .int 0]))] ++ [(q0, .inr (4, [.ref (u0 1)])), (u0 1, .inl (cI, 1248, .inl (fun _ => 0)))]) ++ [(q1, .inr (4, [.null]))]) := hD
  refine lv_dup hx hb dX6_init_22 rfl ?_
  refine lv_sipush (v := nI 1248) hx hb dX6_init_23 (by decide) ?_
  have hts2 : ∀ w ∈ gWs yX4_init cX4_init 2 none, w.before _ s = true := fun w hw => (List.mem_cons.mp hw).elim (fun e => by rw [e]; exact hts _ q_co_X4_init) (hts w)
  have hFc := g_freeLast hD hS hA
  refine va_callv (A1 := va_A [(q1, .inr (4, [.null]))] H.size) (va_runI (As := [.int (nI 1248)]) (rest := [.ref q1, .ref h0]) ⟨hx, hb, hml, hown, hts⟩ (ccX4_init l D cI cP B q1 H.size 1248 (by decide)) (cwI 1 hts2 (gGood (n := 2) (r := none) q_co_X4_init) rfl rfl rfl (hts _ q_in_X4) (hts _ q_ml_X6_11) (hts _ q_im_X4_init) rfl (by decide +kernel) ⟨Nat.le_of_ble_eq_true rfl, Nat.le_of_ble_eq_true rfl⟩) ⟨cPre_blind, fun U hU hW => ⟨rfl, by rw [hU], by rw [hU]; exact g_lastP hP, va_K.moved hW.alike (hK.sub (tys' := [(cI, .int), (cP, .object "TaskSheets$Plan")]) [0, 1] rfl), g_lastD hD hAB, Nat.le_trans hBs hS.1, by rw [hU]; exact hZ.go (hS.wide hAB) hW, va_AO.moved hW.alike hAO⟩⟩ rfl rfl hl.1 rfl (lv_room (Nat.le_of_ble_eq_true rfl)) dX6_init_26 ⟨Nat.le_of_ble_eq_true rfl, Nat.le_of_ble_eq_true rfl⟩) hS (fun q _ h => hFc q h) hFc (fun u1 t H1 locs1 ht hvm hw hB hz1 hk1 hS => ?_)
  obtain ⟨hP1, hD1⟩ := hB
  rw [ht] at hP1
  obtain ⟨hP, hD⟩ := g_joinLast (w1 := [(q1, .inr (4, [.ref (u1 1)])), (u1 1, .inl (cI, 1248, .inl (fun _ => 0)))]) hP hD hk1 hFc hP1 hD1
  generalize H1 = H at hP hS ⊢
  have hP : va_P D vwCl (([(h0, .inr (6, [.ref q0, .null, .null, .null, .int 0]))] ++ [(q0, .inr (4, [.ref (u0 1)])), (u0 1, .inl (cI, 1248, .inl (fun _ => 0)))]) ++ [(q1, .inr (4, [.ref (u1 1)])), (u1 1, .inl (cI, 1248, .inl (fun _ => 0)))]) H := hP
  have hD : va_D A (([(h0, .inr (6, [.ref q0, .null, .null, .null, .int 0]))] ++ [(q0, .inr (4, [.ref (u0 1)])), (u0 1, .inl (cI, 1248, .inl (fun _ => 0)))]) ++ [(q1, .inr (4, [.ref (u1 1)])), (u1 1, .inl (cI, 1248, .inl (fun _ => 0)))]) := hD
  refine va_putF (D := D) (ci := 6) (v := .ref q1) (ty := .object "TaskSheets$Numbers") (C := RX6) (T := TX6) (N := 5) hx hb hts q_ws_X6 tyX6 tyX6_ok nmX6 hown hK hP hD hS 0 rfl rfl 1 (by decide) (hts _ q_fl_X6_20) (fun _ h9 => h9) rfl hin rfl (by decide +kernel) rfl rfl (Nat.le_of_ble_eq_true rfl) dX6_init_29 (fun H locs hP hD hS => ?_)
  have hP : va_P D vwCl (([(h0, .inr (6, [.ref q0, .ref q1, .null, .null, .int 0]))] ++ [(q0, .inr (4, [.ref (u0 1)])), (u0 1, .inl (cI, 1248, .inl (fun _ => 0)))]) ++ [(q1, .inr (4, [.ref (u1 1)])), (u1 1, .inl (cI, 1248, .inl (fun _ => 0)))]) H := hP
  have hD : va_D A (([(h0, .inr (6, [.ref q0, .ref q1, .null, .null, .int 0]))] ++ [(q0, .inr (4, [.ref (u0 1)])), (u0 1, .inl (cI, 1248, .inl (fun _ => 0)))]) ++ [(q1, .inr (4, [.ref (u1 1)])), (u1 1, .inl (cI, 1248, .inl (fun _ => 0)))]) := hD
  refine lv_aload_n hx hb dX6_init_32 rfl (lv_at hl 0 rfl) ?_
  refine va_new (ci := 4) (fs := [.null]) (C := RX4) (T := TX4) (N := 1) hx hb hts q_ws_X4 tyX4 tyX4_ok hown (hts _ q_cl_X6_9) (hts _ q_ia_X4) (hts _ q_in_X4) hK hP hD hS hA rfl (fun j hj => by rcases (show j = 0 by omega) with rfl <;> rfl) (Nat.le_of_ble_eq_true rfl) (Nat.le_of_ble_eq_true rfl) dX6_init_33 (fun q2 H hP hD hS => ?_)
  have hP : va_P D vwCl ((([(h0, .inr (6, [.ref q0, .ref q1, .null, .null, .int 0]))] ++ [(q0, .inr (4, [.ref (u0 1)])), (u0 1, .inl (cI, 1248, .inl (fun _ => 0)))]) ++ [(q1, .inr (4, [.ref (u1 1)])), (u1 1, .inl (cI, 1248, .inl (fun _ => 0)))]) ++ [(q2, .inr (4, [.null]))]) H := hP
  have hD : va_D A ((([(h0, .inr (6, [.ref q0, .ref q1, .null, .null, .int 0]))] ++ [(q0, .inr (4, [.ref (u0 1)])), (u0 1, .inl (cI, 1248, .inl (fun _ => 0)))]) ++ [(q1, .inr (4, [.ref (u1 1)])), (u1 1, .inl (cI, 1248, .inl (fun _ => 0)))]) ++ [(q2, .inr (4, [.null]))]) := hD
  refine lv_dup hx hb dX6_init_36 rfl ?_
  refine lv_sipush (v := nI 312) hx hb dX6_init_37 (by decide) ?_
  have hts2 : ∀ w ∈ gWs yX4_init cX4_init 2 none, w.before _ s = true := fun w hw => (List.mem_cons.mp hw).elim (fun e => by rw [e]; exact hts _ q_co_X4_init) (hts w)
  have hFc := g_freeLast hD hS hA
  refine va_callv (A1 := va_A [(q2, .inr (4, [.null]))] H.size) (va_runI (As := [.int (nI 312)]) (rest := [.ref q2, .ref h0]) ⟨hx, hb, hml, hown, hts⟩ (ccX4_init l D cI cP B q2 H.size 312 (by decide)) (cwI 1 hts2 (gGood (n := 2) (r := none) q_co_X4_init) rfl rfl rfl (hts _ q_in_X4) (hts _ q_ml_X6_11) (hts _ q_im_X4_init) rfl (by decide +kernel) ⟨Nat.le_of_ble_eq_true rfl, Nat.le_of_ble_eq_true rfl⟩) ⟨cPre_blind, fun U hU hW => ⟨rfl, by rw [hU], by rw [hU]; exact g_lastP hP, va_K.moved hW.alike (hK.sub (tys' := [(cI, .int), (cP, .object "TaskSheets$Plan")]) [0, 1] rfl), g_lastD hD hAB, Nat.le_trans hBs hS.1, by rw [hU]; exact hZ.go (hS.wide hAB) hW, va_AO.moved hW.alike hAO⟩⟩ rfl rfl hl.1 rfl (lv_room (Nat.le_of_ble_eq_true rfl)) dX6_init_40 ⟨Nat.le_of_ble_eq_true rfl, Nat.le_of_ble_eq_true rfl⟩) hS (fun q _ h => hFc q h) hFc (fun u2 t H1 locs1 ht hvm hw hB hz1 hk1 hS => ?_)
  obtain ⟨hP1, hD1⟩ := hB
  rw [ht] at hP1
  obtain ⟨hP, hD⟩ := g_joinLast (w1 := [(q2, .inr (4, [.ref (u2 1)])), (u2 1, .inl (cI, 312, .inl (fun _ => 0)))]) hP hD hk1 hFc hP1 hD1
  generalize H1 = H at hP hS ⊢
  have hP : va_P D vwCl ((([(h0, .inr (6, [.ref q0, .ref q1, .null, .null, .int 0]))] ++ [(q0, .inr (4, [.ref (u0 1)])), (u0 1, .inl (cI, 1248, .inl (fun _ => 0)))]) ++ [(q1, .inr (4, [.ref (u1 1)])), (u1 1, .inl (cI, 1248, .inl (fun _ => 0)))]) ++ [(q2, .inr (4, [.ref (u2 1)])), (u2 1, .inl (cI, 312, .inl (fun _ => 0)))]) H := hP
  have hD : va_D A ((([(h0, .inr (6, [.ref q0, .ref q1, .null, .null, .int 0]))] ++ [(q0, .inr (4, [.ref (u0 1)])), (u0 1, .inl (cI, 1248, .inl (fun _ => 0)))]) ++ [(q1, .inr (4, [.ref (u1 1)])), (u1 1, .inl (cI, 1248, .inl (fun _ => 0)))]) ++ [(q2, .inr (4, [.ref (u2 1)])), (u2 1, .inl (cI, 312, .inl (fun _ => 0)))]) := hD
  refine va_putF (D := D) (ci := 6) (v := .ref q2) (ty := .object "TaskSheets$Numbers") (C := RX6) (T := TX6) (N := 5) hx hb hts q_ws_X6 tyX6 tyX6_ok nmX6 hown hK hP hD hS 0 rfl rfl 2 (by decide) (hts _ q_fl_X6_23) (fun _ h9 => h9) rfl hin rfl (by decide +kernel) rfl rfl (Nat.le_of_ble_eq_true rfl) dX6_init_43 (fun H locs hP hD hS => ?_)
  have hP : va_P D vwCl ((([(h0, .inr (6, [.ref q0, .ref q1, .ref q2, .null, .int 0]))] ++ [(q0, .inr (4, [.ref (u0 1)])), (u0 1, .inl (cI, 1248, .inl (fun _ => 0)))]) ++ [(q1, .inr (4, [.ref (u1 1)])), (u1 1, .inl (cI, 1248, .inl (fun _ => 0)))]) ++ [(q2, .inr (4, [.ref (u2 1)])), (u2 1, .inl (cI, 312, .inl (fun _ => 0)))]) H := hP
  have hD : va_D A ((([(h0, .inr (6, [.ref q0, .ref q1, .ref q2, .null, .int 0]))] ++ [(q0, .inr (4, [.ref (u0 1)])), (u0 1, .inl (cI, 1248, .inl (fun _ => 0)))]) ++ [(q1, .inr (4, [.ref (u1 1)])), (u1 1, .inl (cI, 1248, .inl (fun _ => 0)))]) ++ [(q2, .inr (4, [.ref (u2 1)])), (u2 1, .inl (cI, 312, .inl (fun _ => 0)))]) := hD
  refine lv_aload_n hx hb dX6_init_46 rfl (lv_at hl 0 rfl) ?_
  refine va_new (ci := 4) (fs := [.null]) (C := RX4) (T := TX4) (N := 1) hx hb hts q_ws_X4 tyX4 tyX4_ok hown (hts _ q_cl_X6_9) (hts _ q_ia_X4) (hts _ q_in_X4) hK hP hD hS hA rfl (fun j hj => by rcases (show j = 0 by omega) with rfl <;> rfl) (Nat.le_of_ble_eq_true rfl) (Nat.le_of_ble_eq_true rfl) dX6_init_47 (fun q3 H hP hD hS => ?_)
  have hP : va_P D vwCl (((([(h0, .inr (6, [.ref q0, .ref q1, .ref q2, .null, .int 0]))] ++ [(q0, .inr (4, [.ref (u0 1)])), (u0 1, .inl (cI, 1248, .inl (fun _ => 0)))]) ++ [(q1, .inr (4, [.ref (u1 1)])), (u1 1, .inl (cI, 1248, .inl (fun _ => 0)))]) ++ [(q2, .inr (4, [.ref (u2 1)])), (u2 1, .inl (cI, 312, .inl (fun _ => 0)))]) ++ [(q3, .inr (4, [.null]))]) H := hP
  have hD : va_D A (((([(h0, .inr (6, [.ref q0, .ref q1, .ref q2, .null, .int 0]))] ++ [(q0, .inr (4, [.ref (u0 1)])), (u0 1, .inl (cI, 1248, .inl (fun _ => 0)))]) ++ [(q1, .inr (4, [.ref (u1 1)])), (u1 1, .inl (cI, 1248, .inl (fun _ => 0)))]) ++ [(q2, .inr (4, [.ref (u2 1)])), (u2 1, .inl (cI, 312, .inl (fun _ => 0)))]) ++ [(q3, .inr (4, [.null]))]) := hD
  refine lv_dup hx hb dX6_init_50 rfl ?_
  refine lv_sipush (v := nI 312) hx hb dX6_init_51 (by decide) ?_
  have hts2 : ∀ w ∈ gWs yX4_init cX4_init 2 none, w.before _ s = true := fun w hw => (List.mem_cons.mp hw).elim (fun e => by rw [e]; exact hts _ q_co_X4_init) (hts w)
  have hFc := g_freeLast hD hS hA
  refine va_callv (A1 := va_A [(q3, .inr (4, [.null]))] H.size) (va_runI (As := [.int (nI 312)]) (rest := [.ref q3, .ref h0]) ⟨hx, hb, hml, hown, hts⟩ (ccX4_init l D cI cP B q3 H.size 312 (by decide)) (cwI 1 hts2 (gGood (n := 2) (r := none) q_co_X4_init) rfl rfl rfl (hts _ q_in_X4) (hts _ q_ml_X6_11) (hts _ q_im_X4_init) rfl (by decide +kernel) ⟨Nat.le_of_ble_eq_true rfl, Nat.le_of_ble_eq_true rfl⟩) ⟨cPre_blind, fun U hU hW => ⟨rfl, by rw [hU], by rw [hU]; exact g_lastP hP, va_K.moved hW.alike (hK.sub (tys' := [(cI, .int), (cP, .object "TaskSheets$Plan")]) [0, 1] rfl), g_lastD hD hAB, Nat.le_trans hBs hS.1, by rw [hU]; exact hZ.go (hS.wide hAB) hW, va_AO.moved hW.alike hAO⟩⟩ rfl rfl hl.1 rfl (lv_room (Nat.le_of_ble_eq_true rfl)) dX6_init_54 ⟨Nat.le_of_ble_eq_true rfl, Nat.le_of_ble_eq_true rfl⟩) hS (fun q _ h => hFc q h) hFc (fun u3 t H1 locs1 ht hvm hw hB hz1 hk1 hS => ?_)
  obtain ⟨hP1, hD1⟩ := hB
  rw [ht] at hP1
  obtain ⟨hP, hD⟩ := g_joinLast (w1 := [(q3, .inr (4, [.ref (u3 1)])), (u3 1, .inl (cI, 312, .inl (fun _ => 0)))]) hP hD hk1 hFc hP1 hD1
  generalize H1 = H at hP hS ⊢
  have hP : va_P D vwCl (((([(h0, .inr (6, [.ref q0, .ref q1, .ref q2, .null, .int 0]))] ++ [(q0, .inr (4, [.ref (u0 1)])), (u0 1, .inl (cI, 1248, .inl (fun _ => 0)))]) ++ [(q1, .inr (4, [.ref (u1 1)])), (u1 1, .inl (cI, 1248, .inl (fun _ => 0)))]) ++ [(q2, .inr (4, [.ref (u2 1)])), (u2 1, .inl (cI, 312, .inl (fun _ => 0)))]) ++ [(q3, .inr (4, [.ref (u3 1)])), (u3 1, .inl (cI, 312, .inl (fun _ => 0)))]) H := hP
  have hD : va_D A (((([(h0, .inr (6, [.ref q0, .ref q1, .ref q2, .null, .int 0]))] ++ [(q0, .inr (4, [.ref (u0 1)])), (u0 1, .inl (cI, 1248, .inl (fun _ => 0)))]) ++ [(q1, .inr (4, [.ref (u1 1)])), (u1 1, .inl (cI, 1248, .inl (fun _ => 0)))]) ++ [(q2, .inr (4, [.ref (u2 1)])), (u2 1, .inl (cI, 312, .inl (fun _ => 0)))]) ++ [(q3, .inr (4, [.ref (u3 1)])), (u3 1, .inl (cI, 312, .inl (fun _ => 0)))]) := hD
  refine va_putF (D := D) (ci := 6) (v := .ref q3) (ty := .object "TaskSheets$Numbers") (C := RX6) (T := TX6) (N := 5) hx hb hts q_ws_X6 tyX6 tyX6_ok nmX6 hown hK hP hD hS 0 rfl rfl 3 (by decide) (hts _ q_fl_X6_26) (fun _ h9 => h9) rfl hin rfl (by decide +kernel) rfl rfl (Nat.le_of_ble_eq_true rfl) dX6_init_57 (fun H locs hP hD hS => ?_)
  have hP : va_P D vwCl (((([(h0, .inr (6, [.ref q0, .ref q1, .ref q2, .ref q3, .int 0]))] ++ [(q0, .inr (4, [.ref (u0 1)])), (u0 1, .inl (cI, 1248, .inl (fun _ => 0)))]) ++ [(q1, .inr (4, [.ref (u1 1)])), (u1 1, .inl (cI, 1248, .inl (fun _ => 0)))]) ++ [(q2, .inr (4, [.ref (u2 1)])), (u2 1, .inl (cI, 312, .inl (fun _ => 0)))]) ++ [(q3, .inr (4, [.ref (u3 1)])), (u3 1, .inl (cI, 312, .inl (fun _ => 0)))]) H := hP
  have hD : va_D A (((([(h0, .inr (6, [.ref q0, .ref q1, .ref q2, .ref q3, .int 0]))] ++ [(q0, .inr (4, [.ref (u0 1)])), (u0 1, .inl (cI, 1248, .inl (fun _ => 0)))]) ++ [(q1, .inr (4, [.ref (u1 1)])), (u1 1, .inl (cI, 1248, .inl (fun _ => 0)))]) ++ [(q2, .inr (4, [.ref (u2 1)])), (u2 1, .inl (cI, 312, .inl (fun _ => 0)))]) ++ [(q3, .inr (4, [.ref (u3 1)])), (u3 1, .inl (cI, 312, .inl (fun _ => 0)))]) := hD
  have hP9 : va_P D vwCl (wSheets cI h0 (fun i => ([h0, q0, u0 1, q1, u1 1, q2, u2 1, q3, u3 1] : List Nat).getD i 0)) H := hP
  have hD9 : va_D A (wSheets cI h0 (fun i => ([h0, q0, u0 1, q1, u1 1, q2, u2 1, q3, u3 1] : List Nat).getD i 0)) := hD
  refine W.widen (k := 8) (n := 3124) (Nat.le_of_ble_eq_true rfl) (Nat.le_of_ble_eq_true rfl) ?_
  subst hAe
  exact W.vret hx hb hr (fun t ht hW => ⟨⟨(fun i => ([h0, q0, u0 1, q1, u1 1, q2, u2 1, q3, u3 1] : List Nat).getD i 0), rfl, trivial, by rw [ht]; exact hP9, hD9⟩, hS.F ht⟩) hS.2.2 dX6_init_60
def wText (cI : ClassId) (h0 : Nat) (u : Nat → Nat) : va_W := [(h0, .inr (7, [.ref (u 1), .int 0, .int 0, .int 0, .int 0])), (u 1, .inr (4, [.ref (u 2)])), (u 2, .inl (cI, 150, .inl (fun _ => 0)))]
set_option maxHeartbeats 8000000 in
set_option maxRecDepth 100000 in
theorem ccX7_init (l : Launch) (D : va_G) (cI cP : ClassId) (B h0 sz : Nat) : Met l yX7_init (gWs yX7_init cX7_init 1 none) ({ frames := 2, cells := 2, slots := 151, locals := 41 } : Room) (cPre D cI cP B [.ref h0] [(h0, .inr (7, [.null, .int 0, .int 0, .int 0, .int 0]))] sz) (cPost D (wText cI h0) [(h0, .inr (7, [.null, .int 0, .int 0, .int 0, .int 0]))] sz) 2 151 (va_A [(h0, .inr (7, [.null, .int 0, .int 0, .int 0, .int 0]))] sz) := by
  refine Met.ofW (cc := cX7_init) (maxL := 1) (ret := none) (by decide) rfl ?_
  intro p e s m args below meth c s₁ B0 hml hv
  obtain ⟨rfl, hsz, hP, hK, hD0, hBs, hZ, hAO⟩ := hv
  have hx := B0.exec
  have hb := B0.bytes
  have hr := B0.returns
  have hts0 := atoms_spec (ws := gWs yX7_init cX7_init 1 none) B0.pre
  have hts : ∀ w ∈ gLW, w.before _ s = true := fun w hw => hts0 w (List.mem_cons_of_mem _ hw)
  have hown : s.vm.findClass RX7 = some m.cls := findClass_of_methodNamed B0.named
  have hlocks := B0.notSynchronized
  have hin : meth.name = "<init>" := (name_of_methodNamed B0.named B0.method).1
  subst hsz
  have hD := hD0.self (sz := s.heap.size)
  have hAB0 : ∀ q : Nat, va_A [(h0, .inr (7, [.null, .int 0, .int 0, .int 0, .int 0]))] s.heap.size q → B ≤ q := fun q h => by
    rcases h with ⟨k, e9, h⟩ | h
    · exact hD0.2 k _ h
    · exact Nat.le_trans hBs h
  generalize hAe : va_A [(h0, .inr (7, [.null, .int 0, .int 0, .int 0, .int 0]))] s.heap.size = A at hD hAB0 ⊢
  have hAB : ∀ q : Nat, A q → B ≤ q := hAB0
  have hA : ∀ q : Nat, s.heap.size ≤ q → A q := fun q h => by rw [← hAe]; exact Or.inr h
  have hS : va_S A s.heap s.heap [] := va_S.rf
  have hl := lv_entry ([.ref h0]) (n := 1) (Nat.le_of_ble_eq_true rfl)
  rw [lg_entry_eq]
  generalize (lg_sl ([.ref h0]) ++ List.replicate (1 - (lg_sl ([.ref h0])).length) Slot.unset).toArray = ls at hl ⊢
  have hl : lv_has ls 1 [(0, .ref h0)] := hl
  obtain ⟨tI, hZI, hTI⟩ := hZ.1 ("INITIAL", [8, 20, 1, 0]) (by decide +kernel)
  have hZI := hZI.narrow hAB
  have hTI := hTI.narrow hAB
  refine lv_aload_n hx hb dX7_init_0 rfl (lv_at hl 0 rfl) ?_
  refine W.objInit hx hb hown (hts _ q_ml_X7_3) (hts _ q_im_obj) (hts _ q_co_obj) rfl (by rw [hml]; exact hl.1) rfl dX7_init_1 (Nat.le_of_ble_eq_true rfl) (Nat.le_of_ble_eq_true rfl) ?_
  refine W.eq (g2 := F0 m 4 ls []) rfl ?_
  refine lv_aload_n hx hb dX7_init_4 rfl (lv_at hl 0 rfl) ?_
  refine va_new (ci := 4) (fs := [.null]) (C := RX4) (T := TX4) (N := 1) hx hb hts q_ws_X4 tyX4 tyX4_ok hown (hts _ q_cl_X7_9) (hts _ q_ia_X4) (hts _ q_in_X4) hK hP hD hS hA rfl (fun j hj => by rcases (show j = 0 by omega) with rfl <;> rfl) (Nat.le_of_ble_eq_true rfl) (Nat.le_of_ble_eq_true rfl) dX7_init_5 (fun q0 H hP hD hS => ?_)
  have hP : va_P D vwCl ([(h0, .inr (7, [.null, .int 0, .int 0, .int 0, .int 0]))] ++ [(q0, .inr (4, [.null]))]) H := hP
  have hD : va_D A ([(h0, .inr (7, [.null, .int 0, .int 0, .int 0, .int 0]))] ++ [(q0, .inr (4, [.null]))]) := hD
  refine lv_dup hx hb dX7_init_8 rfl ?_
  refine lv_sipush (v := nI 150) hx hb dX7_init_9 (by decide) ?_
  have hts2 : ∀ w ∈ gWs yX4_init cX4_init 2 none, w.before _ s = true := fun w hw => (List.mem_cons.mp hw).elim (fun e => by rw [e]; exact hts _ q_co_X4_init) (hts w)
  have hFc := g_freeLast hD hS hA
  refine va_callv (A1 := va_A [(q0, .inr (4, [.null]))] H.size) (va_runI (As := [.int (nI 150)]) (rest := [.ref q0, .ref h0]) ⟨hx, hb, hml, hown, hts⟩ (ccX4_init l D cI cP B q0 H.size 150 (by decide)) (cwI 1 hts2 (gGood (n := 2) (r := none) q_co_X4_init) rfl rfl rfl (hts _ q_in_X4) (hts _ q_ml_X7_11) (hts _ q_im_X4_init) rfl (by decide +kernel) ⟨Nat.le_of_ble_eq_true rfl, Nat.le_of_ble_eq_true rfl⟩) ⟨cPre_blind, fun U hU hW => ⟨rfl, by rw [hU], by rw [hU]; exact g_lastP hP, va_K.moved hW.alike (hK.sub (tys' := [(cI, .int), (cP, .object "TaskSheets$Plan")]) [0, 1] rfl), g_lastD hD hAB, Nat.le_trans hBs hS.1, by rw [hU]; exact hZ.go (hS.wide hAB) hW, va_AO.moved hW.alike hAO⟩⟩ rfl rfl hl.1 rfl (lv_room (Nat.le_of_ble_eq_true rfl)) dX7_init_12 ⟨Nat.le_of_ble_eq_true rfl, Nat.le_of_ble_eq_true rfl⟩) hS (fun q _ h => hFc q h) hFc (fun u0 t H1 locs1 ht hvm hw hB hz1 hk1 hS => ?_)
  obtain ⟨hP1, hD1⟩ := hB
  rw [ht] at hP1
  obtain ⟨hP, hD⟩ := g_joinLast (w1 := [(q0, .inr (4, [.ref (u0 1)])), (u0 1, .inl (cI, 150, .inl (fun _ => 0)))]) hP hD hk1 hFc hP1 hD1
  generalize H1 = H at hP hS ⊢
  have hP : va_P D vwCl ([(h0, .inr (7, [.null, .int 0, .int 0, .int 0, .int 0]))] ++ [(q0, .inr (4, [.ref (u0 1)])), (u0 1, .inl (cI, 150, .inl (fun _ => 0)))]) H := hP
  have hD : va_D A ([(h0, .inr (7, [.null, .int 0, .int 0, .int 0, .int 0]))] ++ [(q0, .inr (4, [.ref (u0 1)])), (u0 1, .inl (cI, 150, .inl (fun _ => 0)))]) := hD
  refine va_putF (D := D) (ci := 7) (v := .ref q0) (ty := .object "TaskSheets$Numbers") (C := RX7) (T := TX7) (N := 5) hx hb hts q_ws_X7 tyX7 tyX7_ok nmX7 hown hK hP hD hS 0 rfl rfl 0 (by decide) (hts _ q_fl_X7_14) (fun _ h9 => h9) rfl hin rfl (by decide +kernel) rfl rfl (Nat.le_of_ble_eq_true rfl) dX7_init_15 (fun H locs hP hD hS => ?_)
  have hP : va_P D vwCl ([(h0, .inr (7, [.ref q0, .int 0, .int 0, .int 0, .int 0]))] ++ [(q0, .inr (4, [.ref (u0 1)])), (u0 1, .inl (cI, 150, .inl (fun _ => 0)))]) H := hP
  have hD : va_D A ([(h0, .inr (7, [.ref q0, .int 0, .int 0, .int 0, .int 0]))] ++ [(q0, .inr (4, [.ref (u0 1)])), (u0 1, .inl (cI, 150, .inl (fun _ => 0)))]) := hD
  have hP9 : va_P D vwCl (wText cI h0 (fun i => ([h0, q0, u0 1] : List Nat).getD i 0)) H := hP
  have hD9 : va_D A (wText cI h0 (fun i => ([h0, q0, u0 1] : List Nat).getD i 0)) := hD
  refine W.widen (k := 2) (n := 151) (Nat.le_of_ble_eq_true rfl) (Nat.le_of_ble_eq_true rfl) ?_
  subst hAe
  exact W.vret hx hb hr (fun t ht hW => ⟨⟨(fun i => ([h0, q0, u0 1] : List Nat).getD i 0), rfl, trivial, by rw [ht]; exact hP9, hD9⟩, hS.F ht⟩) hS.2.2 dX7_init_18
def wPlan (cI : ClassId) (h0 : Nat) (u : Nat → Nat) : va_W := [(h0, .inr (5, [.ref (u 1), .ref (u 3), .ref (u 5), .ref (u 7), .ref (u 9), .ref (u 11), .int 0, .int 0])), (u 1, .inr (4, [.ref (u 2)])), (u 2, .inl (cI, 4, .inl gInit)), (u 3, .inr (4, [.ref (u 4)])), (u 4, .inl (cI, 24, .inl (fun _ => 0))), (u 5, .inr (4, [.ref (u 6)])), (u 6, .inl (cI, 24, .inl (fun _ => 0))), (u 7, .inr (4, [.ref (u 8)])), (u 8, .inl (cI, 24, .inl (fun _ => 0))), (u 9, .inr (4, [.ref (u 10)])), (u 10, .inl (cI, 30, .inl (fun _ => 0))), (u 11, .inr (4, [.ref (u 12)])), (u 12, .inl (cI, 30, .inl (fun _ => 0)))]
set_option maxHeartbeats 8000000 in
set_option maxRecDepth 100000 in
theorem ccX5_init (l : Launch) (D : va_G) (cI cP : ClassId) (B h0 sz : Nat) : Met l yX5_init (gWs yX5_init cX5_init 2 none) ({ frames := 2, cells := 12, slots := 142, locals := 41 } : Room) (cPre D cI cP B [.ref h0] [(h0, .inr (5, [.null, .null, .null, .null, .null, .null, .int 0, .int 0]))] sz) (cPost D (wPlan cI h0) [(h0, .inr (5, [.null, .null, .null, .null, .null, .null, .int 0, .int 0]))] sz) 12 142 (va_A [(h0, .inr (5, [.null, .null, .null, .null, .null, .null, .int 0, .int 0]))] sz) := by
  refine Met.ofW (cc := cX5_init) (maxL := 2) (ret := none) (by decide) rfl ?_
  intro p e s m args below meth c s₁ B0 hml hv
  obtain ⟨rfl, hsz, hP, hK, hD0, hBs, hZ, hAO⟩ := hv
  have hx := B0.exec
  have hb := B0.bytes
  have hr := B0.returns
  have hts0 := atoms_spec (ws := gWs yX5_init cX5_init 2 none) B0.pre
  have hts : ∀ w ∈ gLW, w.before _ s = true := fun w hw => hts0 w (List.mem_cons_of_mem _ hw)
  have hown : s.vm.findClass RX5 = some m.cls := findClass_of_methodNamed B0.named
  have hlocks := B0.notSynchronized
  have hin : meth.name = "<init>" := (name_of_methodNamed B0.named B0.method).1
  subst hsz
  have hD := hD0.self (sz := s.heap.size)
  have hAB0 : ∀ q : Nat, va_A [(h0, .inr (5, [.null, .null, .null, .null, .null, .null, .int 0, .int 0]))] s.heap.size q → B ≤ q := fun q h => by
    rcases h with ⟨k, e9, h⟩ | h
    · exact hD0.2 k _ h
    · exact Nat.le_trans hBs h
  generalize hAe : va_A [(h0, .inr (5, [.null, .null, .null, .null, .null, .null, .int 0, .int 0]))] s.heap.size = A at hD hAB0 ⊢
  have hAB : ∀ q : Nat, A q → B ≤ q := hAB0
  have hA : ∀ q : Nat, s.heap.size ≤ q → A q := fun q h => by rw [← hAe]; exact Or.inr h
  have hS : va_S A s.heap s.heap [] := va_S.rf
  have hl := lv_entry ([.ref h0]) (n := 2) (Nat.le_of_ble_eq_true rfl)
  rw [lg_entry_eq]
  generalize (lg_sl ([.ref h0]) ++ List.replicate (2 - (lg_sl ([.ref h0])).length) Slot.unset).toArray = ls at hl ⊢
  have hl : lv_has ls 2 [(0, .ref h0)] := hl
  obtain ⟨tI, hZI, hTI⟩ := hZ.1 ("INITIAL", [8, 20, 1, 0]) (by decide +kernel)
  have hZI := hZI.narrow hAB
  have hTI := hTI.narrow hAB
  refine lv_aload_n hx hb dX5_init_0 rfl (lv_at hl 0 rfl) ?_
  refine W.objInit hx hb hown (hts _ q_ml_X5_3) (hts _ q_im_obj) (hts _ q_co_obj) rfl (by rw [hml]; exact hl.1) rfl dX5_init_1 (Nat.le_of_ble_eq_true rfl) (Nat.le_of_ble_eq_true rfl) ?_
  refine W.eq (g2 := F0 m 4 ls []) rfl ?_
  refine lv_aload_n hx hb dX5_init_4 rfl (lv_at hl 0 rfl) ?_
  refine va_new (ci := 4) (fs := [.null]) (C := RX4) (T := TX4) (N := 1) hx hb hts q_ws_X4 tyX4 tyX4_ok hown (hts _ q_cl_X5_9) (hts _ q_ia_X4) (hts _ q_in_X4) hK hP hD hS hA rfl (fun j hj => by rcases (show j = 0 by omega) with rfl <;> rfl) (Nat.le_of_ble_eq_true rfl) (Nat.le_of_ble_eq_true rfl) dX5_init_5 (fun q0 H hP hD hS => ?_)
  have hP : va_P D vwCl ([(h0, .inr (5, [.null, .null, .null, .null, .null, .null, .int 0, .int 0]))] ++ [(q0, .inr (4, [.null]))]) H := hP
  have hD : va_D A ([(h0, .inr (5, [.null, .null, .null, .null, .null, .null, .int 0, .int 0]))] ++ [(q0, .inr (4, [.null]))]) := hD
  refine lv_dup hx hb dX5_init_8 rfl ?_
  refine lv_iconst (v := nI 4) hx hb dX5_init_9 (by decide) ?_
  have hts2 : ∀ w ∈ gWs yX4_init cX4_init 2 none, w.before _ s = true := fun w hw => (List.mem_cons.mp hw).elim (fun e => by rw [e]; exact hts _ q_co_X4_init) (hts w)
  have hFc := g_freeLast hD hS hA
  refine va_callv (A1 := va_A [(q0, .inr (4, [.null]))] H.size) (va_runI (As := [.int (nI 4)]) (rest := [.ref q0, .ref h0]) ⟨hx, hb, hml, hown, hts⟩ (ccX4_init l D cI cP B q0 H.size 4 (by decide)) (cwI 1 hts2 (gGood (n := 2) (r := none) q_co_X4_init) rfl rfl rfl (hts _ q_in_X4) (hts _ q_ml_X5_11) (hts _ q_im_X4_init) rfl (by decide +kernel) ⟨Nat.le_of_ble_eq_true rfl, Nat.le_of_ble_eq_true rfl⟩) ⟨cPre_blind, fun U hU hW => ⟨rfl, by rw [hU], by rw [hU]; exact g_lastP hP, va_K.moved hW.alike (hK.sub (tys' := [(cI, .int), (cP, .object "TaskSheets$Plan")]) [0, 1] rfl), g_lastD hD hAB, Nat.le_trans hBs hS.1, by rw [hU]; exact hZ.go (hS.wide hAB) hW, va_AO.moved hW.alike hAO⟩⟩ rfl rfl hl.1 rfl (lv_room (Nat.le_of_ble_eq_true rfl)) dX5_init_10 ⟨Nat.le_of_ble_eq_true rfl, Nat.le_of_ble_eq_true rfl⟩) hS (fun q _ h => hFc q h) hFc (fun u0 t H1 locs1 ht hvm hw hB hz1 hk1 hS => ?_)
  obtain ⟨hP1, hD1⟩ := hB
  rw [ht] at hP1
  obtain ⟨hP, hD⟩ := g_joinLast (w1 := [(q0, .inr (4, [.ref (u0 1)])), (u0 1, .inl (cI, 4, .inl (fun _ => 0)))]) hP hD hk1 hFc hP1 hD1
  generalize H1 = H at hP hS ⊢
  have hP : va_P D vwCl ([(h0, .inr (5, [.null, .null, .null, .null, .null, .null, .int 0, .int 0]))] ++ [(q0, .inr (4, [.ref (u0 1)])), (u0 1, .inl (cI, 4, .inl (fun _ => 0)))]) H := hP
  have hD : va_D A ([(h0, .inr (5, [.null, .null, .null, .null, .null, .null, .int 0, .int 0]))] ++ [(q0, .inr (4, [.ref (u0 1)])), (u0 1, .inl (cI, 4, .inl (fun _ => 0)))]) := hD
  refine va_putF (D := D) (ci := 5) (v := .ref q0) (ty := .object "TaskSheets$Numbers") (C := RX5) (T := TX5) (N := 8) hx hb hts q_ws_X5 tyX5 tyX5_ok nmX5 hown hK hP hD hS 0 rfl rfl 0 (by decide) (hts _ q_fl_X5_14) (fun _ h9 => h9) rfl hin rfl (by decide +kernel) rfl rfl (Nat.le_of_ble_eq_true rfl) dX5_init_13 (fun H locs hP hD hS => ?_)
  have hP : va_P D vwCl ([(h0, .inr (5, [.ref q0, .null, .null, .null, .null, .null, .int 0, .int 0]))] ++ [(q0, .inr (4, [.ref (u0 1)])), (u0 1, .inl (cI, 4, .inl (fun _ => 0)))]) H := hP
  have hD : va_D A ([(h0, .inr (5, [.ref q0, .null, .null, .null, .null, .null, .int 0, .int 0]))] ++ [(q0, .inr (4, [.ref (u0 1)])), (u0 1, .inl (cI, 4, .inl (fun _ => 0)))]) := hD
  refine lv_aload_n hx hb dX5_init_16 rfl (lv_at hl 0 rfl) ?_
  refine va_new (ci := 4) (fs := [.null]) (C := RX4) (T := TX4) (N := 1) hx hb hts q_ws_X4 tyX4 tyX4_ok hown (hts _ q_cl_X5_9) (hts _ q_ia_X4) (hts _ q_in_X4) hK hP hD hS hA rfl (fun j hj => by rcases (show j = 0 by omega) with rfl <;> rfl) (Nat.le_of_ble_eq_true rfl) (Nat.le_of_ble_eq_true rfl) dX5_init_17 (fun q1 H hP hD hS => ?_)
  have hP : va_P D vwCl (([(h0, .inr (5, [.ref q0, .null, .null, .null, .null, .null, .int 0, .int 0]))] ++ [(q0, .inr (4, [.ref (u0 1)])), (u0 1, .inl (cI, 4, .inl (fun _ => 0)))]) ++ [(q1, .inr (4, [.null]))]) H := hP
  have hD : va_D A (([(h0, .inr (5, [.ref q0, .null, .null, .null, .null, .null, .int 0, .int 0]))] ++ [(q0, .inr (4, [.ref (u0 1)])), (u0 1, .inl (cI, 4, .inl (fun _ => 0)))]) ++ [(q1, .inr (4, [.null]))]) := hD
  refine lv_dup hx hb dX5_init_20 rfl ?_
  refine lv_bipush (v := nI 24) hx hb dX5_init_21 (by decide) ?_
  have hts2 : ∀ w ∈ gWs yX4_init cX4_init 2 none, w.before _ s = true := fun w hw => (List.mem_cons.mp hw).elim (fun e => by rw [e]; exact hts _ q_co_X4_init) (hts w)
  have hFc := g_freeLast hD hS hA
  refine va_callv (A1 := va_A [(q1, .inr (4, [.null]))] H.size) (va_runI (As := [.int (nI 24)]) (rest := [.ref q1, .ref h0]) ⟨hx, hb, hml, hown, hts⟩ (ccX4_init l D cI cP B q1 H.size 24 (by decide)) (cwI 1 hts2 (gGood (n := 2) (r := none) q_co_X4_init) rfl rfl rfl (hts _ q_in_X4) (hts _ q_ml_X5_11) (hts _ q_im_X4_init) rfl (by decide +kernel) ⟨Nat.le_of_ble_eq_true rfl, Nat.le_of_ble_eq_true rfl⟩) ⟨cPre_blind, fun U hU hW => ⟨rfl, by rw [hU], by rw [hU]; exact g_lastP hP, va_K.moved hW.alike (hK.sub (tys' := [(cI, .int), (cP, .object "TaskSheets$Plan")]) [0, 1] rfl), g_lastD hD hAB, Nat.le_trans hBs hS.1, by rw [hU]; exact hZ.go (hS.wide hAB) hW, va_AO.moved hW.alike hAO⟩⟩ rfl rfl hl.1 rfl (lv_room (Nat.le_of_ble_eq_true rfl)) dX5_init_23 ⟨Nat.le_of_ble_eq_true rfl, Nat.le_of_ble_eq_true rfl⟩) hS (fun q _ h => hFc q h) hFc (fun u1 t H1 locs1 ht hvm hw hB hz1 hk1 hS => ?_)
  obtain ⟨hP1, hD1⟩ := hB
  rw [ht] at hP1
  obtain ⟨hP, hD⟩ := g_joinLast (w1 := [(q1, .inr (4, [.ref (u1 1)])), (u1 1, .inl (cI, 24, .inl (fun _ => 0)))]) hP hD hk1 hFc hP1 hD1
  generalize H1 = H at hP hS ⊢
  have hP : va_P D vwCl (([(h0, .inr (5, [.ref q0, .null, .null, .null, .null, .null, .int 0, .int 0]))] ++ [(q0, .inr (4, [.ref (u0 1)])), (u0 1, .inl (cI, 4, .inl (fun _ => 0)))]) ++ [(q1, .inr (4, [.ref (u1 1)])), (u1 1, .inl (cI, 24, .inl (fun _ => 0)))]) H := hP
  have hD : va_D A (([(h0, .inr (5, [.ref q0, .null, .null, .null, .null, .null, .int 0, .int 0]))] ++ [(q0, .inr (4, [.ref (u0 1)])), (u0 1, .inl (cI, 4, .inl (fun _ => 0)))]) ++ [(q1, .inr (4, [.ref (u1 1)])), (u1 1, .inl (cI, 24, .inl (fun _ => 0)))]) := hD
  refine va_putF (D := D) (ci := 5) (v := .ref q1) (ty := .object "TaskSheets$Numbers") (C := RX5) (T := TX5) (N := 8) hx hb hts q_ws_X5 tyX5 tyX5_ok nmX5 hown hK hP hD hS 0 rfl rfl 1 (by decide) (hts _ q_fl_X5_20) (fun _ h9 => h9) rfl hin rfl (by decide +kernel) rfl rfl (Nat.le_of_ble_eq_true rfl) dX5_init_26 (fun H locs hP hD hS => ?_)
  have hP : va_P D vwCl (([(h0, .inr (5, [.ref q0, .ref q1, .null, .null, .null, .null, .int 0, .int 0]))] ++ [(q0, .inr (4, [.ref (u0 1)])), (u0 1, .inl (cI, 4, .inl (fun _ => 0)))]) ++ [(q1, .inr (4, [.ref (u1 1)])), (u1 1, .inl (cI, 24, .inl (fun _ => 0)))]) H := hP
  have hD : va_D A (([(h0, .inr (5, [.ref q0, .ref q1, .null, .null, .null, .null, .int 0, .int 0]))] ++ [(q0, .inr (4, [.ref (u0 1)])), (u0 1, .inl (cI, 4, .inl (fun _ => 0)))]) ++ [(q1, .inr (4, [.ref (u1 1)])), (u1 1, .inl (cI, 24, .inl (fun _ => 0)))]) := hD
  refine lv_aload_n hx hb dX5_init_29 rfl (lv_at hl 0 rfl) ?_
  refine va_new (ci := 4) (fs := [.null]) (C := RX4) (T := TX4) (N := 1) hx hb hts q_ws_X4 tyX4 tyX4_ok hown (hts _ q_cl_X5_9) (hts _ q_ia_X4) (hts _ q_in_X4) hK hP hD hS hA rfl (fun j hj => by rcases (show j = 0 by omega) with rfl <;> rfl) (Nat.le_of_ble_eq_true rfl) (Nat.le_of_ble_eq_true rfl) dX5_init_30 (fun q2 H hP hD hS => ?_)
  have hP : va_P D vwCl ((([(h0, .inr (5, [.ref q0, .ref q1, .null, .null, .null, .null, .int 0, .int 0]))] ++ [(q0, .inr (4, [.ref (u0 1)])), (u0 1, .inl (cI, 4, .inl (fun _ => 0)))]) ++ [(q1, .inr (4, [.ref (u1 1)])), (u1 1, .inl (cI, 24, .inl (fun _ => 0)))]) ++ [(q2, .inr (4, [.null]))]) H := hP
  have hD : va_D A ((([(h0, .inr (5, [.ref q0, .ref q1, .null, .null, .null, .null, .int 0, .int 0]))] ++ [(q0, .inr (4, [.ref (u0 1)])), (u0 1, .inl (cI, 4, .inl (fun _ => 0)))]) ++ [(q1, .inr (4, [.ref (u1 1)])), (u1 1, .inl (cI, 24, .inl (fun _ => 0)))]) ++ [(q2, .inr (4, [.null]))]) := hD
  refine lv_dup hx hb dX5_init_33 rfl ?_
  refine lv_bipush (v := nI 24) hx hb dX5_init_34 (by decide) ?_
  have hts2 : ∀ w ∈ gWs yX4_init cX4_init 2 none, w.before _ s = true := fun w hw => (List.mem_cons.mp hw).elim (fun e => by rw [e]; exact hts _ q_co_X4_init) (hts w)
  have hFc := g_freeLast hD hS hA
  refine va_callv (A1 := va_A [(q2, .inr (4, [.null]))] H.size) (va_runI (As := [.int (nI 24)]) (rest := [.ref q2, .ref h0]) ⟨hx, hb, hml, hown, hts⟩ (ccX4_init l D cI cP B q2 H.size 24 (by decide)) (cwI 1 hts2 (gGood (n := 2) (r := none) q_co_X4_init) rfl rfl rfl (hts _ q_in_X4) (hts _ q_ml_X5_11) (hts _ q_im_X4_init) rfl (by decide +kernel) ⟨Nat.le_of_ble_eq_true rfl, Nat.le_of_ble_eq_true rfl⟩) ⟨cPre_blind, fun U hU hW => ⟨rfl, by rw [hU], by rw [hU]; exact g_lastP hP, va_K.moved hW.alike (hK.sub (tys' := [(cI, .int), (cP, .object "TaskSheets$Plan")]) [0, 1] rfl), g_lastD hD hAB, Nat.le_trans hBs hS.1, by rw [hU]; exact hZ.go (hS.wide hAB) hW, va_AO.moved hW.alike hAO⟩⟩ rfl rfl hl.1 rfl (lv_room (Nat.le_of_ble_eq_true rfl)) dX5_init_36 ⟨Nat.le_of_ble_eq_true rfl, Nat.le_of_ble_eq_true rfl⟩) hS (fun q _ h => hFc q h) hFc (fun u2 t H1 locs1 ht hvm hw hB hz1 hk1 hS => ?_)
  obtain ⟨hP1, hD1⟩ := hB
  rw [ht] at hP1
  obtain ⟨hP, hD⟩ := g_joinLast (w1 := [(q2, .inr (4, [.ref (u2 1)])), (u2 1, .inl (cI, 24, .inl (fun _ => 0)))]) hP hD hk1 hFc hP1 hD1
  generalize H1 = H at hP hS ⊢
  have hP : va_P D vwCl ((([(h0, .inr (5, [.ref q0, .ref q1, .null, .null, .null, .null, .int 0, .int 0]))] ++ [(q0, .inr (4, [.ref (u0 1)])), (u0 1, .inl (cI, 4, .inl (fun _ => 0)))]) ++ [(q1, .inr (4, [.ref (u1 1)])), (u1 1, .inl (cI, 24, .inl (fun _ => 0)))]) ++ [(q2, .inr (4, [.ref (u2 1)])), (u2 1, .inl (cI, 24, .inl (fun _ => 0)))]) H := hP
  have hD : va_D A ((([(h0, .inr (5, [.ref q0, .ref q1, .null, .null, .null, .null, .int 0, .int 0]))] ++ [(q0, .inr (4, [.ref (u0 1)])), (u0 1, .inl (cI, 4, .inl (fun _ => 0)))]) ++ [(q1, .inr (4, [.ref (u1 1)])), (u1 1, .inl (cI, 24, .inl (fun _ => 0)))]) ++ [(q2, .inr (4, [.ref (u2 1)])), (u2 1, .inl (cI, 24, .inl (fun _ => 0)))]) := hD
  refine va_putF (D := D) (ci := 5) (v := .ref q2) (ty := .object "TaskSheets$Numbers") (C := RX5) (T := TX5) (N := 8) hx hb hts q_ws_X5 tyX5 tyX5_ok nmX5 hown hK hP hD hS 0 rfl rfl 2 (by decide) (hts _ q_fl_X5_23) (fun _ h9 => h9) rfl hin rfl (by decide +kernel) rfl rfl (Nat.le_of_ble_eq_true rfl) dX5_init_39 (fun H locs hP hD hS => ?_)
  have hP : va_P D vwCl ((([(h0, .inr (5, [.ref q0, .ref q1, .ref q2, .null, .null, .null, .int 0, .int 0]))] ++ [(q0, .inr (4, [.ref (u0 1)])), (u0 1, .inl (cI, 4, .inl (fun _ => 0)))]) ++ [(q1, .inr (4, [.ref (u1 1)])), (u1 1, .inl (cI, 24, .inl (fun _ => 0)))]) ++ [(q2, .inr (4, [.ref (u2 1)])), (u2 1, .inl (cI, 24, .inl (fun _ => 0)))]) H := hP
  have hD : va_D A ((([(h0, .inr (5, [.ref q0, .ref q1, .ref q2, .null, .null, .null, .int 0, .int 0]))] ++ [(q0, .inr (4, [.ref (u0 1)])), (u0 1, .inl (cI, 4, .inl (fun _ => 0)))]) ++ [(q1, .inr (4, [.ref (u1 1)])), (u1 1, .inl (cI, 24, .inl (fun _ => 0)))]) ++ [(q2, .inr (4, [.ref (u2 1)])), (u2 1, .inl (cI, 24, .inl (fun _ => 0)))]) := hD
  refine lv_aload_n hx hb dX5_init_42 rfl (lv_at hl 0 rfl) ?_
  refine va_new (ci := 4) (fs := [.null]) (C := RX4) (T := TX4) (N := 1) hx hb hts q_ws_X4 tyX4 tyX4_ok hown (hts _ q_cl_X5_9) (hts _ q_ia_X4) (hts _ q_in_X4) hK hP hD hS hA rfl (fun j hj => by rcases (show j = 0 by omega) with rfl <;> rfl) (Nat.le_of_ble_eq_true rfl) (Nat.le_of_ble_eq_true rfl) dX5_init_43 (fun q3 H hP hD hS => ?_)
  have hP : va_P D vwCl (((([(h0, .inr (5, [.ref q0, .ref q1, .ref q2, .null, .null, .null, .int 0, .int 0]))] ++ [(q0, .inr (4, [.ref (u0 1)])), (u0 1, .inl (cI, 4, .inl (fun _ => 0)))]) ++ [(q1, .inr (4, [.ref (u1 1)])), (u1 1, .inl (cI, 24, .inl (fun _ => 0)))]) ++ [(q2, .inr (4, [.ref (u2 1)])), (u2 1, .inl (cI, 24, .inl (fun _ => 0)))]) ++ [(q3, .inr (4, [.null]))]) H := hP
  have hD : va_D A (((([(h0, .inr (5, [.ref q0, .ref q1, .ref q2, .null, .null, .null, .int 0, .int 0]))] ++ [(q0, .inr (4, [.ref (u0 1)])), (u0 1, .inl (cI, 4, .inl (fun _ => 0)))]) ++ [(q1, .inr (4, [.ref (u1 1)])), (u1 1, .inl (cI, 24, .inl (fun _ => 0)))]) ++ [(q2, .inr (4, [.ref (u2 1)])), (u2 1, .inl (cI, 24, .inl (fun _ => 0)))]) ++ [(q3, .inr (4, [.null]))]) := hD
  refine lv_dup hx hb dX5_init_46 rfl ?_
  refine lv_bipush (v := nI 24) hx hb dX5_init_47 (by decide) ?_
  have hts2 : ∀ w ∈ gWs yX4_init cX4_init 2 none, w.before _ s = true := fun w hw => (List.mem_cons.mp hw).elim (fun e => by rw [e]; exact hts _ q_co_X4_init) (hts w)
  have hFc := g_freeLast hD hS hA
  refine va_callv (A1 := va_A [(q3, .inr (4, [.null]))] H.size) (va_runI (As := [.int (nI 24)]) (rest := [.ref q3, .ref h0]) ⟨hx, hb, hml, hown, hts⟩ (ccX4_init l D cI cP B q3 H.size 24 (by decide)) (cwI 1 hts2 (gGood (n := 2) (r := none) q_co_X4_init) rfl rfl rfl (hts _ q_in_X4) (hts _ q_ml_X5_11) (hts _ q_im_X4_init) rfl (by decide +kernel) ⟨Nat.le_of_ble_eq_true rfl, Nat.le_of_ble_eq_true rfl⟩) ⟨cPre_blind, fun U hU hW => ⟨rfl, by rw [hU], by rw [hU]; exact g_lastP hP, va_K.moved hW.alike (hK.sub (tys' := [(cI, .int), (cP, .object "TaskSheets$Plan")]) [0, 1] rfl), g_lastD hD hAB, Nat.le_trans hBs hS.1, by rw [hU]; exact hZ.go (hS.wide hAB) hW, va_AO.moved hW.alike hAO⟩⟩ rfl rfl hl.1 rfl (lv_room (Nat.le_of_ble_eq_true rfl)) dX5_init_49 ⟨Nat.le_of_ble_eq_true rfl, Nat.le_of_ble_eq_true rfl⟩) hS (fun q _ h => hFc q h) hFc (fun u3 t H1 locs1 ht hvm hw hB hz1 hk1 hS => ?_)
  obtain ⟨hP1, hD1⟩ := hB
  rw [ht] at hP1
  obtain ⟨hP, hD⟩ := g_joinLast (w1 := [(q3, .inr (4, [.ref (u3 1)])), (u3 1, .inl (cI, 24, .inl (fun _ => 0)))]) hP hD hk1 hFc hP1 hD1
  generalize H1 = H at hP hS ⊢
  have hP : va_P D vwCl (((([(h0, .inr (5, [.ref q0, .ref q1, .ref q2, .null, .null, .null, .int 0, .int 0]))] ++ [(q0, .inr (4, [.ref (u0 1)])), (u0 1, .inl (cI, 4, .inl (fun _ => 0)))]) ++ [(q1, .inr (4, [.ref (u1 1)])), (u1 1, .inl (cI, 24, .inl (fun _ => 0)))]) ++ [(q2, .inr (4, [.ref (u2 1)])), (u2 1, .inl (cI, 24, .inl (fun _ => 0)))]) ++ [(q3, .inr (4, [.ref (u3 1)])), (u3 1, .inl (cI, 24, .inl (fun _ => 0)))]) H := hP
  have hD : va_D A (((([(h0, .inr (5, [.ref q0, .ref q1, .ref q2, .null, .null, .null, .int 0, .int 0]))] ++ [(q0, .inr (4, [.ref (u0 1)])), (u0 1, .inl (cI, 4, .inl (fun _ => 0)))]) ++ [(q1, .inr (4, [.ref (u1 1)])), (u1 1, .inl (cI, 24, .inl (fun _ => 0)))]) ++ [(q2, .inr (4, [.ref (u2 1)])), (u2 1, .inl (cI, 24, .inl (fun _ => 0)))]) ++ [(q3, .inr (4, [.ref (u3 1)])), (u3 1, .inl (cI, 24, .inl (fun _ => 0)))]) := hD
  refine va_putF (D := D) (ci := 5) (v := .ref q3) (ty := .object "TaskSheets$Numbers") (C := RX5) (T := TX5) (N := 8) hx hb hts q_ws_X5 tyX5 tyX5_ok nmX5 hown hK hP hD hS 0 rfl rfl 3 (by decide) (hts _ q_fl_X5_26) (fun _ h9 => h9) rfl hin rfl (by decide +kernel) rfl rfl (Nat.le_of_ble_eq_true rfl) dX5_init_52 (fun H locs hP hD hS => ?_)
  have hP : va_P D vwCl (((([(h0, .inr (5, [.ref q0, .ref q1, .ref q2, .ref q3, .null, .null, .int 0, .int 0]))] ++ [(q0, .inr (4, [.ref (u0 1)])), (u0 1, .inl (cI, 4, .inl (fun _ => 0)))]) ++ [(q1, .inr (4, [.ref (u1 1)])), (u1 1, .inl (cI, 24, .inl (fun _ => 0)))]) ++ [(q2, .inr (4, [.ref (u2 1)])), (u2 1, .inl (cI, 24, .inl (fun _ => 0)))]) ++ [(q3, .inr (4, [.ref (u3 1)])), (u3 1, .inl (cI, 24, .inl (fun _ => 0)))]) H := hP
  have hD : va_D A (((([(h0, .inr (5, [.ref q0, .ref q1, .ref q2, .ref q3, .null, .null, .int 0, .int 0]))] ++ [(q0, .inr (4, [.ref (u0 1)])), (u0 1, .inl (cI, 4, .inl (fun _ => 0)))]) ++ [(q1, .inr (4, [.ref (u1 1)])), (u1 1, .inl (cI, 24, .inl (fun _ => 0)))]) ++ [(q2, .inr (4, [.ref (u2 1)])), (u2 1, .inl (cI, 24, .inl (fun _ => 0)))]) ++ [(q3, .inr (4, [.ref (u3 1)])), (u3 1, .inl (cI, 24, .inl (fun _ => 0)))]) := hD
  refine lv_aload_n hx hb dX5_init_55 rfl (lv_at hl 0 rfl) ?_
  refine va_new (ci := 4) (fs := [.null]) (C := RX4) (T := TX4) (N := 1) hx hb hts q_ws_X4 tyX4 tyX4_ok hown (hts _ q_cl_X5_9) (hts _ q_ia_X4) (hts _ q_in_X4) hK hP hD hS hA rfl (fun j hj => by rcases (show j = 0 by omega) with rfl <;> rfl) (Nat.le_of_ble_eq_true rfl) (Nat.le_of_ble_eq_true rfl) dX5_init_56 (fun q4 H hP hD hS => ?_)
  have hP : va_P D vwCl ((((([(h0, .inr (5, [.ref q0, .ref q1, .ref q2, .ref q3, .null, .null, .int 0, .int 0]))] ++ [(q0, .inr (4, [.ref (u0 1)])), (u0 1, .inl (cI, 4, .inl (fun _ => 0)))]) ++ [(q1, .inr (4, [.ref (u1 1)])), (u1 1, .inl (cI, 24, .inl (fun _ => 0)))]) ++ [(q2, .inr (4, [.ref (u2 1)])), (u2 1, .inl (cI, 24, .inl (fun _ => 0)))]) ++ [(q3, .inr (4, [.ref (u3 1)])), (u3 1, .inl (cI, 24, .inl (fun _ => 0)))]) ++ [(q4, .inr (4, [.null]))]) H := hP
  have hD : va_D A ((((([(h0, .inr (5, [.ref q0, .ref q1, .ref q2, .ref q3, .null, .null, .int 0, .int 0]))] ++ [(q0, .inr (4, [.ref (u0 1)])), (u0 1, .inl (cI, 4, .inl (fun _ => 0)))]) ++ [(q1, .inr (4, [.ref (u1 1)])), (u1 1, .inl (cI, 24, .inl (fun _ => 0)))]) ++ [(q2, .inr (4, [.ref (u2 1)])), (u2 1, .inl (cI, 24, .inl (fun _ => 0)))]) ++ [(q3, .inr (4, [.ref (u3 1)])), (u3 1, .inl (cI, 24, .inl (fun _ => 0)))]) ++ [(q4, .inr (4, [.null]))]) := hD
  refine lv_dup hx hb dX5_init_59 rfl ?_
  refine lv_bipush (v := nI 30) hx hb dX5_init_60 (by decide) ?_
  have hts2 : ∀ w ∈ gWs yX4_init cX4_init 2 none, w.before _ s = true := fun w hw => (List.mem_cons.mp hw).elim (fun e => by rw [e]; exact hts _ q_co_X4_init) (hts w)
  have hFc := g_freeLast hD hS hA
  refine va_callv (A1 := va_A [(q4, .inr (4, [.null]))] H.size) (va_runI (As := [.int (nI 30)]) (rest := [.ref q4, .ref h0]) ⟨hx, hb, hml, hown, hts⟩ (ccX4_init l D cI cP B q4 H.size 30 (by decide)) (cwI 1 hts2 (gGood (n := 2) (r := none) q_co_X4_init) rfl rfl rfl (hts _ q_in_X4) (hts _ q_ml_X5_11) (hts _ q_im_X4_init) rfl (by decide +kernel) ⟨Nat.le_of_ble_eq_true rfl, Nat.le_of_ble_eq_true rfl⟩) ⟨cPre_blind, fun U hU hW => ⟨rfl, by rw [hU], by rw [hU]; exact g_lastP hP, va_K.moved hW.alike (hK.sub (tys' := [(cI, .int), (cP, .object "TaskSheets$Plan")]) [0, 1] rfl), g_lastD hD hAB, Nat.le_trans hBs hS.1, by rw [hU]; exact hZ.go (hS.wide hAB) hW, va_AO.moved hW.alike hAO⟩⟩ rfl rfl hl.1 rfl (lv_room (Nat.le_of_ble_eq_true rfl)) dX5_init_62 ⟨Nat.le_of_ble_eq_true rfl, Nat.le_of_ble_eq_true rfl⟩) hS (fun q _ h => hFc q h) hFc (fun u4 t H1 locs1 ht hvm hw hB hz1 hk1 hS => ?_)
  obtain ⟨hP1, hD1⟩ := hB
  rw [ht] at hP1
  obtain ⟨hP, hD⟩ := g_joinLast (w1 := [(q4, .inr (4, [.ref (u4 1)])), (u4 1, .inl (cI, 30, .inl (fun _ => 0)))]) hP hD hk1 hFc hP1 hD1
  generalize H1 = H at hP hS ⊢
  have hP : va_P D vwCl ((((([(h0, .inr (5, [.ref q0, .ref q1, .ref q2, .ref q3, .null, .null, .int 0, .int 0]))] ++ [(q0, .inr (4, [.ref (u0 1)])), (u0 1, .inl (cI, 4, .inl (fun _ => 0)))]) ++ [(q1, .inr (4, [.ref (u1 1)])), (u1 1, .inl (cI, 24, .inl (fun _ => 0)))]) ++ [(q2, .inr (4, [.ref (u2 1)])), (u2 1, .inl (cI, 24, .inl (fun _ => 0)))]) ++ [(q3, .inr (4, [.ref (u3 1)])), (u3 1, .inl (cI, 24, .inl (fun _ => 0)))]) ++ [(q4, .inr (4, [.ref (u4 1)])), (u4 1, .inl (cI, 30, .inl (fun _ => 0)))]) H := hP
  have hD : va_D A ((((([(h0, .inr (5, [.ref q0, .ref q1, .ref q2, .ref q3, .null, .null, .int 0, .int 0]))] ++ [(q0, .inr (4, [.ref (u0 1)])), (u0 1, .inl (cI, 4, .inl (fun _ => 0)))]) ++ [(q1, .inr (4, [.ref (u1 1)])), (u1 1, .inl (cI, 24, .inl (fun _ => 0)))]) ++ [(q2, .inr (4, [.ref (u2 1)])), (u2 1, .inl (cI, 24, .inl (fun _ => 0)))]) ++ [(q3, .inr (4, [.ref (u3 1)])), (u3 1, .inl (cI, 24, .inl (fun _ => 0)))]) ++ [(q4, .inr (4, [.ref (u4 1)])), (u4 1, .inl (cI, 30, .inl (fun _ => 0)))]) := hD
  refine va_putF (D := D) (ci := 5) (v := .ref q4) (ty := .object "TaskSheets$Numbers") (C := RX5) (T := TX5) (N := 8) hx hb hts q_ws_X5 tyX5 tyX5_ok nmX5 hown hK hP hD hS 0 rfl rfl 4 (by decide) (hts _ q_fl_X5_29) (fun _ h9 => h9) rfl hin rfl (by decide +kernel) rfl rfl (Nat.le_of_ble_eq_true rfl) dX5_init_65 (fun H locs hP hD hS => ?_)
  have hP : va_P D vwCl ((((([(h0, .inr (5, [.ref q0, .ref q1, .ref q2, .ref q3, .ref q4, .null, .int 0, .int 0]))] ++ [(q0, .inr (4, [.ref (u0 1)])), (u0 1, .inl (cI, 4, .inl (fun _ => 0)))]) ++ [(q1, .inr (4, [.ref (u1 1)])), (u1 1, .inl (cI, 24, .inl (fun _ => 0)))]) ++ [(q2, .inr (4, [.ref (u2 1)])), (u2 1, .inl (cI, 24, .inl (fun _ => 0)))]) ++ [(q3, .inr (4, [.ref (u3 1)])), (u3 1, .inl (cI, 24, .inl (fun _ => 0)))]) ++ [(q4, .inr (4, [.ref (u4 1)])), (u4 1, .inl (cI, 30, .inl (fun _ => 0)))]) H := hP
  have hD : va_D A ((((([(h0, .inr (5, [.ref q0, .ref q1, .ref q2, .ref q3, .ref q4, .null, .int 0, .int 0]))] ++ [(q0, .inr (4, [.ref (u0 1)])), (u0 1, .inl (cI, 4, .inl (fun _ => 0)))]) ++ [(q1, .inr (4, [.ref (u1 1)])), (u1 1, .inl (cI, 24, .inl (fun _ => 0)))]) ++ [(q2, .inr (4, [.ref (u2 1)])), (u2 1, .inl (cI, 24, .inl (fun _ => 0)))]) ++ [(q3, .inr (4, [.ref (u3 1)])), (u3 1, .inl (cI, 24, .inl (fun _ => 0)))]) ++ [(q4, .inr (4, [.ref (u4 1)])), (u4 1, .inl (cI, 30, .inl (fun _ => 0)))]) := hD
  refine lv_aload_n hx hb dX5_init_68 rfl (lv_at hl 0 rfl) ?_
  refine va_new (ci := 4) (fs := [.null]) (C := RX4) (T := TX4) (N := 1) hx hb hts q_ws_X4 tyX4 tyX4_ok hown (hts _ q_cl_X5_9) (hts _ q_ia_X4) (hts _ q_in_X4) hK hP hD hS hA rfl (fun j hj => by rcases (show j = 0 by omega) with rfl <;> rfl) (Nat.le_of_ble_eq_true rfl) (Nat.le_of_ble_eq_true rfl) dX5_init_69 (fun q5 H hP hD hS => ?_)
  have hP : va_P D vwCl (((((([(h0, .inr (5, [.ref q0, .ref q1, .ref q2, .ref q3, .ref q4, .null, .int 0, .int 0]))] ++ [(q0, .inr (4, [.ref (u0 1)])), (u0 1, .inl (cI, 4, .inl (fun _ => 0)))]) ++ [(q1, .inr (4, [.ref (u1 1)])), (u1 1, .inl (cI, 24, .inl (fun _ => 0)))]) ++ [(q2, .inr (4, [.ref (u2 1)])), (u2 1, .inl (cI, 24, .inl (fun _ => 0)))]) ++ [(q3, .inr (4, [.ref (u3 1)])), (u3 1, .inl (cI, 24, .inl (fun _ => 0)))]) ++ [(q4, .inr (4, [.ref (u4 1)])), (u4 1, .inl (cI, 30, .inl (fun _ => 0)))]) ++ [(q5, .inr (4, [.null]))]) H := hP
  have hD : va_D A (((((([(h0, .inr (5, [.ref q0, .ref q1, .ref q2, .ref q3, .ref q4, .null, .int 0, .int 0]))] ++ [(q0, .inr (4, [.ref (u0 1)])), (u0 1, .inl (cI, 4, .inl (fun _ => 0)))]) ++ [(q1, .inr (4, [.ref (u1 1)])), (u1 1, .inl (cI, 24, .inl (fun _ => 0)))]) ++ [(q2, .inr (4, [.ref (u2 1)])), (u2 1, .inl (cI, 24, .inl (fun _ => 0)))]) ++ [(q3, .inr (4, [.ref (u3 1)])), (u3 1, .inl (cI, 24, .inl (fun _ => 0)))]) ++ [(q4, .inr (4, [.ref (u4 1)])), (u4 1, .inl (cI, 30, .inl (fun _ => 0)))]) ++ [(q5, .inr (4, [.null]))]) := hD
  refine lv_dup hx hb dX5_init_72 rfl ?_
  refine lv_bipush (v := nI 30) hx hb dX5_init_73 (by decide) ?_
  have hts2 : ∀ w ∈ gWs yX4_init cX4_init 2 none, w.before _ s = true := fun w hw => (List.mem_cons.mp hw).elim (fun e => by rw [e]; exact hts _ q_co_X4_init) (hts w)
  have hFc := g_freeLast hD hS hA
  refine va_callv (A1 := va_A [(q5, .inr (4, [.null]))] H.size) (va_runI (As := [.int (nI 30)]) (rest := [.ref q5, .ref h0]) ⟨hx, hb, hml, hown, hts⟩ (ccX4_init l D cI cP B q5 H.size 30 (by decide)) (cwI 1 hts2 (gGood (n := 2) (r := none) q_co_X4_init) rfl rfl rfl (hts _ q_in_X4) (hts _ q_ml_X5_11) (hts _ q_im_X4_init) rfl (by decide +kernel) ⟨Nat.le_of_ble_eq_true rfl, Nat.le_of_ble_eq_true rfl⟩) ⟨cPre_blind, fun U hU hW => ⟨rfl, by rw [hU], by rw [hU]; exact g_lastP hP, va_K.moved hW.alike (hK.sub (tys' := [(cI, .int), (cP, .object "TaskSheets$Plan")]) [0, 1] rfl), g_lastD hD hAB, Nat.le_trans hBs hS.1, by rw [hU]; exact hZ.go (hS.wide hAB) hW, va_AO.moved hW.alike hAO⟩⟩ rfl rfl hl.1 rfl (lv_room (Nat.le_of_ble_eq_true rfl)) dX5_init_75 ⟨Nat.le_of_ble_eq_true rfl, Nat.le_of_ble_eq_true rfl⟩) hS (fun q _ h => hFc q h) hFc (fun u5 t H1 locs1 ht hvm hw hB hz1 hk1 hS => ?_)
  obtain ⟨hP1, hD1⟩ := hB
  rw [ht] at hP1
  obtain ⟨hP, hD⟩ := g_joinLast (w1 := [(q5, .inr (4, [.ref (u5 1)])), (u5 1, .inl (cI, 30, .inl (fun _ => 0)))]) hP hD hk1 hFc hP1 hD1
  generalize H1 = H at hP hS ⊢
  have hP : va_P D vwCl (((((([(h0, .inr (5, [.ref q0, .ref q1, .ref q2, .ref q3, .ref q4, .null, .int 0, .int 0]))] ++ [(q0, .inr (4, [.ref (u0 1)])), (u0 1, .inl (cI, 4, .inl (fun _ => 0)))]) ++ [(q1, .inr (4, [.ref (u1 1)])), (u1 1, .inl (cI, 24, .inl (fun _ => 0)))]) ++ [(q2, .inr (4, [.ref (u2 1)])), (u2 1, .inl (cI, 24, .inl (fun _ => 0)))]) ++ [(q3, .inr (4, [.ref (u3 1)])), (u3 1, .inl (cI, 24, .inl (fun _ => 0)))]) ++ [(q4, .inr (4, [.ref (u4 1)])), (u4 1, .inl (cI, 30, .inl (fun _ => 0)))]) ++ [(q5, .inr (4, [.ref (u5 1)])), (u5 1, .inl (cI, 30, .inl (fun _ => 0)))]) H := hP
  have hD : va_D A (((((([(h0, .inr (5, [.ref q0, .ref q1, .ref q2, .ref q3, .ref q4, .null, .int 0, .int 0]))] ++ [(q0, .inr (4, [.ref (u0 1)])), (u0 1, .inl (cI, 4, .inl (fun _ => 0)))]) ++ [(q1, .inr (4, [.ref (u1 1)])), (u1 1, .inl (cI, 24, .inl (fun _ => 0)))]) ++ [(q2, .inr (4, [.ref (u2 1)])), (u2 1, .inl (cI, 24, .inl (fun _ => 0)))]) ++ [(q3, .inr (4, [.ref (u3 1)])), (u3 1, .inl (cI, 24, .inl (fun _ => 0)))]) ++ [(q4, .inr (4, [.ref (u4 1)])), (u4 1, .inl (cI, 30, .inl (fun _ => 0)))]) ++ [(q5, .inr (4, [.ref (u5 1)])), (u5 1, .inl (cI, 30, .inl (fun _ => 0)))]) := hD
  refine va_putF (D := D) (ci := 5) (v := .ref q5) (ty := .object "TaskSheets$Numbers") (C := RX5) (T := TX5) (N := 8) hx hb hts q_ws_X5 tyX5 tyX5_ok nmX5 hown hK hP hD hS 0 rfl rfl 5 (by decide) (hts _ q_fl_X5_32) (fun _ h9 => h9) rfl hin rfl (by decide +kernel) rfl rfl (Nat.le_of_ble_eq_true rfl) dX5_init_78 (fun H locs hP hD hS => ?_)
  have hP : va_P D vwCl (((((([(h0, .inr (5, [.ref q0, .ref q1, .ref q2, .ref q3, .ref q4, .ref q5, .int 0, .int 0]))] ++ [(q0, .inr (4, [.ref (u0 1)])), (u0 1, .inl (cI, 4, .inl (fun _ => 0)))]) ++ [(q1, .inr (4, [.ref (u1 1)])), (u1 1, .inl (cI, 24, .inl (fun _ => 0)))]) ++ [(q2, .inr (4, [.ref (u2 1)])), (u2 1, .inl (cI, 24, .inl (fun _ => 0)))]) ++ [(q3, .inr (4, [.ref (u3 1)])), (u3 1, .inl (cI, 24, .inl (fun _ => 0)))]) ++ [(q4, .inr (4, [.ref (u4 1)])), (u4 1, .inl (cI, 30, .inl (fun _ => 0)))]) ++ [(q5, .inr (4, [.ref (u5 1)])), (u5 1, .inl (cI, 30, .inl (fun _ => 0)))]) H := hP
  have hD : va_D A (((((([(h0, .inr (5, [.ref q0, .ref q1, .ref q2, .ref q3, .ref q4, .ref q5, .int 0, .int 0]))] ++ [(q0, .inr (4, [.ref (u0 1)])), (u0 1, .inl (cI, 4, .inl (fun _ => 0)))]) ++ [(q1, .inr (4, [.ref (u1 1)])), (u1 1, .inl (cI, 24, .inl (fun _ => 0)))]) ++ [(q2, .inr (4, [.ref (u2 1)])), (u2 1, .inl (cI, 24, .inl (fun _ => 0)))]) ++ [(q3, .inr (4, [.ref (u3 1)])), (u3 1, .inl (cI, 24, .inl (fun _ => 0)))]) ++ [(q4, .inr (4, [.ref (u4 1)])), (u4 1, .inl (cI, 30, .inl (fun _ => 0)))]) ++ [(q5, .inr (4, [.ref (u5 1)])), (u5 1, .inl (cI, 30, .inl (fun _ => 0)))]) := hD
  refine lv_iconst (v := nI 0) hx hb dX5_init_81 (by decide) ?_
  refine lv_istore_n (lv' := [(1, .int (nI 0)), (0, .ref h0)]) hx hb dX5_init_82 rfl hl (by decide) rfl (fun ls hl => ?_)
  refine lv_iload_n hx hb dX5_init_83 rfl (lv_at hl 0 rfl) ?_
  refine va_getsN (C := "TaskSheets") (n := "INITIAL") (d := "[I") (host := "TaskSheets") hx hb hZI hS hown (va_Nw.use rfl (hZ.2.2.2.2.2.1 (RX5, 35, "TaskSheets", "INITIAL", "[I", "TaskSheets") (by decide +kernel))) (fun _ h9 => h9) dX5_init_84 ?_
  refine va_tlen hx hb hTI hS (v := nI 4) rfl dX5_init_87 ?_
  refine lv_icmp_ge (tgt := 110) hx hb dX5_init_88 (by decide) (fun h9 => absurd h9 (by decide)) (fun _ => ?_)
  refine lv_aload_n hx hb dX5_init_91 rfl (lv_at hl 1 rfl) ?_
  refine va_get (D := D) (ci := 5) (v := .ref q0) (C := RX5) (T := TX5) (N := 8) hx hb hts q_ws_X5 hown hK hP 0 rfl rfl 0 (by decide) (hts _ q_fl_X5_14) (fun _ h9 => h9) rfl dX5_init_92 ?_
  refine lv_iload_n hx hb dX5_init_95 rfl (lv_at hl 0 rfl) ?_
  refine va_getsN (C := "TaskSheets") (n := "INITIAL") (d := "[I") (host := "TaskSheets") hx hb hZI hS hown (va_Nw.use rfl (hZ.2.2.2.2.2.1 (RX5, 35, "TaskSheets", "INITIAL", "[I", "TaskSheets") (by decide +kernel))) (fun _ h9 => h9) dX5_init_96 ?_
  refine lv_iload_n hx hb dX5_init_99 rfl (lv_at hl 0 rfl) ?_
  refine va_ti hx hb hTI hS (i := nI 0) (vp_in_nI (by decide) (by decide)) (v := .int (nI 8)) (by rw [nI_clamp (by decide)]; rfl) dX5_init_100 ?_
  have hts2 : ∀ w ∈ gWs yX4_put cX4_put 3 none, w.before _ s = true := fun w hw => (List.mem_cons.mp hw).elim (fun e => by rw [e]; exact hts _ q_co_X4_put) (hts w)
  have hPc := hP.sub (ws' := [(q0, .inr (4, [.ref (u0 1)])), ((u0 1), .inl (cI, 4, .inl (fun _ => 0)))]) [1, 2] rfl
  have hDc := hD.sub (ws' := [(q0, .inr (4, [.ref (u0 1)])), ((u0 1), .inl (cI, 4, .inl (fun _ => 0)))]) [1, 2] (by decide) rfl
  have hKc := hK.sub (tys' := [(cI, .int), (cP, .object "TaskSheets$Plan")]) [0, 1] rfl
  have hFc := va_free (wc := [(q0, .inr (4, [.ref (u0 1)])), ((u0 1), .inl (cI, 4, .inl (fun _ => 0)))]) hD hS hA [1, 2] rfl
  refine va_callv (A1 := va_A [(q0, .inr (4, [.ref (u0 1)])), ((u0 1), .inl (cI, 4, .inl (fun _ => 0)))] H.size) (va_runV (As := [.int (nI 0), .int (nI 8)]) (rest := []) ⟨hx, hb, hml, hown, hts⟩ (ccX4_put l D cI cP B q0 (u0 1) H.size 4 0 (fun _ => 0) (nI 8) (by decide) (by decide)) (cwV 2 hts2 (gGoodV (n := 3) (r := none) q_ml_X5_39 q_im_X4_put q_se_X4_put q_in_X4 q_co_X4_put) rfl rfl rfl (by decide +kernel) ⟨Nat.le_of_ble_eq_true rfl, Nat.le_of_ble_eq_true rfl⟩) ⟨cPre_blind, va_recv hKc hPc (ci := 4) (q0 := 0) rfl rfl, fun U hU hW => ⟨rfl, by rw [hU], by rw [hU]; exact hPc, va_K.moved hW.alike hKc, hDc.weaken (fun _ _ _ h9 => hAB _ h9), Nat.le_trans hBs hS.1, by rw [hU]; exact hZ.go (hS.wide hAB) hW, va_AO.moved hW.alike hAO⟩⟩ rfl rfl hl.1 rfl (lv_room (Nat.le_of_ble_eq_true rfl)) dX5_init_101 ⟨Nat.le_of_ble_eq_true rfl, Nat.le_of_ble_eq_true rfl⟩) hS (fun q _ h => hFc q h) hFc (fun up t H1 locs1 ht hvm hw hB hz1 hk1 hS => ?_)
  obtain ⟨hP1, hD1⟩ := hB
  rw [ht] at hP1
  obtain ⟨hP, hD⟩ := va_join (wr := [(h0, .inr (5, [.ref q0, .ref q1, .ref q2, .ref q3, .ref q4, .ref q5, .int 0, .int 0])), (q1, .inr (4, [.ref (u1 1)])), (u1 1, .inl (cI, 24, .inl (fun _ => 0))), (q2, .inr (4, [.ref (u2 1)])), (u2 1, .inl (cI, 24, .inl (fun _ => 0))), (q3, .inr (4, [.ref (u3 1)])), (u3 1, .inl (cI, 24, .inl (fun _ => 0))), (q4, .inr (4, [.ref (u4 1)])), (u4 1, .inl (cI, 30, .inl (fun _ => 0))), (q5, .inr (4, [.ref (u5 1)])), (u5 1, .inl (cI, 30, .inl (fun _ => 0)))]) (w1 := [(q0, .inr (4, [.ref (u0 1)])), ((u0 1), .inl (cI, 4, .inl (upd (fun _ => 0) 0 (nI 8))))]) hP hD [1, 2] [0, 3, 4, 5, 6, 7, 8, 9, 10, 11, 12] rfl rfl (by decide) (by decide) hk1 hFc hP1 hD1
  have hP := hP.sub (ws' := (((((([(h0, .inr (5, [.ref q0, .ref q1, .ref q2, .ref q3, .ref q4, .ref q5, .int 0, .int 0]))] ++ [(q0, .inr (4, [.ref (u0 1)])), ((u0 1), .inl (cI, 4, .inl (upd (fun _ => 0) 0 (nI 8))))]) ++ [(q1, .inr (4, [.ref (u1 1)])), (u1 1, .inl (cI, 24, .inl (fun _ => 0)))]) ++ [(q2, .inr (4, [.ref (u2 1)])), (u2 1, .inl (cI, 24, .inl (fun _ => 0)))]) ++ [(q3, .inr (4, [.ref (u3 1)])), (u3 1, .inl (cI, 24, .inl (fun _ => 0)))]) ++ [(q4, .inr (4, [.ref (u4 1)])), (u4 1, .inl (cI, 30, .inl (fun _ => 0)))]) ++ [(q5, .inr (4, [.ref (u5 1)])), (u5 1, .inl (cI, 30, .inl (fun _ => 0)))])) [0, 11, 12, 1, 2, 3, 4, 5, 6, 7, 8, 9, 10] rfl
  have hD := hD.sub (ws' := (((((([(h0, .inr (5, [.ref q0, .ref q1, .ref q2, .ref q3, .ref q4, .ref q5, .int 0, .int 0]))] ++ [(q0, .inr (4, [.ref (u0 1)])), ((u0 1), .inl (cI, 4, .inl (upd (fun _ => 0) 0 (nI 8))))]) ++ [(q1, .inr (4, [.ref (u1 1)])), (u1 1, .inl (cI, 24, .inl (fun _ => 0)))]) ++ [(q2, .inr (4, [.ref (u2 1)])), (u2 1, .inl (cI, 24, .inl (fun _ => 0)))]) ++ [(q3, .inr (4, [.ref (u3 1)])), (u3 1, .inl (cI, 24, .inl (fun _ => 0)))]) ++ [(q4, .inr (4, [.ref (u4 1)])), (u4 1, .inl (cI, 30, .inl (fun _ => 0)))]) ++ [(q5, .inr (4, [.ref (u5 1)])), (u5 1, .inl (cI, 30, .inl (fun _ => 0)))])) [0, 11, 12, 1, 2, 3, 4, 5, 6, 7, 8, 9, 10] (by decide) rfl
  generalize H1 = H at hP hS ⊢
  refine lv_iinc (v := nI 1) (lv' := [(1, .int (nI 1)), (0, .ref h0)]) hx hb dX5_init_104 hl (k := 0) rfl (by decide) (by decide) rfl (fun ls hl => ?_)
  refine lv_goto (tgt := 83) hx hb dX5_init_107 (by decide) ?_
  refine lv_iload_n hx hb dX5_init_83 rfl (lv_at hl 0 rfl) ?_
  refine va_getsN (C := "TaskSheets") (n := "INITIAL") (d := "[I") (host := "TaskSheets") hx hb hZI hS hown (va_Nw.use rfl (hZ.2.2.2.2.2.1 (RX5, 35, "TaskSheets", "INITIAL", "[I", "TaskSheets") (by decide +kernel))) (fun _ h9 => h9) dX5_init_84 ?_
  refine va_tlen hx hb hTI hS (v := nI 4) rfl dX5_init_87 ?_
  refine lv_icmp_ge (tgt := 110) hx hb dX5_init_88 (by decide) (fun h9 => absurd h9 (by decide)) (fun _ => ?_)
  refine lv_aload_n hx hb dX5_init_91 rfl (lv_at hl 1 rfl) ?_
  refine va_get (D := D) (ci := 5) (v := .ref q0) (C := RX5) (T := TX5) (N := 8) hx hb hts q_ws_X5 hown hK hP 0 rfl rfl 0 (by decide) (hts _ q_fl_X5_14) (fun _ h9 => h9) rfl dX5_init_92 ?_
  refine lv_iload_n hx hb dX5_init_95 rfl (lv_at hl 0 rfl) ?_
  refine va_getsN (C := "TaskSheets") (n := "INITIAL") (d := "[I") (host := "TaskSheets") hx hb hZI hS hown (va_Nw.use rfl (hZ.2.2.2.2.2.1 (RX5, 35, "TaskSheets", "INITIAL", "[I", "TaskSheets") (by decide +kernel))) (fun _ h9 => h9) dX5_init_96 ?_
  refine lv_iload_n hx hb dX5_init_99 rfl (lv_at hl 0 rfl) ?_
  refine va_ti hx hb hTI hS (i := nI 1) (vp_in_nI (by decide) (by decide)) (v := .int (nI 20)) (by rw [nI_clamp (by decide)]; rfl) dX5_init_100 ?_
  have hts2 : ∀ w ∈ gWs yX4_put cX4_put 3 none, w.before _ s = true := fun w hw => (List.mem_cons.mp hw).elim (fun e => by rw [e]; exact hts _ q_co_X4_put) (hts w)
  have hPc := hP.sub (ws' := [(q0, .inr (4, [.ref (u0 1)])), ((u0 1), .inl (cI, 4, .inl (upd (fun _ => 0) 0 (nI 8))))]) [1, 2] rfl
  have hDc := hD.sub (ws' := [(q0, .inr (4, [.ref (u0 1)])), ((u0 1), .inl (cI, 4, .inl (upd (fun _ => 0) 0 (nI 8))))]) [1, 2] (by decide) rfl
  have hKc := hK.sub (tys' := [(cI, .int), (cP, .object "TaskSheets$Plan")]) [0, 1] rfl
  have hFc := va_free (wc := [(q0, .inr (4, [.ref (u0 1)])), ((u0 1), .inl (cI, 4, .inl (upd (fun _ => 0) 0 (nI 8))))]) hD hS hA [1, 2] rfl
  refine va_callv (A1 := va_A [(q0, .inr (4, [.ref (u0 1)])), ((u0 1), .inl (cI, 4, .inl (upd (fun _ => 0) 0 (nI 8))))] H.size) (va_runV (As := [.int (nI 1), .int (nI 20)]) (rest := []) ⟨hx, hb, hml, hown, hts⟩ (ccX4_put l D cI cP B q0 (u0 1) H.size 4 1 (upd (fun _ => 0) 0 (nI 8)) (nI 20) (by decide) (by decide)) (cwV 2 hts2 (gGoodV (n := 3) (r := none) q_ml_X5_39 q_im_X4_put q_se_X4_put q_in_X4 q_co_X4_put) rfl rfl rfl (by decide +kernel) ⟨Nat.le_of_ble_eq_true rfl, Nat.le_of_ble_eq_true rfl⟩) ⟨cPre_blind, va_recv hKc hPc (ci := 4) (q0 := 0) rfl rfl, fun U hU hW => ⟨rfl, by rw [hU], by rw [hU]; exact hPc, va_K.moved hW.alike hKc, hDc.weaken (fun _ _ _ h9 => hAB _ h9), Nat.le_trans hBs hS.1, by rw [hU]; exact hZ.go (hS.wide hAB) hW, va_AO.moved hW.alike hAO⟩⟩ rfl rfl hl.1 rfl (lv_room (Nat.le_of_ble_eq_true rfl)) dX5_init_101 ⟨Nat.le_of_ble_eq_true rfl, Nat.le_of_ble_eq_true rfl⟩) hS (fun q _ h => hFc q h) hFc (fun up t H1 locs1 ht hvm hw hB hz1 hk1 hS => ?_)
  obtain ⟨hP1, hD1⟩ := hB
  rw [ht] at hP1
  obtain ⟨hP, hD⟩ := va_join (wr := [(h0, .inr (5, [.ref q0, .ref q1, .ref q2, .ref q3, .ref q4, .ref q5, .int 0, .int 0])), (q1, .inr (4, [.ref (u1 1)])), (u1 1, .inl (cI, 24, .inl (fun _ => 0))), (q2, .inr (4, [.ref (u2 1)])), (u2 1, .inl (cI, 24, .inl (fun _ => 0))), (q3, .inr (4, [.ref (u3 1)])), (u3 1, .inl (cI, 24, .inl (fun _ => 0))), (q4, .inr (4, [.ref (u4 1)])), (u4 1, .inl (cI, 30, .inl (fun _ => 0))), (q5, .inr (4, [.ref (u5 1)])), (u5 1, .inl (cI, 30, .inl (fun _ => 0)))]) (w1 := [(q0, .inr (4, [.ref (u0 1)])), ((u0 1), .inl (cI, 4, .inl (upd (upd (fun _ => 0) 0 (nI 8)) 1 (nI 20))))]) hP hD [1, 2] [0, 3, 4, 5, 6, 7, 8, 9, 10, 11, 12] rfl rfl (by decide) (by decide) hk1 hFc hP1 hD1
  have hP := hP.sub (ws' := (((((([(h0, .inr (5, [.ref q0, .ref q1, .ref q2, .ref q3, .ref q4, .ref q5, .int 0, .int 0]))] ++ [(q0, .inr (4, [.ref (u0 1)])), ((u0 1), .inl (cI, 4, .inl (upd (upd (fun _ => 0) 0 (nI 8)) 1 (nI 20))))]) ++ [(q1, .inr (4, [.ref (u1 1)])), (u1 1, .inl (cI, 24, .inl (fun _ => 0)))]) ++ [(q2, .inr (4, [.ref (u2 1)])), (u2 1, .inl (cI, 24, .inl (fun _ => 0)))]) ++ [(q3, .inr (4, [.ref (u3 1)])), (u3 1, .inl (cI, 24, .inl (fun _ => 0)))]) ++ [(q4, .inr (4, [.ref (u4 1)])), (u4 1, .inl (cI, 30, .inl (fun _ => 0)))]) ++ [(q5, .inr (4, [.ref (u5 1)])), (u5 1, .inl (cI, 30, .inl (fun _ => 0)))])) [0, 11, 12, 1, 2, 3, 4, 5, 6, 7, 8, 9, 10] rfl
  have hD := hD.sub (ws' := (((((([(h0, .inr (5, [.ref q0, .ref q1, .ref q2, .ref q3, .ref q4, .ref q5, .int 0, .int 0]))] ++ [(q0, .inr (4, [.ref (u0 1)])), ((u0 1), .inl (cI, 4, .inl (upd (upd (fun _ => 0) 0 (nI 8)) 1 (nI 20))))]) ++ [(q1, .inr (4, [.ref (u1 1)])), (u1 1, .inl (cI, 24, .inl (fun _ => 0)))]) ++ [(q2, .inr (4, [.ref (u2 1)])), (u2 1, .inl (cI, 24, .inl (fun _ => 0)))]) ++ [(q3, .inr (4, [.ref (u3 1)])), (u3 1, .inl (cI, 24, .inl (fun _ => 0)))]) ++ [(q4, .inr (4, [.ref (u4 1)])), (u4 1, .inl (cI, 30, .inl (fun _ => 0)))]) ++ [(q5, .inr (4, [.ref (u5 1)])), (u5 1, .inl (cI, 30, .inl (fun _ => 0)))])) [0, 11, 12, 1, 2, 3, 4, 5, 6, 7, 8, 9, 10] (by decide) rfl
  generalize H1 = H at hP hS ⊢
  refine lv_iinc (v := nI 2) (lv' := [(1, .int (nI 2)), (0, .ref h0)]) hx hb dX5_init_104 hl (k := 0) rfl (by decide) (by decide) rfl (fun ls hl => ?_)
  refine lv_goto (tgt := 83) hx hb dX5_init_107 (by decide) ?_
  refine lv_iload_n hx hb dX5_init_83 rfl (lv_at hl 0 rfl) ?_
  refine va_getsN (C := "TaskSheets") (n := "INITIAL") (d := "[I") (host := "TaskSheets") hx hb hZI hS hown (va_Nw.use rfl (hZ.2.2.2.2.2.1 (RX5, 35, "TaskSheets", "INITIAL", "[I", "TaskSheets") (by decide +kernel))) (fun _ h9 => h9) dX5_init_84 ?_
  refine va_tlen hx hb hTI hS (v := nI 4) rfl dX5_init_87 ?_
  refine lv_icmp_ge (tgt := 110) hx hb dX5_init_88 (by decide) (fun h9 => absurd h9 (by decide)) (fun _ => ?_)
  refine lv_aload_n hx hb dX5_init_91 rfl (lv_at hl 1 rfl) ?_
  refine va_get (D := D) (ci := 5) (v := .ref q0) (C := RX5) (T := TX5) (N := 8) hx hb hts q_ws_X5 hown hK hP 0 rfl rfl 0 (by decide) (hts _ q_fl_X5_14) (fun _ h9 => h9) rfl dX5_init_92 ?_
  refine lv_iload_n hx hb dX5_init_95 rfl (lv_at hl 0 rfl) ?_
  refine va_getsN (C := "TaskSheets") (n := "INITIAL") (d := "[I") (host := "TaskSheets") hx hb hZI hS hown (va_Nw.use rfl (hZ.2.2.2.2.2.1 (RX5, 35, "TaskSheets", "INITIAL", "[I", "TaskSheets") (by decide +kernel))) (fun _ h9 => h9) dX5_init_96 ?_
  refine lv_iload_n hx hb dX5_init_99 rfl (lv_at hl 0 rfl) ?_
  refine va_ti hx hb hTI hS (i := nI 2) (vp_in_nI (by decide) (by decide)) (v := .int (nI 1)) (by rw [nI_clamp (by decide)]; rfl) dX5_init_100 ?_
  have hts2 : ∀ w ∈ gWs yX4_put cX4_put 3 none, w.before _ s = true := fun w hw => (List.mem_cons.mp hw).elim (fun e => by rw [e]; exact hts _ q_co_X4_put) (hts w)
  have hPc := hP.sub (ws' := [(q0, .inr (4, [.ref (u0 1)])), ((u0 1), .inl (cI, 4, .inl (upd (upd (fun _ => 0) 0 (nI 8)) 1 (nI 20))))]) [1, 2] rfl
  have hDc := hD.sub (ws' := [(q0, .inr (4, [.ref (u0 1)])), ((u0 1), .inl (cI, 4, .inl (upd (upd (fun _ => 0) 0 (nI 8)) 1 (nI 20))))]) [1, 2] (by decide) rfl
  have hKc := hK.sub (tys' := [(cI, .int), (cP, .object "TaskSheets$Plan")]) [0, 1] rfl
  have hFc := va_free (wc := [(q0, .inr (4, [.ref (u0 1)])), ((u0 1), .inl (cI, 4, .inl (upd (upd (fun _ => 0) 0 (nI 8)) 1 (nI 20))))]) hD hS hA [1, 2] rfl
  refine va_callv (A1 := va_A [(q0, .inr (4, [.ref (u0 1)])), ((u0 1), .inl (cI, 4, .inl (upd (upd (fun _ => 0) 0 (nI 8)) 1 (nI 20))))] H.size) (va_runV (As := [.int (nI 2), .int (nI 1)]) (rest := []) ⟨hx, hb, hml, hown, hts⟩ (ccX4_put l D cI cP B q0 (u0 1) H.size 4 2 (upd (upd (fun _ => 0) 0 (nI 8)) 1 (nI 20)) (nI 1) (by decide) (by decide)) (cwV 2 hts2 (gGoodV (n := 3) (r := none) q_ml_X5_39 q_im_X4_put q_se_X4_put q_in_X4 q_co_X4_put) rfl rfl rfl (by decide +kernel) ⟨Nat.le_of_ble_eq_true rfl, Nat.le_of_ble_eq_true rfl⟩) ⟨cPre_blind, va_recv hKc hPc (ci := 4) (q0 := 0) rfl rfl, fun U hU hW => ⟨rfl, by rw [hU], by rw [hU]; exact hPc, va_K.moved hW.alike hKc, hDc.weaken (fun _ _ _ h9 => hAB _ h9), Nat.le_trans hBs hS.1, by rw [hU]; exact hZ.go (hS.wide hAB) hW, va_AO.moved hW.alike hAO⟩⟩ rfl rfl hl.1 rfl (lv_room (Nat.le_of_ble_eq_true rfl)) dX5_init_101 ⟨Nat.le_of_ble_eq_true rfl, Nat.le_of_ble_eq_true rfl⟩) hS (fun q _ h => hFc q h) hFc (fun up t H1 locs1 ht hvm hw hB hz1 hk1 hS => ?_)
  obtain ⟨hP1, hD1⟩ := hB
  rw [ht] at hP1
  obtain ⟨hP, hD⟩ := va_join (wr := [(h0, .inr (5, [.ref q0, .ref q1, .ref q2, .ref q3, .ref q4, .ref q5, .int 0, .int 0])), (q1, .inr (4, [.ref (u1 1)])), (u1 1, .inl (cI, 24, .inl (fun _ => 0))), (q2, .inr (4, [.ref (u2 1)])), (u2 1, .inl (cI, 24, .inl (fun _ => 0))), (q3, .inr (4, [.ref (u3 1)])), (u3 1, .inl (cI, 24, .inl (fun _ => 0))), (q4, .inr (4, [.ref (u4 1)])), (u4 1, .inl (cI, 30, .inl (fun _ => 0))), (q5, .inr (4, [.ref (u5 1)])), (u5 1, .inl (cI, 30, .inl (fun _ => 0)))]) (w1 := [(q0, .inr (4, [.ref (u0 1)])), ((u0 1), .inl (cI, 4, .inl (upd (upd (upd (fun _ => 0) 0 (nI 8)) 1 (nI 20)) 2 (nI 1))))]) hP hD [1, 2] [0, 3, 4, 5, 6, 7, 8, 9, 10, 11, 12] rfl rfl (by decide) (by decide) hk1 hFc hP1 hD1
  have hP := hP.sub (ws' := (((((([(h0, .inr (5, [.ref q0, .ref q1, .ref q2, .ref q3, .ref q4, .ref q5, .int 0, .int 0]))] ++ [(q0, .inr (4, [.ref (u0 1)])), ((u0 1), .inl (cI, 4, .inl (upd (upd (upd (fun _ => 0) 0 (nI 8)) 1 (nI 20)) 2 (nI 1))))]) ++ [(q1, .inr (4, [.ref (u1 1)])), (u1 1, .inl (cI, 24, .inl (fun _ => 0)))]) ++ [(q2, .inr (4, [.ref (u2 1)])), (u2 1, .inl (cI, 24, .inl (fun _ => 0)))]) ++ [(q3, .inr (4, [.ref (u3 1)])), (u3 1, .inl (cI, 24, .inl (fun _ => 0)))]) ++ [(q4, .inr (4, [.ref (u4 1)])), (u4 1, .inl (cI, 30, .inl (fun _ => 0)))]) ++ [(q5, .inr (4, [.ref (u5 1)])), (u5 1, .inl (cI, 30, .inl (fun _ => 0)))])) [0, 11, 12, 1, 2, 3, 4, 5, 6, 7, 8, 9, 10] rfl
  have hD := hD.sub (ws' := (((((([(h0, .inr (5, [.ref q0, .ref q1, .ref q2, .ref q3, .ref q4, .ref q5, .int 0, .int 0]))] ++ [(q0, .inr (4, [.ref (u0 1)])), ((u0 1), .inl (cI, 4, .inl (upd (upd (upd (fun _ => 0) 0 (nI 8)) 1 (nI 20)) 2 (nI 1))))]) ++ [(q1, .inr (4, [.ref (u1 1)])), (u1 1, .inl (cI, 24, .inl (fun _ => 0)))]) ++ [(q2, .inr (4, [.ref (u2 1)])), (u2 1, .inl (cI, 24, .inl (fun _ => 0)))]) ++ [(q3, .inr (4, [.ref (u3 1)])), (u3 1, .inl (cI, 24, .inl (fun _ => 0)))]) ++ [(q4, .inr (4, [.ref (u4 1)])), (u4 1, .inl (cI, 30, .inl (fun _ => 0)))]) ++ [(q5, .inr (4, [.ref (u5 1)])), (u5 1, .inl (cI, 30, .inl (fun _ => 0)))])) [0, 11, 12, 1, 2, 3, 4, 5, 6, 7, 8, 9, 10] (by decide) rfl
  generalize H1 = H at hP hS ⊢
  refine lv_iinc (v := nI 3) (lv' := [(1, .int (nI 3)), (0, .ref h0)]) hx hb dX5_init_104 hl (k := 0) rfl (by decide) (by decide) rfl (fun ls hl => ?_)
  refine lv_goto (tgt := 83) hx hb dX5_init_107 (by decide) ?_
  refine lv_iload_n hx hb dX5_init_83 rfl (lv_at hl 0 rfl) ?_
  refine va_getsN (C := "TaskSheets") (n := "INITIAL") (d := "[I") (host := "TaskSheets") hx hb hZI hS hown (va_Nw.use rfl (hZ.2.2.2.2.2.1 (RX5, 35, "TaskSheets", "INITIAL", "[I", "TaskSheets") (by decide +kernel))) (fun _ h9 => h9) dX5_init_84 ?_
  refine va_tlen hx hb hTI hS (v := nI 4) rfl dX5_init_87 ?_
  refine lv_icmp_ge (tgt := 110) hx hb dX5_init_88 (by decide) (fun h9 => absurd h9 (by decide)) (fun _ => ?_)
  refine lv_aload_n hx hb dX5_init_91 rfl (lv_at hl 1 rfl) ?_
  refine va_get (D := D) (ci := 5) (v := .ref q0) (C := RX5) (T := TX5) (N := 8) hx hb hts q_ws_X5 hown hK hP 0 rfl rfl 0 (by decide) (hts _ q_fl_X5_14) (fun _ h9 => h9) rfl dX5_init_92 ?_
  refine lv_iload_n hx hb dX5_init_95 rfl (lv_at hl 0 rfl) ?_
  refine va_getsN (C := "TaskSheets") (n := "INITIAL") (d := "[I") (host := "TaskSheets") hx hb hZI hS hown (va_Nw.use rfl (hZ.2.2.2.2.2.1 (RX5, 35, "TaskSheets", "INITIAL", "[I", "TaskSheets") (by decide +kernel))) (fun _ h9 => h9) dX5_init_96 ?_
  refine lv_iload_n hx hb dX5_init_99 rfl (lv_at hl 0 rfl) ?_
  refine va_ti hx hb hTI hS (i := nI 3) (vp_in_nI (by decide) (by decide)) (v := .int (nI 0)) (by rw [nI_clamp (by decide)]; rfl) dX5_init_100 ?_
  have hts2 : ∀ w ∈ gWs yX4_put cX4_put 3 none, w.before _ s = true := fun w hw => (List.mem_cons.mp hw).elim (fun e => by rw [e]; exact hts _ q_co_X4_put) (hts w)
  have hPc := hP.sub (ws' := [(q0, .inr (4, [.ref (u0 1)])), ((u0 1), .inl (cI, 4, .inl (upd (upd (upd (fun _ => 0) 0 (nI 8)) 1 (nI 20)) 2 (nI 1))))]) [1, 2] rfl
  have hDc := hD.sub (ws' := [(q0, .inr (4, [.ref (u0 1)])), ((u0 1), .inl (cI, 4, .inl (upd (upd (upd (fun _ => 0) 0 (nI 8)) 1 (nI 20)) 2 (nI 1))))]) [1, 2] (by decide) rfl
  have hKc := hK.sub (tys' := [(cI, .int), (cP, .object "TaskSheets$Plan")]) [0, 1] rfl
  have hFc := va_free (wc := [(q0, .inr (4, [.ref (u0 1)])), ((u0 1), .inl (cI, 4, .inl (upd (upd (upd (fun _ => 0) 0 (nI 8)) 1 (nI 20)) 2 (nI 1))))]) hD hS hA [1, 2] rfl
  refine va_callv (A1 := va_A [(q0, .inr (4, [.ref (u0 1)])), ((u0 1), .inl (cI, 4, .inl (upd (upd (upd (fun _ => 0) 0 (nI 8)) 1 (nI 20)) 2 (nI 1))))] H.size) (va_runV (As := [.int (nI 3), .int (nI 0)]) (rest := []) ⟨hx, hb, hml, hown, hts⟩ (ccX4_put l D cI cP B q0 (u0 1) H.size 4 3 (upd (upd (upd (fun _ => 0) 0 (nI 8)) 1 (nI 20)) 2 (nI 1)) (nI 0) (by decide) (by decide)) (cwV 2 hts2 (gGoodV (n := 3) (r := none) q_ml_X5_39 q_im_X4_put q_se_X4_put q_in_X4 q_co_X4_put) rfl rfl rfl (by decide +kernel) ⟨Nat.le_of_ble_eq_true rfl, Nat.le_of_ble_eq_true rfl⟩) ⟨cPre_blind, va_recv hKc hPc (ci := 4) (q0 := 0) rfl rfl, fun U hU hW => ⟨rfl, by rw [hU], by rw [hU]; exact hPc, va_K.moved hW.alike hKc, hDc.weaken (fun _ _ _ h9 => hAB _ h9), Nat.le_trans hBs hS.1, by rw [hU]; exact hZ.go (hS.wide hAB) hW, va_AO.moved hW.alike hAO⟩⟩ rfl rfl hl.1 rfl (lv_room (Nat.le_of_ble_eq_true rfl)) dX5_init_101 ⟨Nat.le_of_ble_eq_true rfl, Nat.le_of_ble_eq_true rfl⟩) hS (fun q _ h => hFc q h) hFc (fun up t H1 locs1 ht hvm hw hB hz1 hk1 hS => ?_)
  obtain ⟨hP1, hD1⟩ := hB
  rw [ht] at hP1
  obtain ⟨hP, hD⟩ := va_join (wr := [(h0, .inr (5, [.ref q0, .ref q1, .ref q2, .ref q3, .ref q4, .ref q5, .int 0, .int 0])), (q1, .inr (4, [.ref (u1 1)])), (u1 1, .inl (cI, 24, .inl (fun _ => 0))), (q2, .inr (4, [.ref (u2 1)])), (u2 1, .inl (cI, 24, .inl (fun _ => 0))), (q3, .inr (4, [.ref (u3 1)])), (u3 1, .inl (cI, 24, .inl (fun _ => 0))), (q4, .inr (4, [.ref (u4 1)])), (u4 1, .inl (cI, 30, .inl (fun _ => 0))), (q5, .inr (4, [.ref (u5 1)])), (u5 1, .inl (cI, 30, .inl (fun _ => 0)))]) (w1 := [(q0, .inr (4, [.ref (u0 1)])), ((u0 1), .inl (cI, 4, .inl (upd (upd (upd (upd (fun _ => 0) 0 (nI 8)) 1 (nI 20)) 2 (nI 1)) 3 (nI 0))))]) hP hD [1, 2] [0, 3, 4, 5, 6, 7, 8, 9, 10, 11, 12] rfl rfl (by decide) (by decide) hk1 hFc hP1 hD1
  have hP := hP.sub (ws' := (((((([(h0, .inr (5, [.ref q0, .ref q1, .ref q2, .ref q3, .ref q4, .ref q5, .int 0, .int 0]))] ++ [(q0, .inr (4, [.ref (u0 1)])), ((u0 1), .inl (cI, 4, .inl (upd (upd (upd (upd (fun _ => 0) 0 (nI 8)) 1 (nI 20)) 2 (nI 1)) 3 (nI 0))))]) ++ [(q1, .inr (4, [.ref (u1 1)])), (u1 1, .inl (cI, 24, .inl (fun _ => 0)))]) ++ [(q2, .inr (4, [.ref (u2 1)])), (u2 1, .inl (cI, 24, .inl (fun _ => 0)))]) ++ [(q3, .inr (4, [.ref (u3 1)])), (u3 1, .inl (cI, 24, .inl (fun _ => 0)))]) ++ [(q4, .inr (4, [.ref (u4 1)])), (u4 1, .inl (cI, 30, .inl (fun _ => 0)))]) ++ [(q5, .inr (4, [.ref (u5 1)])), (u5 1, .inl (cI, 30, .inl (fun _ => 0)))])) [0, 11, 12, 1, 2, 3, 4, 5, 6, 7, 8, 9, 10] rfl
  have hD := hD.sub (ws' := (((((([(h0, .inr (5, [.ref q0, .ref q1, .ref q2, .ref q3, .ref q4, .ref q5, .int 0, .int 0]))] ++ [(q0, .inr (4, [.ref (u0 1)])), ((u0 1), .inl (cI, 4, .inl (upd (upd (upd (upd (fun _ => 0) 0 (nI 8)) 1 (nI 20)) 2 (nI 1)) 3 (nI 0))))]) ++ [(q1, .inr (4, [.ref (u1 1)])), (u1 1, .inl (cI, 24, .inl (fun _ => 0)))]) ++ [(q2, .inr (4, [.ref (u2 1)])), (u2 1, .inl (cI, 24, .inl (fun _ => 0)))]) ++ [(q3, .inr (4, [.ref (u3 1)])), (u3 1, .inl (cI, 24, .inl (fun _ => 0)))]) ++ [(q4, .inr (4, [.ref (u4 1)])), (u4 1, .inl (cI, 30, .inl (fun _ => 0)))]) ++ [(q5, .inr (4, [.ref (u5 1)])), (u5 1, .inl (cI, 30, .inl (fun _ => 0)))])) [0, 11, 12, 1, 2, 3, 4, 5, 6, 7, 8, 9, 10] (by decide) rfl
  generalize H1 = H at hP hS ⊢
  refine lv_iinc (v := nI 4) (lv' := [(1, .int (nI 4)), (0, .ref h0)]) hx hb dX5_init_104 hl (k := 0) rfl (by decide) (by decide) rfl (fun ls hl => ?_)
  refine lv_goto (tgt := 83) hx hb dX5_init_107 (by decide) ?_
  refine lv_iload_n hx hb dX5_init_83 rfl (lv_at hl 0 rfl) ?_
  refine va_getsN (C := "TaskSheets") (n := "INITIAL") (d := "[I") (host := "TaskSheets") hx hb hZI hS hown (va_Nw.use rfl (hZ.2.2.2.2.2.1 (RX5, 35, "TaskSheets", "INITIAL", "[I", "TaskSheets") (by decide +kernel))) (fun _ h9 => h9) dX5_init_84 ?_
  refine va_tlen hx hb hTI hS (v := nI 4) rfl dX5_init_87 ?_
  refine lv_icmp_ge (tgt := 110) hx hb dX5_init_88 (by decide) (fun _ => ?_) (fun h9 => absurd (by decide) h9)
  have hP9 : va_P D vwCl (wPlan cI h0 (fun i => ([h0, q0, u0 1, q1, u1 1, q2, u2 1, q3, u3 1, q4, u4 1, q5, u5 1] : List Nat).getD i 0)) H := hP
  have hD9 : va_D A (wPlan cI h0 (fun i => ([h0, q0, u0 1, q1, u1 1, q2, u2 1, q3, u3 1, q4, u4 1, q5, u5 1] : List Nat).getD i 0)) := hD
  refine W.widen (k := 12) (n := 142) (Nat.le_of_ble_eq_true rfl) (Nat.le_of_ble_eq_true rfl) ?_
  subst hAe
  exact W.vret hx hb hr (fun t ht hW => ⟨⟨(fun i => ([h0, q0, u0 1, q1, u1 1, q2, u2 1, q3, u3 1, q4, u4 1, q5, u5 1] : List Nat).getD i 0), rfl, trivial, by rw [ht]; exact hP9, hD9⟩, hS.F ht⟩) hS.2.2 dX5_init_110
def wHist (cI cP : ClassId) (h0 : Nat) (u : Nat → Nat) : va_W := ([(h0, .inr (3, [.ref (u 1), .int 0, .int 0])), (u 1, .inl (cP, 4, .inr (.inr (.inr (.inr (va_up (va_up (va_up (va_up (fun _ => none) 0 (some (u 2))) 1 (some (u 15))) 2 (some (u 28))) 3 (some (u 41))))))))] ++ wPlan cI (u 2) (fun i => u (2 + i)) ++ wPlan cI (u 15) (fun i => u (15 + i)) ++ wPlan cI (u 28) (fun i => u (28 + i)) ++ wPlan cI (u 41) (fun i => u (41 + i)))
set_option maxHeartbeats 8000000 in
set_option maxRecDepth 100000 in
theorem ccX3_init (l : Launch) (D : va_G) (cI cP : ClassId) (B h0 sz : Nat) : Met l yX3_init (gWs yX3_init cX3_init 2 none) ({ frames := 3, cells := 53, slots := 604, locals := 62 } : Room) (cPre D cI cP B [.ref h0] [(h0, .inr (3, [.null, .int 0, .int 0]))] sz) (cPost D (wHist cI cP h0) [(h0, .inr (3, [.null, .int 0, .int 0]))] sz) 53 604 (va_A [(h0, .inr (3, [.null, .int 0, .int 0]))] sz) := by
  refine Met.ofW (cc := cX3_init) (maxL := 2) (ret := none) (by decide) rfl ?_
  intro p e s m args below meth c s₁ B0 hml hv
  obtain ⟨rfl, hsz, hP, hK, hD0, hBs, hZ, hAO⟩ := hv
  have hx := B0.exec
  have hb := B0.bytes
  have hr := B0.returns
  have hts0 := atoms_spec (ws := gWs yX3_init cX3_init 2 none) B0.pre
  have hts : ∀ w ∈ gLW, w.before _ s = true := fun w hw => hts0 w (List.mem_cons_of_mem _ hw)
  have hown : s.vm.findClass RX3 = some m.cls := findClass_of_methodNamed B0.named
  have hlocks := B0.notSynchronized
  have hin : meth.name = "<init>" := (name_of_methodNamed B0.named B0.method).1
  subst hsz
  have hD := hD0.self (sz := s.heap.size)
  have hAB0 : ∀ q : Nat, va_A [(h0, .inr (3, [.null, .int 0, .int 0]))] s.heap.size q → B ≤ q := fun q h => by
    rcases h with ⟨k, e9, h⟩ | h
    · exact hD0.2 k _ h
    · exact Nat.le_trans hBs h
  generalize hAe : va_A [(h0, .inr (3, [.null, .int 0, .int 0]))] s.heap.size = A at hD hAB0 ⊢
  have hAB : ∀ q : Nat, A q → B ≤ q := hAB0
  have hA : ∀ q : Nat, s.heap.size ≤ q → A q := fun q h => by rw [← hAe]; exact Or.inr h
  have hS : va_S A s.heap s.heap [] := va_S.rf
  have hl := lv_entry ([.ref h0]) (n := 2) (Nat.le_of_ble_eq_true rfl)
  rw [lg_entry_eq]
  generalize (lg_sl ([.ref h0]) ++ List.replicate (2 - (lg_sl ([.ref h0])).length) Slot.unset).toArray = ls at hl ⊢
  have hl : lv_has ls 2 [(0, .ref h0)] := hl
  obtain ⟨tI, hZI, hTI⟩ := hZ.1 ("INITIAL", [8, 20, 1, 0]) (by decide +kernel)
  have hZI := hZI.narrow hAB
  have hTI := hTI.narrow hAB
  refine lv_aload_n hx hb dX3_init_0 rfl (lv_at hl 0 rfl) ?_
  refine W.objInit hx hb hown (hts _ q_ml_X3_3) (hts _ q_im_obj) (hts _ q_co_obj) rfl (by rw [hml]; exact hl.1) rfl dX3_init_1 (Nat.le_of_ble_eq_true rfl) (Nat.le_of_ble_eq_true rfl) ?_
  refine W.eq (g2 := F0 m 4 ls []) rfl ?_
  refine lv_aload_n hx hb dX3_init_4 rfl (lv_at hl 0 rfl) ?_
  refine lv_iconst (v := nI 4) hx hb dX3_init_5 (by decide) ?_
  refine va_newq hx hb hown (hts _ q_cl_X3_9) hAO hK hP hD hS hA (N' := 4) (by decide) (by decide) (by decide) (Nat.le_of_ble_eq_true rfl) (Nat.le_of_ble_eq_true rfl) dX3_init_6 (fun q0 cA H hK hP hD hS => ?_)
  have hcc : cP = cA := (g_sameP hK 1 2 rfl rfl).symm
  subst hcc
  have hK := hK.sub (tys' := [(cI, .int), (cP, .object "TaskSheets$Plan")]) [0, 1] rfl
  have hP : va_P D vwCl ([(h0, .inr (3, [.null, .int 0, .int 0]))] ++ [(q0, .inl (cP, 4, .inr (.inr (.inr (.inr (fun _ => none))))))]) H := hP
  have hD : va_D A ([(h0, .inr (3, [.null, .int 0, .int 0]))] ++ [(q0, .inl (cP, 4, .inr (.inr (.inr (.inr (fun _ => none))))))]) := hD
  refine va_putF (D := D) (ci := 3) (v := .ref q0) (ty := .array (.object "TaskSheets$Plan")) (C := RX3) (T := TX3) (N := 3) hx hb hts q_ws_X3 tyX3 tyX3_ok nmX3 hown hK hP hD hS 0 rfl rfl 0 (by decide) (hts _ q_fl_X3_11) (fun _ h9 => h9) rfl hin rfl (by decide +kernel) rfl rfl (Nat.le_of_ble_eq_true rfl) dX3_init_9 (fun H locs hP hD hS => ?_)
  have hP : va_P D vwCl ([(h0, .inr (3, [.ref q0, .int 0, .int 0]))] ++ [(q0, .inl (cP, 4, .inr (.inr (.inr (.inr (fun _ => none))))))]) H := hP
  have hD : va_D A ([(h0, .inr (3, [.ref q0, .int 0, .int 0]))] ++ [(q0, .inl (cP, 4, .inr (.inr (.inr (.inr (fun _ => none))))))]) := hD
  refine lv_iconst (v := nI 0) hx hb dX3_init_12 (by decide) ?_
  refine lv_istore_n (lv' := [(1, .int (nI 0)), (0, .ref h0)]) hx hb dX3_init_13 rfl hl (by decide) rfl (fun ls hl => ?_)
  refine lv_iload_n hx hb dX3_init_14 rfl (lv_at hl 0 rfl) ?_
  refine lv_aload_n hx hb dX3_init_15 rfl (lv_at hl 1 rfl) ?_
  refine va_get (D := D) (ci := 3) (v := .ref q0) (C := RX3) (T := TX3) (N := 3) hx hb hts q_ws_X3 hown hK hP 0 rfl rfl 0 (by decide) (hts _ q_fl_X3_11) (fun _ h9 => h9) rfl dX3_init_16 ?_
  refine va_alen (v := nI 4) hx hb hK hP 1 1 rfl rfl rfl dX3_init_19 ?_
  refine lv_icmp_ge (tgt := 42) hx hb dX3_init_20 (by decide) (fun h9 => absurd h9 (by decide)) (fun _ => ?_)
  refine lv_aload_n hx hb dX3_init_23 rfl (lv_at hl 1 rfl) ?_
  refine va_get (D := D) (ci := 3) (v := .ref q0) (C := RX3) (T := TX3) (N := 3) hx hb hts q_ws_X3 hown hK hP 0 rfl rfl 0 (by decide) (hts _ q_fl_X3_11) (fun _ h9 => h9) rfl dX3_init_24 ?_
  refine lv_iload_n hx hb dX3_init_27 rfl (lv_at hl 0 rfl) ?_
  refine va_new (ci := 5) (fs := [.null, .null, .null, .null, .null, .null, .int 0, .int 0]) (C := RX5) (T := TX5) (N := 8) hx hb hts q_ws_X5 tyX5 tyX5_ok hown (hts _ q_cl_X3_9) (hts _ q_ia_X5) (hts _ q_in_X5) hK hP hD hS hA rfl (fun j hj => by rcases (show j = 0 ∨ j = 1 ∨ j = 2 ∨ j = 3 ∨ j = 4 ∨ j = 5 ∨ j = 6 ∨ j = 7 by omega) with rfl | rfl | rfl | rfl | rfl | rfl | rfl | rfl <;> rfl) (Nat.le_of_ble_eq_true rfl) (Nat.le_of_ble_eq_true rfl) dX3_init_28 (fun q1 H hP hD hS => ?_)
  have hP : va_P D vwCl (([(h0, .inr (3, [.ref q0, .int 0, .int 0]))] ++ [(q0, .inl (cP, 4, .inr (.inr (.inr (.inr (fun _ => none))))))]) ++ [(q1, .inr (5, [.null, .null, .null, .null, .null, .null, .int 0, .int 0]))]) H := hP
  have hD : va_D A (([(h0, .inr (3, [.ref q0, .int 0, .int 0]))] ++ [(q0, .inl (cP, 4, .inr (.inr (.inr (.inr (fun _ => none))))))]) ++ [(q1, .inr (5, [.null, .null, .null, .null, .null, .null, .int 0, .int 0]))]) := hD
  refine lv_dup hx hb dX3_init_31 rfl ?_
  have hts2 : ∀ w ∈ gWs yX5_init cX5_init 2 none, w.before _ s = true := fun w hw => (List.mem_cons.mp hw).elim (fun e => by rw [e]; exact hts _ q_co_X5_init) (hts w)
  have hFc := g_freeLast hD hS hA
  refine va_callv (A1 := va_A [(q1, .inr (5, [.null, .null, .null, .null, .null, .null, .int 0, .int 0]))] H.size) (va_runI (As := []) (rest := [.ref q1, .int (nI 0), .ref q0]) ⟨hx, hb, hml, hown, hts⟩ (ccX5_init l D cI cP B q1 H.size) (cwI 0 hts2 (gGood (n := 2) (r := none) q_co_X5_init) rfl rfl rfl (hts _ q_in_X5) (hts _ q_ml_X3_17) (hts _ q_im_X5_init) rfl (by decide +kernel) ⟨Nat.le_of_ble_eq_true rfl, Nat.le_of_ble_eq_true rfl⟩) ⟨cPre_blind, fun U hU hW => ⟨rfl, by rw [hU], by rw [hU]; exact g_lastP hP, va_K.moved hW.alike (hK.sub (tys' := [(cI, .int), (cP, .object "TaskSheets$Plan")]) [0, 1] rfl), g_lastD hD hAB, Nat.le_trans hBs hS.1, by rw [hU]; exact hZ.go (hS.wide hAB) hW, va_AO.moved hW.alike hAO⟩⟩ rfl rfl hl.1 rfl (lv_room (Nat.le_of_ble_eq_true rfl)) dX3_init_32 ⟨Nat.le_of_ble_eq_true rfl, Nat.le_of_ble_eq_true rfl⟩) hS (fun q _ h => hFc q h) hFc (fun u1 t H1 locs1 ht hvm hw hB hz1 hk1 hS => ?_)
  obtain ⟨hP1, hD1⟩ := hB
  rw [ht] at hP1
  obtain ⟨hP, hD⟩ := g_joinLast (w1 := (wPlan cI q1 u1)) hP hD hk1 hFc hP1 hD1
  generalize H1 = H at hP hS ⊢
  have hP : va_P D vwCl (([(h0, .inr (3, [.ref q0, .int 0, .int 0]))] ++ [(q0, .inl (cP, 4, .inr (.inr (.inr (.inr (fun _ => none))))))]) ++ (wPlan cI q1 u1)) H := hP
  have hD : va_D A (([(h0, .inr (3, [.ref q0, .int 0, .int 0]))] ++ [(q0, .inl (cP, 4, .inr (.inr (.inr (.inr (fun _ => none))))))]) ++ (wPlan cI q1 u1)) := hD
  refine va_astq hx hb hK hP hD hS 1 1 2 5 rfl rfl rfl rfl (vp_in_nI (by decide) (by decide)) dX3_init_35 (fun H locs hP hD hS => ?_)
  rw [nI_clamp (by decide)] at hP hD
  have hP : va_P D vwCl (([(h0, .inr (3, [.ref q0, .int 0, .int 0]))] ++ [(q0, .inl (cP, 4, .inr (.inr (.inr (.inr (va_up (fun _ => none) 0 (some q1)))))))]) ++ (wPlan cI q1 u1)) H := hP
  have hD : va_D A (([(h0, .inr (3, [.ref q0, .int 0, .int 0]))] ++ [(q0, .inl (cP, 4, .inr (.inr (.inr (.inr (va_up (fun _ => none) 0 (some q1)))))))]) ++ (wPlan cI q1 u1)) := hD
  refine lv_iinc (v := nI 1) (lv' := [(1, .int (nI 1)), (0, .ref h0)]) hx hb dX3_init_36 hl (k := 0) rfl (by decide) (by decide) rfl (fun ls hl => ?_)
  refine lv_goto (tgt := 14) hx hb dX3_init_39 (by decide) ?_
  refine lv_iload_n hx hb dX3_init_14 rfl (lv_at hl 0 rfl) ?_
  refine lv_aload_n hx hb dX3_init_15 rfl (lv_at hl 1 rfl) ?_
  refine va_get (D := D) (ci := 3) (v := .ref q0) (C := RX3) (T := TX3) (N := 3) hx hb hts q_ws_X3 hown hK hP 0 rfl rfl 0 (by decide) (hts _ q_fl_X3_11) (fun _ h9 => h9) rfl dX3_init_16 ?_
  refine va_alen (v := nI 4) hx hb hK hP 1 1 rfl rfl rfl dX3_init_19 ?_
  refine lv_icmp_ge (tgt := 42) hx hb dX3_init_20 (by decide) (fun h9 => absurd h9 (by decide)) (fun _ => ?_)
  refine lv_aload_n hx hb dX3_init_23 rfl (lv_at hl 1 rfl) ?_
  refine va_get (D := D) (ci := 3) (v := .ref q0) (C := RX3) (T := TX3) (N := 3) hx hb hts q_ws_X3 hown hK hP 0 rfl rfl 0 (by decide) (hts _ q_fl_X3_11) (fun _ h9 => h9) rfl dX3_init_24 ?_
  refine lv_iload_n hx hb dX3_init_27 rfl (lv_at hl 0 rfl) ?_
  refine va_new (ci := 5) (fs := [.null, .null, .null, .null, .null, .null, .int 0, .int 0]) (C := RX5) (T := TX5) (N := 8) hx hb hts q_ws_X5 tyX5 tyX5_ok hown (hts _ q_cl_X3_9) (hts _ q_ia_X5) (hts _ q_in_X5) hK hP hD hS hA rfl (fun j hj => by rcases (show j = 0 ∨ j = 1 ∨ j = 2 ∨ j = 3 ∨ j = 4 ∨ j = 5 ∨ j = 6 ∨ j = 7 by omega) with rfl | rfl | rfl | rfl | rfl | rfl | rfl | rfl <;> rfl) (Nat.le_of_ble_eq_true rfl) (Nat.le_of_ble_eq_true rfl) dX3_init_28 (fun q2 H hP hD hS => ?_)
  have hP : va_P D vwCl ((([(h0, .inr (3, [.ref q0, .int 0, .int 0]))] ++ [(q0, .inl (cP, 4, .inr (.inr (.inr (.inr (va_up (fun _ => none) 0 (some q1)))))))]) ++ (wPlan cI q1 u1)) ++ [(q2, .inr (5, [.null, .null, .null, .null, .null, .null, .int 0, .int 0]))]) H := hP
  have hD : va_D A ((([(h0, .inr (3, [.ref q0, .int 0, .int 0]))] ++ [(q0, .inl (cP, 4, .inr (.inr (.inr (.inr (va_up (fun _ => none) 0 (some q1)))))))]) ++ (wPlan cI q1 u1)) ++ [(q2, .inr (5, [.null, .null, .null, .null, .null, .null, .int 0, .int 0]))]) := hD
  refine lv_dup hx hb dX3_init_31 rfl ?_
  have hts2 : ∀ w ∈ gWs yX5_init cX5_init 2 none, w.before _ s = true := fun w hw => (List.mem_cons.mp hw).elim (fun e => by rw [e]; exact hts _ q_co_X5_init) (hts w)
  have hFc := g_freeLast hD hS hA
  refine va_callv (A1 := va_A [(q2, .inr (5, [.null, .null, .null, .null, .null, .null, .int 0, .int 0]))] H.size) (va_runI (As := []) (rest := [.ref q2, .int (nI 1), .ref q0]) ⟨hx, hb, hml, hown, hts⟩ (ccX5_init l D cI cP B q2 H.size) (cwI 0 hts2 (gGood (n := 2) (r := none) q_co_X5_init) rfl rfl rfl (hts _ q_in_X5) (hts _ q_ml_X3_17) (hts _ q_im_X5_init) rfl (by decide +kernel) ⟨Nat.le_of_ble_eq_true rfl, Nat.le_of_ble_eq_true rfl⟩) ⟨cPre_blind, fun U hU hW => ⟨rfl, by rw [hU], by rw [hU]; exact g_lastP hP, va_K.moved hW.alike (hK.sub (tys' := [(cI, .int), (cP, .object "TaskSheets$Plan")]) [0, 1] rfl), g_lastD hD hAB, Nat.le_trans hBs hS.1, by rw [hU]; exact hZ.go (hS.wide hAB) hW, va_AO.moved hW.alike hAO⟩⟩ rfl rfl hl.1 rfl (lv_room (Nat.le_of_ble_eq_true rfl)) dX3_init_32 ⟨Nat.le_of_ble_eq_true rfl, Nat.le_of_ble_eq_true rfl⟩) hS (fun q _ h => hFc q h) hFc (fun u2 t H1 locs1 ht hvm hw hB hz1 hk1 hS => ?_)
  obtain ⟨hP1, hD1⟩ := hB
  rw [ht] at hP1
  obtain ⟨hP, hD⟩ := g_joinLast (w1 := (wPlan cI q2 u2)) hP hD hk1 hFc hP1 hD1
  generalize H1 = H at hP hS ⊢
  have hP : va_P D vwCl ((([(h0, .inr (3, [.ref q0, .int 0, .int 0]))] ++ [(q0, .inl (cP, 4, .inr (.inr (.inr (.inr (va_up (fun _ => none) 0 (some q1)))))))]) ++ (wPlan cI q1 u1)) ++ (wPlan cI q2 u2)) H := hP
  have hD : va_D A ((([(h0, .inr (3, [.ref q0, .int 0, .int 0]))] ++ [(q0, .inl (cP, 4, .inr (.inr (.inr (.inr (va_up (fun _ => none) 0 (some q1)))))))]) ++ (wPlan cI q1 u1)) ++ (wPlan cI q2 u2)) := hD
  refine va_astq hx hb hK hP hD hS 1 1 15 5 rfl rfl rfl rfl (vp_in_nI (by decide) (by decide)) dX3_init_35 (fun H locs hP hD hS => ?_)
  rw [nI_clamp (by decide)] at hP hD
  have hP : va_P D vwCl ((([(h0, .inr (3, [.ref q0, .int 0, .int 0]))] ++ [(q0, .inl (cP, 4, .inr (.inr (.inr (.inr (va_up (va_up (fun _ => none) 0 (some q1)) 1 (some q2)))))))]) ++ (wPlan cI q1 u1)) ++ (wPlan cI q2 u2)) H := hP
  have hD : va_D A ((([(h0, .inr (3, [.ref q0, .int 0, .int 0]))] ++ [(q0, .inl (cP, 4, .inr (.inr (.inr (.inr (va_up (va_up (fun _ => none) 0 (some q1)) 1 (some q2)))))))]) ++ (wPlan cI q1 u1)) ++ (wPlan cI q2 u2)) := hD
  refine lv_iinc (v := nI 2) (lv' := [(1, .int (nI 2)), (0, .ref h0)]) hx hb dX3_init_36 hl (k := 0) rfl (by decide) (by decide) rfl (fun ls hl => ?_)
  refine lv_goto (tgt := 14) hx hb dX3_init_39 (by decide) ?_
  refine lv_iload_n hx hb dX3_init_14 rfl (lv_at hl 0 rfl) ?_
  refine lv_aload_n hx hb dX3_init_15 rfl (lv_at hl 1 rfl) ?_
  refine va_get (D := D) (ci := 3) (v := .ref q0) (C := RX3) (T := TX3) (N := 3) hx hb hts q_ws_X3 hown hK hP 0 rfl rfl 0 (by decide) (hts _ q_fl_X3_11) (fun _ h9 => h9) rfl dX3_init_16 ?_
  refine va_alen (v := nI 4) hx hb hK hP 1 1 rfl rfl rfl dX3_init_19 ?_
  refine lv_icmp_ge (tgt := 42) hx hb dX3_init_20 (by decide) (fun h9 => absurd h9 (by decide)) (fun _ => ?_)
  refine lv_aload_n hx hb dX3_init_23 rfl (lv_at hl 1 rfl) ?_
  refine va_get (D := D) (ci := 3) (v := .ref q0) (C := RX3) (T := TX3) (N := 3) hx hb hts q_ws_X3 hown hK hP 0 rfl rfl 0 (by decide) (hts _ q_fl_X3_11) (fun _ h9 => h9) rfl dX3_init_24 ?_
  refine lv_iload_n hx hb dX3_init_27 rfl (lv_at hl 0 rfl) ?_
  refine va_new (ci := 5) (fs := [.null, .null, .null, .null, .null, .null, .int 0, .int 0]) (C := RX5) (T := TX5) (N := 8) hx hb hts q_ws_X5 tyX5 tyX5_ok hown (hts _ q_cl_X3_9) (hts _ q_ia_X5) (hts _ q_in_X5) hK hP hD hS hA rfl (fun j hj => by rcases (show j = 0 ∨ j = 1 ∨ j = 2 ∨ j = 3 ∨ j = 4 ∨ j = 5 ∨ j = 6 ∨ j = 7 by omega) with rfl | rfl | rfl | rfl | rfl | rfl | rfl | rfl <;> rfl) (Nat.le_of_ble_eq_true rfl) (Nat.le_of_ble_eq_true rfl) dX3_init_28 (fun q3 H hP hD hS => ?_)
  have hP : va_P D vwCl (((([(h0, .inr (3, [.ref q0, .int 0, .int 0]))] ++ [(q0, .inl (cP, 4, .inr (.inr (.inr (.inr (va_up (va_up (fun _ => none) 0 (some q1)) 1 (some q2)))))))]) ++ (wPlan cI q1 u1)) ++ (wPlan cI q2 u2)) ++ [(q3, .inr (5, [.null, .null, .null, .null, .null, .null, .int 0, .int 0]))]) H := hP
  have hD : va_D A (((([(h0, .inr (3, [.ref q0, .int 0, .int 0]))] ++ [(q0, .inl (cP, 4, .inr (.inr (.inr (.inr (va_up (va_up (fun _ => none) 0 (some q1)) 1 (some q2)))))))]) ++ (wPlan cI q1 u1)) ++ (wPlan cI q2 u2)) ++ [(q3, .inr (5, [.null, .null, .null, .null, .null, .null, .int 0, .int 0]))]) := hD
  refine lv_dup hx hb dX3_init_31 rfl ?_
  have hts2 : ∀ w ∈ gWs yX5_init cX5_init 2 none, w.before _ s = true := fun w hw => (List.mem_cons.mp hw).elim (fun e => by rw [e]; exact hts _ q_co_X5_init) (hts w)
  have hFc := g_freeLast hD hS hA
  refine va_callv (A1 := va_A [(q3, .inr (5, [.null, .null, .null, .null, .null, .null, .int 0, .int 0]))] H.size) (va_runI (As := []) (rest := [.ref q3, .int (nI 2), .ref q0]) ⟨hx, hb, hml, hown, hts⟩ (ccX5_init l D cI cP B q3 H.size) (cwI 0 hts2 (gGood (n := 2) (r := none) q_co_X5_init) rfl rfl rfl (hts _ q_in_X5) (hts _ q_ml_X3_17) (hts _ q_im_X5_init) rfl (by decide +kernel) ⟨Nat.le_of_ble_eq_true rfl, Nat.le_of_ble_eq_true rfl⟩) ⟨cPre_blind, fun U hU hW => ⟨rfl, by rw [hU], by rw [hU]; exact g_lastP hP, va_K.moved hW.alike (hK.sub (tys' := [(cI, .int), (cP, .object "TaskSheets$Plan")]) [0, 1] rfl), g_lastD hD hAB, Nat.le_trans hBs hS.1, by rw [hU]; exact hZ.go (hS.wide hAB) hW, va_AO.moved hW.alike hAO⟩⟩ rfl rfl hl.1 rfl (lv_room (Nat.le_of_ble_eq_true rfl)) dX3_init_32 ⟨Nat.le_of_ble_eq_true rfl, Nat.le_of_ble_eq_true rfl⟩) hS (fun q _ h => hFc q h) hFc (fun u3 t H1 locs1 ht hvm hw hB hz1 hk1 hS => ?_)
  obtain ⟨hP1, hD1⟩ := hB
  rw [ht] at hP1
  obtain ⟨hP, hD⟩ := g_joinLast (w1 := (wPlan cI q3 u3)) hP hD hk1 hFc hP1 hD1
  generalize H1 = H at hP hS ⊢
  have hP : va_P D vwCl (((([(h0, .inr (3, [.ref q0, .int 0, .int 0]))] ++ [(q0, .inl (cP, 4, .inr (.inr (.inr (.inr (va_up (va_up (fun _ => none) 0 (some q1)) 1 (some q2)))))))]) ++ (wPlan cI q1 u1)) ++ (wPlan cI q2 u2)) ++ (wPlan cI q3 u3)) H := hP
  have hD : va_D A (((([(h0, .inr (3, [.ref q0, .int 0, .int 0]))] ++ [(q0, .inl (cP, 4, .inr (.inr (.inr (.inr (va_up (va_up (fun _ => none) 0 (some q1)) 1 (some q2)))))))]) ++ (wPlan cI q1 u1)) ++ (wPlan cI q2 u2)) ++ (wPlan cI q3 u3)) := hD
  refine va_astq hx hb hK hP hD hS 1 1 28 5 rfl rfl rfl rfl (vp_in_nI (by decide) (by decide)) dX3_init_35 (fun H locs hP hD hS => ?_)
  rw [nI_clamp (by decide)] at hP hD
  have hP : va_P D vwCl (((([(h0, .inr (3, [.ref q0, .int 0, .int 0]))] ++ [(q0, .inl (cP, 4, .inr (.inr (.inr (.inr (va_up (va_up (va_up (fun _ => none) 0 (some q1)) 1 (some q2)) 2 (some q3)))))))]) ++ (wPlan cI q1 u1)) ++ (wPlan cI q2 u2)) ++ (wPlan cI q3 u3)) H := hP
  have hD : va_D A (((([(h0, .inr (3, [.ref q0, .int 0, .int 0]))] ++ [(q0, .inl (cP, 4, .inr (.inr (.inr (.inr (va_up (va_up (va_up (fun _ => none) 0 (some q1)) 1 (some q2)) 2 (some q3)))))))]) ++ (wPlan cI q1 u1)) ++ (wPlan cI q2 u2)) ++ (wPlan cI q3 u3)) := hD
  refine lv_iinc (v := nI 3) (lv' := [(1, .int (nI 3)), (0, .ref h0)]) hx hb dX3_init_36 hl (k := 0) rfl (by decide) (by decide) rfl (fun ls hl => ?_)
  refine lv_goto (tgt := 14) hx hb dX3_init_39 (by decide) ?_
  refine lv_iload_n hx hb dX3_init_14 rfl (lv_at hl 0 rfl) ?_
  refine lv_aload_n hx hb dX3_init_15 rfl (lv_at hl 1 rfl) ?_
  refine va_get (D := D) (ci := 3) (v := .ref q0) (C := RX3) (T := TX3) (N := 3) hx hb hts q_ws_X3 hown hK hP 0 rfl rfl 0 (by decide) (hts _ q_fl_X3_11) (fun _ h9 => h9) rfl dX3_init_16 ?_
  refine va_alen (v := nI 4) hx hb hK hP 1 1 rfl rfl rfl dX3_init_19 ?_
  refine lv_icmp_ge (tgt := 42) hx hb dX3_init_20 (by decide) (fun h9 => absurd h9 (by decide)) (fun _ => ?_)
  refine lv_aload_n hx hb dX3_init_23 rfl (lv_at hl 1 rfl) ?_
  refine va_get (D := D) (ci := 3) (v := .ref q0) (C := RX3) (T := TX3) (N := 3) hx hb hts q_ws_X3 hown hK hP 0 rfl rfl 0 (by decide) (hts _ q_fl_X3_11) (fun _ h9 => h9) rfl dX3_init_24 ?_
  refine lv_iload_n hx hb dX3_init_27 rfl (lv_at hl 0 rfl) ?_
  refine va_new (ci := 5) (fs := [.null, .null, .null, .null, .null, .null, .int 0, .int 0]) (C := RX5) (T := TX5) (N := 8) hx hb hts q_ws_X5 tyX5 tyX5_ok hown (hts _ q_cl_X3_9) (hts _ q_ia_X5) (hts _ q_in_X5) hK hP hD hS hA rfl (fun j hj => by rcases (show j = 0 ∨ j = 1 ∨ j = 2 ∨ j = 3 ∨ j = 4 ∨ j = 5 ∨ j = 6 ∨ j = 7 by omega) with rfl | rfl | rfl | rfl | rfl | rfl | rfl | rfl <;> rfl) (Nat.le_of_ble_eq_true rfl) (Nat.le_of_ble_eq_true rfl) dX3_init_28 (fun q4 H hP hD hS => ?_)
  have hP : va_P D vwCl ((((([(h0, .inr (3, [.ref q0, .int 0, .int 0]))] ++ [(q0, .inl (cP, 4, .inr (.inr (.inr (.inr (va_up (va_up (va_up (fun _ => none) 0 (some q1)) 1 (some q2)) 2 (some q3)))))))]) ++ (wPlan cI q1 u1)) ++ (wPlan cI q2 u2)) ++ (wPlan cI q3 u3)) ++ [(q4, .inr (5, [.null, .null, .null, .null, .null, .null, .int 0, .int 0]))]) H := hP
  have hD : va_D A ((((([(h0, .inr (3, [.ref q0, .int 0, .int 0]))] ++ [(q0, .inl (cP, 4, .inr (.inr (.inr (.inr (va_up (va_up (va_up (fun _ => none) 0 (some q1)) 1 (some q2)) 2 (some q3)))))))]) ++ (wPlan cI q1 u1)) ++ (wPlan cI q2 u2)) ++ (wPlan cI q3 u3)) ++ [(q4, .inr (5, [.null, .null, .null, .null, .null, .null, .int 0, .int 0]))]) := hD
  refine lv_dup hx hb dX3_init_31 rfl ?_
  have hts2 : ∀ w ∈ gWs yX5_init cX5_init 2 none, w.before _ s = true := fun w hw => (List.mem_cons.mp hw).elim (fun e => by rw [e]; exact hts _ q_co_X5_init) (hts w)
  have hFc := g_freeLast hD hS hA
  refine va_callv (A1 := va_A [(q4, .inr (5, [.null, .null, .null, .null, .null, .null, .int 0, .int 0]))] H.size) (va_runI (As := []) (rest := [.ref q4, .int (nI 3), .ref q0]) ⟨hx, hb, hml, hown, hts⟩ (ccX5_init l D cI cP B q4 H.size) (cwI 0 hts2 (gGood (n := 2) (r := none) q_co_X5_init) rfl rfl rfl (hts _ q_in_X5) (hts _ q_ml_X3_17) (hts _ q_im_X5_init) rfl (by decide +kernel) ⟨Nat.le_of_ble_eq_true rfl, Nat.le_of_ble_eq_true rfl⟩) ⟨cPre_blind, fun U hU hW => ⟨rfl, by rw [hU], by rw [hU]; exact g_lastP hP, va_K.moved hW.alike (hK.sub (tys' := [(cI, .int), (cP, .object "TaskSheets$Plan")]) [0, 1] rfl), g_lastD hD hAB, Nat.le_trans hBs hS.1, by rw [hU]; exact hZ.go (hS.wide hAB) hW, va_AO.moved hW.alike hAO⟩⟩ rfl rfl hl.1 rfl (lv_room (Nat.le_of_ble_eq_true rfl)) dX3_init_32 ⟨Nat.le_of_ble_eq_true rfl, Nat.le_of_ble_eq_true rfl⟩) hS (fun q _ h => hFc q h) hFc (fun u4 t H1 locs1 ht hvm hw hB hz1 hk1 hS => ?_)
  obtain ⟨hP1, hD1⟩ := hB
  rw [ht] at hP1
  obtain ⟨hP, hD⟩ := g_joinLast (w1 := (wPlan cI q4 u4)) hP hD hk1 hFc hP1 hD1
  generalize H1 = H at hP hS ⊢
  have hP : va_P D vwCl ((((([(h0, .inr (3, [.ref q0, .int 0, .int 0]))] ++ [(q0, .inl (cP, 4, .inr (.inr (.inr (.inr (va_up (va_up (va_up (fun _ => none) 0 (some q1)) 1 (some q2)) 2 (some q3)))))))]) ++ (wPlan cI q1 u1)) ++ (wPlan cI q2 u2)) ++ (wPlan cI q3 u3)) ++ (wPlan cI q4 u4)) H := hP
  have hD : va_D A ((((([(h0, .inr (3, [.ref q0, .int 0, .int 0]))] ++ [(q0, .inl (cP, 4, .inr (.inr (.inr (.inr (va_up (va_up (va_up (fun _ => none) 0 (some q1)) 1 (some q2)) 2 (some q3)))))))]) ++ (wPlan cI q1 u1)) ++ (wPlan cI q2 u2)) ++ (wPlan cI q3 u3)) ++ (wPlan cI q4 u4)) := hD
  refine va_astq hx hb hK hP hD hS 1 1 41 5 rfl rfl rfl rfl (vp_in_nI (by decide) (by decide)) dX3_init_35 (fun H locs hP hD hS => ?_)
  rw [nI_clamp (by decide)] at hP hD
  have hP : va_P D vwCl ((((([(h0, .inr (3, [.ref q0, .int 0, .int 0]))] ++ [(q0, .inl (cP, 4, .inr (.inr (.inr (.inr (va_up (va_up (va_up (va_up (fun _ => none) 0 (some q1)) 1 (some q2)) 2 (some q3)) 3 (some q4)))))))]) ++ (wPlan cI q1 u1)) ++ (wPlan cI q2 u2)) ++ (wPlan cI q3 u3)) ++ (wPlan cI q4 u4)) H := hP
  have hD : va_D A ((((([(h0, .inr (3, [.ref q0, .int 0, .int 0]))] ++ [(q0, .inl (cP, 4, .inr (.inr (.inr (.inr (va_up (va_up (va_up (va_up (fun _ => none) 0 (some q1)) 1 (some q2)) 2 (some q3)) 3 (some q4)))))))]) ++ (wPlan cI q1 u1)) ++ (wPlan cI q2 u2)) ++ (wPlan cI q3 u3)) ++ (wPlan cI q4 u4)) := hD
  refine lv_iinc (v := nI 4) (lv' := [(1, .int (nI 4)), (0, .ref h0)]) hx hb dX3_init_36 hl (k := 0) rfl (by decide) (by decide) rfl (fun ls hl => ?_)
  refine lv_goto (tgt := 14) hx hb dX3_init_39 (by decide) ?_
  refine lv_iload_n hx hb dX3_init_14 rfl (lv_at hl 0 rfl) ?_
  refine lv_aload_n hx hb dX3_init_15 rfl (lv_at hl 1 rfl) ?_
  refine va_get (D := D) (ci := 3) (v := .ref q0) (C := RX3) (T := TX3) (N := 3) hx hb hts q_ws_X3 hown hK hP 0 rfl rfl 0 (by decide) (hts _ q_fl_X3_11) (fun _ h9 => h9) rfl dX3_init_16 ?_
  refine va_alen (v := nI 4) hx hb hK hP 1 1 rfl rfl rfl dX3_init_19 ?_
  refine lv_icmp_ge (tgt := 42) hx hb dX3_init_20 (by decide) (fun _ => ?_) (fun h9 => absurd (by decide) h9)
  have hP9 : va_P D vwCl (wHist cI cP h0 (fun i => ([h0, q0, q1, u1 1, u1 2, u1 3, u1 4, u1 5, u1 6, u1 7, u1 8, u1 9, u1 10, u1 11, u1 12, q2, u2 1, u2 2, u2 3, u2 4, u2 5, u2 6, u2 7, u2 8, u2 9, u2 10, u2 11, u2 12, q3, u3 1, u3 2, u3 3, u3 4, u3 5, u3 6, u3 7, u3 8, u3 9, u3 10, u3 11, u3 12, q4, u4 1, u4 2, u4 3, u4 4, u4 5, u4 6, u4 7, u4 8, u4 9, u4 10, u4 11, u4 12] : List Nat).getD i 0)) H := hP
  have hD9 : va_D A (wHist cI cP h0 (fun i => ([h0, q0, q1, u1 1, u1 2, u1 3, u1 4, u1 5, u1 6, u1 7, u1 8, u1 9, u1 10, u1 11, u1 12, q2, u2 1, u2 2, u2 3, u2 4, u2 5, u2 6, u2 7, u2 8, u2 9, u2 10, u2 11, u2 12, q3, u3 1, u3 2, u3 3, u3 4, u3 5, u3 6, u3 7, u3 8, u3 9, u3 10, u3 11, u3 12, q4, u4 1, u4 2, u4 3, u4 4, u4 5, u4 6, u4 7, u4 8, u4 9, u4 10, u4 11, u4 12] : List Nat).getD i 0)) := hD
  refine W.widen (k := 53) (n := 604) (Nat.le_of_ble_eq_true rfl) (Nat.le_of_ble_eq_true rfl) ?_
  subst hAe
  exact W.vret hx hb hr (fun t ht hW => ⟨⟨(fun i => ([h0, q0, q1, u1 1, u1 2, u1 3, u1 4, u1 5, u1 6, u1 7, u1 8, u1 9, u1 10, u1 11, u1 12, q2, u2 1, u2 2, u2 3, u2 4, u2 5, u2 6, u2 7, u2 8, u2 9, u2 10, u2 11, u2 12, q3, u3 1, u3 2, u3 3, u3 4, u3 5, u3 6, u3 7, u3 8, u3 9, u3 10, u3 11, u3 12, q4, u4 1, u4 2, u4 3, u4 4, u4 5, u4 6, u4 7, u4 8, u4 9, u4 10, u4 11, u4 12] : List Nat).getD i 0), rfl, trivial, by rw [ht]; exact hP9, hD9⟩, hS.F ht⟩) hS.2.2 dX3_init_42
def wTask (cI cP : ClassId) (h0 : Nat) (u : Nat → Nat) : va_W := (((((((((([(h0, .inr (8, [.ref (u 1), .ref (u 14), .ref (u 27), .ref (u 81), .ref (u 84), .ref (u 87), .ref (u 96), .ref (u 105), .ref (u 118), .ref (u 127)]))] ++ wPlan cI (u 1) (fun i => u (1 + i))) ++ wPlan cI (u 14) (fun i => u (14 + i))) ++ wHist cI cP (u 27) (fun i => u (27 + i))) ++ wText cI (u 81) (fun i => u (81 + i))) ++ wChains cI (u 84) (fun i => u (84 + i))) ++ wBands cI (u 87) (fun i => u (87 + i))) ++ wSheets cI (u 96) (fun i => u (96 + i))) ++ wExits cI (u 105) (fun i => u (105 + i))) ++ wBands cI (u 118) (fun i => u (118 + i))) ++ wSheets cI (u 127) (fun i => u (127 + i)))
set_option maxHeartbeats 8000000 in
set_option maxRecDepth 100000 in
theorem ccX8_init (l : Launch) (D : va_G) (cI cP : ClassId) (B h0 sz : Nat) : Met l yX8_init (gWs yX8_init cX8_init 1 none) ({ frames := 4, cells := 135, slots := 9233, locals := 83 } : Room) (cPre D cI cP B [.ref h0] [(h0, .inr (8, [.null, .null, .null, .null, .null, .null, .null, .null, .null, .null]))] sz) (cPost D (wTask cI cP h0) [(h0, .inr (8, [.null, .null, .null, .null, .null, .null, .null, .null, .null, .null]))] sz) 135 9233 (va_A [(h0, .inr (8, [.null, .null, .null, .null, .null, .null, .null, .null, .null, .null]))] sz) := by
  refine Met.ofW (cc := cX8_init) (maxL := 1) (ret := none) (by decide) rfl ?_
  intro p e s m args below meth c s₁ B0 hml hv
  obtain ⟨rfl, hsz, hP, hK, hD0, hBs, hZ, hAO⟩ := hv
  have hx := B0.exec
  have hb := B0.bytes
  have hr := B0.returns
  have hts0 := atoms_spec (ws := gWs yX8_init cX8_init 1 none) B0.pre
  have hts : ∀ w ∈ gLW, w.before _ s = true := fun w hw => hts0 w (List.mem_cons_of_mem _ hw)
  have hown : s.vm.findClass RX8 = some m.cls := findClass_of_methodNamed B0.named
  have hlocks := B0.notSynchronized
  have hin : meth.name = "<init>" := (name_of_methodNamed B0.named B0.method).1
  subst hsz
  have hD := hD0.self (sz := s.heap.size)
  have hAB0 : ∀ q : Nat, va_A [(h0, .inr (8, [.null, .null, .null, .null, .null, .null, .null, .null, .null, .null]))] s.heap.size q → B ≤ q := fun q h => by
    rcases h with ⟨k, e9, h⟩ | h
    · exact hD0.2 k _ h
    · exact Nat.le_trans hBs h
  generalize hAe : va_A [(h0, .inr (8, [.null, .null, .null, .null, .null, .null, .null, .null, .null, .null]))] s.heap.size = A at hD hAB0 ⊢
  have hAB : ∀ q : Nat, A q → B ≤ q := hAB0
  have hA : ∀ q : Nat, s.heap.size ≤ q → A q := fun q h => by rw [← hAe]; exact Or.inr h
  have hS : va_S A s.heap s.heap [] := va_S.rf
  have hl := lv_entry ([.ref h0]) (n := 1) (Nat.le_of_ble_eq_true rfl)
  rw [lg_entry_eq]
  generalize (lg_sl ([.ref h0]) ++ List.replicate (1 - (lg_sl ([.ref h0])).length) Slot.unset).toArray = ls at hl ⊢
  have hl : lv_has ls 1 [(0, .ref h0)] := hl
  obtain ⟨tI, hZI, hTI⟩ := hZ.1 ("INITIAL", [8, 20, 1, 0]) (by decide +kernel)
  have hZI := hZI.narrow hAB
  have hTI := hTI.narrow hAB
  refine lv_aload_n hx hb dX8_init_0 rfl (lv_at hl 0 rfl) ?_
  refine W.objInit hx hb hown (hts _ q_ml_X8_3) (hts _ q_im_obj) (hts _ q_co_obj) rfl (by rw [hml]; exact hl.1) rfl dX8_init_1 (Nat.le_of_ble_eq_true rfl) (Nat.le_of_ble_eq_true rfl) ?_
  refine W.eq (g2 := F0 m 4 ls []) rfl ?_
  refine lv_aload_n hx hb dX8_init_4 rfl (lv_at hl 0 rfl) ?_
  refine va_new (ci := 5) (fs := [.null, .null, .null, .null, .null, .null, .int 0, .int 0]) (C := RX5) (T := TX5) (N := 8) hx hb hts q_ws_X5 tyX5 tyX5_ok hown (hts _ q_cl_X8_9) (hts _ q_ia_X5) (hts _ q_in_X5) hK hP hD hS hA rfl (fun j hj => by rcases (show j = 0 ∨ j = 1 ∨ j = 2 ∨ j = 3 ∨ j = 4 ∨ j = 5 ∨ j = 6 ∨ j = 7 by omega) with rfl | rfl | rfl | rfl | rfl | rfl | rfl | rfl <;> rfl) (Nat.le_of_ble_eq_true rfl) (Nat.le_of_ble_eq_true rfl) dX8_init_5 (fun q0 H hP hD hS => ?_)
  have hP : va_P D vwCl ([(h0, .inr (8, [.null, .null, .null, .null, .null, .null, .null, .null, .null, .null]))] ++ [(q0, .inr (5, [.null, .null, .null, .null, .null, .null, .int 0, .int 0]))]) H := hP
  have hD : va_D A ([(h0, .inr (8, [.null, .null, .null, .null, .null, .null, .null, .null, .null, .null]))] ++ [(q0, .inr (5, [.null, .null, .null, .null, .null, .null, .int 0, .int 0]))]) := hD
  refine lv_dup hx hb dX8_init_8 rfl ?_
  have hts2 : ∀ w ∈ gWs yX5_init cX5_init 2 none, w.before _ s = true := fun w hw => (List.mem_cons.mp hw).elim (fun e => by rw [e]; exact hts _ q_co_X5_init) (hts w)
  have hFc := g_freeLast hD hS hA
  refine va_callv (A1 := va_A [(q0, .inr (5, [.null, .null, .null, .null, .null, .null, .int 0, .int 0]))] H.size) (va_runI (As := []) (rest := [.ref q0, .ref h0]) ⟨hx, hb, hml, hown, hts⟩ (ccX5_init l D cI cP B q0 H.size) (cwI 0 hts2 (gGood (n := 2) (r := none) q_co_X5_init) rfl rfl rfl (hts _ q_in_X5) (hts _ q_ml_X8_11) (hts _ q_im_X5_init) rfl (by decide +kernel) ⟨Nat.le_of_ble_eq_true rfl, Nat.le_of_ble_eq_true rfl⟩) ⟨cPre_blind, fun U hU hW => ⟨rfl, by rw [hU], by rw [hU]; exact g_lastP hP, va_K.moved hW.alike (hK.sub (tys' := [(cI, .int), (cP, .object "TaskSheets$Plan")]) [0, 1] rfl), g_lastD hD hAB, Nat.le_trans hBs hS.1, by rw [hU]; exact hZ.go (hS.wide hAB) hW, va_AO.moved hW.alike hAO⟩⟩ rfl rfl hl.1 rfl (lv_room (Nat.le_of_ble_eq_true rfl)) dX8_init_9 ⟨Nat.le_of_ble_eq_true rfl, Nat.le_of_ble_eq_true rfl⟩) hS (fun q _ h => hFc q h) hFc (fun u0 t H1 locs1 ht hvm hw hB hz1 hk1 hS => ?_)
  obtain ⟨hP1, hD1⟩ := hB
  rw [ht] at hP1
  obtain ⟨hP, hD⟩ := g_joinLast (w1 := (wPlan cI q0 u0)) hP hD hk1 hFc hP1 hD1
  generalize H1 = H at hP hS ⊢
  have hP : va_P D vwCl ([(h0, .inr (8, [.null, .null, .null, .null, .null, .null, .null, .null, .null, .null]))] ++ (wPlan cI q0 u0)) H := hP
  have hD : va_D A ([(h0, .inr (8, [.null, .null, .null, .null, .null, .null, .null, .null, .null, .null]))] ++ (wPlan cI q0 u0)) := hD
  refine va_putF (D := D) (ci := 8) (v := .ref q0) (ty := .object "TaskSheets$Plan") (C := RX8) (T := TX8) (N := 10) hx hb hts q_ws_X8 tyX8 tyX8_ok nmX8 hown hK hP hD hS 0 rfl rfl 0 (by decide) (hts _ q_fl_X8_12) (fun _ h9 => h9) rfl hin rfl (by decide +kernel) rfl rfl (Nat.le_of_ble_eq_true rfl) dX8_init_12 (fun H locs hP hD hS => ?_)
  have hP : va_P D vwCl ([(h0, .inr (8, [.ref q0, .null, .null, .null, .null, .null, .null, .null, .null, .null]))] ++ (wPlan cI q0 u0)) H := hP
  have hD : va_D A ([(h0, .inr (8, [.ref q0, .null, .null, .null, .null, .null, .null, .null, .null, .null]))] ++ (wPlan cI q0 u0)) := hD
  refine lv_aload_n hx hb dX8_init_15 rfl (lv_at hl 0 rfl) ?_
  refine va_new (ci := 5) (fs := [.null, .null, .null, .null, .null, .null, .int 0, .int 0]) (C := RX5) (T := TX5) (N := 8) hx hb hts q_ws_X5 tyX5 tyX5_ok hown (hts _ q_cl_X8_9) (hts _ q_ia_X5) (hts _ q_in_X5) hK hP hD hS hA rfl (fun j hj => by rcases (show j = 0 ∨ j = 1 ∨ j = 2 ∨ j = 3 ∨ j = 4 ∨ j = 5 ∨ j = 6 ∨ j = 7 by omega) with rfl | rfl | rfl | rfl | rfl | rfl | rfl | rfl <;> rfl) (Nat.le_of_ble_eq_true rfl) (Nat.le_of_ble_eq_true rfl) dX8_init_16 (fun q1 H hP hD hS => ?_)
  have hP : va_P D vwCl (([(h0, .inr (8, [.ref q0, .null, .null, .null, .null, .null, .null, .null, .null, .null]))] ++ (wPlan cI q0 u0)) ++ [(q1, .inr (5, [.null, .null, .null, .null, .null, .null, .int 0, .int 0]))]) H := hP
  have hD : va_D A (([(h0, .inr (8, [.ref q0, .null, .null, .null, .null, .null, .null, .null, .null, .null]))] ++ (wPlan cI q0 u0)) ++ [(q1, .inr (5, [.null, .null, .null, .null, .null, .null, .int 0, .int 0]))]) := hD
  refine lv_dup hx hb dX8_init_19 rfl ?_
  have hts2 : ∀ w ∈ gWs yX5_init cX5_init 2 none, w.before _ s = true := fun w hw => (List.mem_cons.mp hw).elim (fun e => by rw [e]; exact hts _ q_co_X5_init) (hts w)
  have hFc := g_freeLast hD hS hA
  refine va_callv (A1 := va_A [(q1, .inr (5, [.null, .null, .null, .null, .null, .null, .int 0, .int 0]))] H.size) (va_runI (As := []) (rest := [.ref q1, .ref h0]) ⟨hx, hb, hml, hown, hts⟩ (ccX5_init l D cI cP B q1 H.size) (cwI 0 hts2 (gGood (n := 2) (r := none) q_co_X5_init) rfl rfl rfl (hts _ q_in_X5) (hts _ q_ml_X8_11) (hts _ q_im_X5_init) rfl (by decide +kernel) ⟨Nat.le_of_ble_eq_true rfl, Nat.le_of_ble_eq_true rfl⟩) ⟨cPre_blind, fun U hU hW => ⟨rfl, by rw [hU], by rw [hU]; exact g_lastP hP, va_K.moved hW.alike (hK.sub (tys' := [(cI, .int), (cP, .object "TaskSheets$Plan")]) [0, 1] rfl), g_lastD hD hAB, Nat.le_trans hBs hS.1, by rw [hU]; exact hZ.go (hS.wide hAB) hW, va_AO.moved hW.alike hAO⟩⟩ rfl rfl hl.1 rfl (lv_room (Nat.le_of_ble_eq_true rfl)) dX8_init_20 ⟨Nat.le_of_ble_eq_true rfl, Nat.le_of_ble_eq_true rfl⟩) hS (fun q _ h => hFc q h) hFc (fun u1 t H1 locs1 ht hvm hw hB hz1 hk1 hS => ?_)
  obtain ⟨hP1, hD1⟩ := hB
  rw [ht] at hP1
  obtain ⟨hP, hD⟩ := g_joinLast (w1 := (wPlan cI q1 u1)) hP hD hk1 hFc hP1 hD1
  generalize H1 = H at hP hS ⊢
  have hP : va_P D vwCl (([(h0, .inr (8, [.ref q0, .null, .null, .null, .null, .null, .null, .null, .null, .null]))] ++ (wPlan cI q0 u0)) ++ (wPlan cI q1 u1)) H := hP
  have hD : va_D A (([(h0, .inr (8, [.ref q0, .null, .null, .null, .null, .null, .null, .null, .null, .null]))] ++ (wPlan cI q0 u0)) ++ (wPlan cI q1 u1)) := hD
  refine va_putF (D := D) (ci := 8) (v := .ref q1) (ty := .object "TaskSheets$Plan") (C := RX8) (T := TX8) (N := 10) hx hb hts q_ws_X8 tyX8 tyX8_ok nmX8 hown hK hP hD hS 0 rfl rfl 1 (by decide) (hts _ q_fl_X8_16) (fun _ h9 => h9) rfl hin rfl (by decide +kernel) rfl rfl (Nat.le_of_ble_eq_true rfl) dX8_init_23 (fun H locs hP hD hS => ?_)
  have hP : va_P D vwCl (([(h0, .inr (8, [.ref q0, .ref q1, .null, .null, .null, .null, .null, .null, .null, .null]))] ++ (wPlan cI q0 u0)) ++ (wPlan cI q1 u1)) H := hP
  have hD : va_D A (([(h0, .inr (8, [.ref q0, .ref q1, .null, .null, .null, .null, .null, .null, .null, .null]))] ++ (wPlan cI q0 u0)) ++ (wPlan cI q1 u1)) := hD
  refine lv_aload_n hx hb dX8_init_26 rfl (lv_at hl 0 rfl) ?_
  refine va_new (ci := 3) (fs := [.null, .int 0, .int 0]) (C := RX3) (T := TX3) (N := 3) hx hb hts q_ws_X3 tyX3 tyX3_ok hown (hts _ q_cl_X8_19) (hts _ q_ia_X3) (hts _ q_in_X3) hK hP hD hS hA rfl (fun j hj => by rcases (show j = 0 ∨ j = 1 ∨ j = 2 by omega) with rfl | rfl | rfl <;> rfl) (Nat.le_of_ble_eq_true rfl) (Nat.le_of_ble_eq_true rfl) dX8_init_27 (fun q2 H hP hD hS => ?_)
  have hP : va_P D vwCl ((([(h0, .inr (8, [.ref q0, .ref q1, .null, .null, .null, .null, .null, .null, .null, .null]))] ++ (wPlan cI q0 u0)) ++ (wPlan cI q1 u1)) ++ [(q2, .inr (3, [.null, .int 0, .int 0]))]) H := hP
  have hD : va_D A ((([(h0, .inr (8, [.ref q0, .ref q1, .null, .null, .null, .null, .null, .null, .null, .null]))] ++ (wPlan cI q0 u0)) ++ (wPlan cI q1 u1)) ++ [(q2, .inr (3, [.null, .int 0, .int 0]))]) := hD
  refine lv_dup hx hb dX8_init_30 rfl ?_
  have hts2 : ∀ w ∈ gWs yX3_init cX3_init 2 none, w.before _ s = true := fun w hw => (List.mem_cons.mp hw).elim (fun e => by rw [e]; exact hts _ q_co_X3_init) (hts w)
  have hFc := g_freeLast hD hS hA
  refine va_callv (A1 := va_A [(q2, .inr (3, [.null, .int 0, .int 0]))] H.size) (va_runI (As := []) (rest := [.ref q2, .ref h0]) ⟨hx, hb, hml, hown, hts⟩ (ccX3_init l D cI cP B q2 H.size) (cwI 0 hts2 (gGood (n := 2) (r := none) q_co_X3_init) rfl rfl rfl (hts _ q_in_X3) (hts _ q_ml_X8_21) (hts _ q_im_X3_init) rfl (by decide +kernel) ⟨Nat.le_of_ble_eq_true rfl, Nat.le_of_ble_eq_true rfl⟩) ⟨cPre_blind, fun U hU hW => ⟨rfl, by rw [hU], by rw [hU]; exact g_lastP hP, va_K.moved hW.alike (hK.sub (tys' := [(cI, .int), (cP, .object "TaskSheets$Plan")]) [0, 1] rfl), g_lastD hD hAB, Nat.le_trans hBs hS.1, by rw [hU]; exact hZ.go (hS.wide hAB) hW, va_AO.moved hW.alike hAO⟩⟩ rfl rfl hl.1 rfl (lv_room (Nat.le_of_ble_eq_true rfl)) dX8_init_31 ⟨Nat.le_of_ble_eq_true rfl, Nat.le_of_ble_eq_true rfl⟩) hS (fun q _ h => hFc q h) hFc (fun u2 t H1 locs1 ht hvm hw hB hz1 hk1 hS => ?_)
  obtain ⟨hP1, hD1⟩ := hB
  rw [ht] at hP1
  obtain ⟨hP, hD⟩ := g_joinLast (w1 := (wHist cI cP q2 u2)) hP hD hk1 hFc hP1 hD1
  generalize H1 = H at hP hS ⊢
  have hP : va_P D vwCl ((([(h0, .inr (8, [.ref q0, .ref q1, .null, .null, .null, .null, .null, .null, .null, .null]))] ++ (wPlan cI q0 u0)) ++ (wPlan cI q1 u1)) ++ (wHist cI cP q2 u2)) H := hP
  have hD : va_D A ((([(h0, .inr (8, [.ref q0, .ref q1, .null, .null, .null, .null, .null, .null, .null, .null]))] ++ (wPlan cI q0 u0)) ++ (wPlan cI q1 u1)) ++ (wHist cI cP q2 u2)) := hD
  refine va_putF (D := D) (ci := 8) (v := .ref q2) (ty := .object "TaskSheets$History") (C := RX8) (T := TX8) (N := 10) hx hb hts q_ws_X8 tyX8 tyX8_ok nmX8 hown hK hP hD hS 0 rfl rfl 2 (by decide) (hts _ q_fl_X8_22) (fun _ h9 => h9) rfl hin rfl (by decide +kernel) rfl rfl (Nat.le_of_ble_eq_true rfl) dX8_init_34 (fun H locs hP hD hS => ?_)
  have hP : va_P D vwCl ((([(h0, .inr (8, [.ref q0, .ref q1, .ref q2, .null, .null, .null, .null, .null, .null, .null]))] ++ (wPlan cI q0 u0)) ++ (wPlan cI q1 u1)) ++ (wHist cI cP q2 u2)) H := hP
  have hD : va_D A ((([(h0, .inr (8, [.ref q0, .ref q1, .ref q2, .null, .null, .null, .null, .null, .null, .null]))] ++ (wPlan cI q0 u0)) ++ (wPlan cI q1 u1)) ++ (wHist cI cP q2 u2)) := hD
  refine lv_aload_n hx hb dX8_init_37 rfl (lv_at hl 0 rfl) ?_
  refine va_new (ci := 7) (fs := [.null, .int 0, .int 0, .int 0, .int 0]) (C := RX7) (T := TX7) (N := 5) hx hb hts q_ws_X7 tyX7 tyX7_ok hown (hts _ q_cl_X8_26) (hts _ q_ia_X7) (hts _ q_in_X7) hK hP hD hS hA rfl (fun j hj => by rcases (show j = 0 ∨ j = 1 ∨ j = 2 ∨ j = 3 ∨ j = 4 by omega) with rfl | rfl | rfl | rfl | rfl <;> rfl) (Nat.le_of_ble_eq_true rfl) (Nat.le_of_ble_eq_true rfl) dX8_init_38 (fun q3 H hP hD hS => ?_)
  have hP : va_P D vwCl (((([(h0, .inr (8, [.ref q0, .ref q1, .ref q2, .null, .null, .null, .null, .null, .null, .null]))] ++ (wPlan cI q0 u0)) ++ (wPlan cI q1 u1)) ++ (wHist cI cP q2 u2)) ++ [(q3, .inr (7, [.null, .int 0, .int 0, .int 0, .int 0]))]) H := hP
  have hD : va_D A (((([(h0, .inr (8, [.ref q0, .ref q1, .ref q2, .null, .null, .null, .null, .null, .null, .null]))] ++ (wPlan cI q0 u0)) ++ (wPlan cI q1 u1)) ++ (wHist cI cP q2 u2)) ++ [(q3, .inr (7, [.null, .int 0, .int 0, .int 0, .int 0]))]) := hD
  refine lv_dup hx hb dX8_init_41 rfl ?_
  have hts2 : ∀ w ∈ gWs yX7_init cX7_init 1 none, w.before _ s = true := fun w hw => (List.mem_cons.mp hw).elim (fun e => by rw [e]; exact hts _ q_co_X7_init) (hts w)
  have hFc := g_freeLast hD hS hA
  refine va_callv (A1 := va_A [(q3, .inr (7, [.null, .int 0, .int 0, .int 0, .int 0]))] H.size) (va_runIN (As := []) (rest := [.ref q3, .ref h0]) ⟨hx, hb, hml, hown, hts⟩ (ccX7_init l D cI cP B q3 H.size) ⟨va_cnB 0 hts2 (gGood (n := 1) (r := none) q_co_X7_init) rfl rfl rfl (hZ.2.2.2.2.1 (RX8, 28, yX7_init, RX8) (by decide +kernel)) (hts _ q_in_X7) (by decide +kernel) ⟨Nat.le_of_ble_eq_true rfl, Nat.le_of_ble_eq_true rfl⟩, rfl, hts _ q_im_X7_init⟩ ⟨cPre_blind, fun U hU hW => ⟨rfl, by rw [hU], by rw [hU]; exact g_lastP hP, va_K.moved hW.alike (hK.sub (tys' := [(cI, .int), (cP, .object "TaskSheets$Plan")]) [0, 1] rfl), g_lastD hD hAB, Nat.le_trans hBs hS.1, by rw [hU]; exact hZ.go (hS.wide hAB) hW, va_AO.moved hW.alike hAO⟩⟩ rfl rfl hl.1 rfl (lv_room (Nat.le_of_ble_eq_true rfl)) dX8_init_42 ⟨Nat.le_of_ble_eq_true rfl, Nat.le_of_ble_eq_true rfl⟩) hS (fun q _ h => hFc q h) hFc (fun u3 t H1 locs1 ht hvm hw hB hz1 hk1 hS => ?_)
  obtain ⟨hP1, hD1⟩ := hB
  rw [ht] at hP1
  obtain ⟨hP, hD⟩ := g_joinLast (w1 := (wText cI q3 u3)) hP hD hk1 hFc hP1 hD1
  generalize H1 = H at hP hS ⊢
  have hP : va_P D vwCl (((([(h0, .inr (8, [.ref q0, .ref q1, .ref q2, .null, .null, .null, .null, .null, .null, .null]))] ++ (wPlan cI q0 u0)) ++ (wPlan cI q1 u1)) ++ (wHist cI cP q2 u2)) ++ (wText cI q3 u3)) H := hP
  have hD : va_D A (((([(h0, .inr (8, [.ref q0, .ref q1, .ref q2, .null, .null, .null, .null, .null, .null, .null]))] ++ (wPlan cI q0 u0)) ++ (wPlan cI q1 u1)) ++ (wHist cI cP q2 u2)) ++ (wText cI q3 u3)) := hD
  refine va_putF (D := D) (ci := 8) (v := .ref q3) (ty := .object "TaskSheets$TaskText") (C := RX8) (T := TX8) (N := 10) hx hb hts q_ws_X8 tyX8 tyX8_ok nmX8 hown hK hP hD hS 0 rfl rfl 3 (by decide) (hts _ q_fl_X8_29) (fun _ h9 => h9) rfl hin rfl (by decide +kernel) rfl rfl (Nat.le_of_ble_eq_true rfl) dX8_init_45 (fun H locs hP hD hS => ?_)
  have hP : va_P D vwCl (((([(h0, .inr (8, [.ref q0, .ref q1, .ref q2, .ref q3, .null, .null, .null, .null, .null, .null]))] ++ (wPlan cI q0 u0)) ++ (wPlan cI q1 u1)) ++ (wHist cI cP q2 u2)) ++ (wText cI q3 u3)) H := hP
  have hD : va_D A (((([(h0, .inr (8, [.ref q0, .ref q1, .ref q2, .ref q3, .null, .null, .null, .null, .null, .null]))] ++ (wPlan cI q0 u0)) ++ (wPlan cI q1 u1)) ++ (wHist cI cP q2 u2)) ++ (wText cI q3 u3)) := hD
  refine lv_aload_n hx hb dX8_init_48 rfl (lv_at hl 0 rfl) ?_
  refine va_new (ci := 1) (fs := [.null]) (C := RX1) (T := TX1) (N := 1) hx hb hts q_ws_X1 tyX1 tyX1_ok hown (hts _ q_cl_X8_33) (hts _ q_ia_X1) (hts _ q_in_X1) hK hP hD hS hA rfl (fun j hj => by rcases (show j = 0 by omega) with rfl <;> rfl) (Nat.le_of_ble_eq_true rfl) (Nat.le_of_ble_eq_true rfl) dX8_init_49 (fun q4 H hP hD hS => ?_)
  have hP : va_P D vwCl ((((([(h0, .inr (8, [.ref q0, .ref q1, .ref q2, .ref q3, .null, .null, .null, .null, .null, .null]))] ++ (wPlan cI q0 u0)) ++ (wPlan cI q1 u1)) ++ (wHist cI cP q2 u2)) ++ (wText cI q3 u3)) ++ [(q4, .inr (1, [.null]))]) H := hP
  have hD : va_D A ((((([(h0, .inr (8, [.ref q0, .ref q1, .ref q2, .ref q3, .null, .null, .null, .null, .null, .null]))] ++ (wPlan cI q0 u0)) ++ (wPlan cI q1 u1)) ++ (wHist cI cP q2 u2)) ++ (wText cI q3 u3)) ++ [(q4, .inr (1, [.null]))]) := hD
  refine lv_dup hx hb dX8_init_52 rfl ?_
  have hts2 : ∀ w ∈ gWs yX1_init cX1_init 1 none, w.before _ s = true := fun w hw => (List.mem_cons.mp hw).elim (fun e => by rw [e]; exact hts _ q_co_X1_init) (hts w)
  have hFc := g_freeLast hD hS hA
  refine va_callv (A1 := va_A [(q4, .inr (1, [.null]))] H.size) (va_runIN (As := []) (rest := [.ref q4, .ref h0]) ⟨hx, hb, hml, hown, hts⟩ (ccX1_init l D cI cP B q4 H.size) ⟨va_cnB 0 hts2 (gGood (n := 1) (r := none) q_co_X1_init) rfl rfl rfl (hZ.2.2.2.2.1 (RX8, 35, yX1_init, RX8) (by decide +kernel)) (hts _ q_in_X1) (by decide +kernel) ⟨Nat.le_of_ble_eq_true rfl, Nat.le_of_ble_eq_true rfl⟩, rfl, hts _ q_im_X1_init⟩ ⟨cPre_blind, fun U hU hW => ⟨rfl, by rw [hU], by rw [hU]; exact g_lastP hP, va_K.moved hW.alike (hK.sub (tys' := [(cI, .int), (cP, .object "TaskSheets$Plan")]) [0, 1] rfl), g_lastD hD hAB, Nat.le_trans hBs hS.1, by rw [hU]; exact hZ.go (hS.wide hAB) hW, va_AO.moved hW.alike hAO⟩⟩ rfl rfl hl.1 rfl (lv_room (Nat.le_of_ble_eq_true rfl)) dX8_init_53 ⟨Nat.le_of_ble_eq_true rfl, Nat.le_of_ble_eq_true rfl⟩) hS (fun q _ h => hFc q h) hFc (fun u4 t H1 locs1 ht hvm hw hB hz1 hk1 hS => ?_)
  obtain ⟨hP1, hD1⟩ := hB
  rw [ht] at hP1
  obtain ⟨hP, hD⟩ := g_joinLast (w1 := (wChains cI q4 u4)) hP hD hk1 hFc hP1 hD1
  generalize H1 = H at hP hS ⊢
  have hP : va_P D vwCl ((((([(h0, .inr (8, [.ref q0, .ref q1, .ref q2, .ref q3, .null, .null, .null, .null, .null, .null]))] ++ (wPlan cI q0 u0)) ++ (wPlan cI q1 u1)) ++ (wHist cI cP q2 u2)) ++ (wText cI q3 u3)) ++ (wChains cI q4 u4)) H := hP
  have hD : va_D A ((((([(h0, .inr (8, [.ref q0, .ref q1, .ref q2, .ref q3, .null, .null, .null, .null, .null, .null]))] ++ (wPlan cI q0 u0)) ++ (wPlan cI q1 u1)) ++ (wHist cI cP q2 u2)) ++ (wText cI q3 u3)) ++ (wChains cI q4 u4)) := hD
  refine va_putF (D := D) (ci := 8) (v := .ref q4) (ty := .object "TaskSheets$Chains") (C := RX8) (T := TX8) (N := 10) hx hb hts q_ws_X8 tyX8 tyX8_ok nmX8 hown hK hP hD hS 0 rfl rfl 4 (by decide) (hts _ q_fl_X8_36) (fun _ h9 => h9) rfl hin rfl (by decide +kernel) rfl rfl (Nat.le_of_ble_eq_true rfl) dX8_init_56 (fun H locs hP hD hS => ?_)
  have hP : va_P D vwCl ((((([(h0, .inr (8, [.ref q0, .ref q1, .ref q2, .ref q3, .ref q4, .null, .null, .null, .null, .null]))] ++ (wPlan cI q0 u0)) ++ (wPlan cI q1 u1)) ++ (wHist cI cP q2 u2)) ++ (wText cI q3 u3)) ++ (wChains cI q4 u4)) H := hP
  have hD : va_D A ((((([(h0, .inr (8, [.ref q0, .ref q1, .ref q2, .ref q3, .ref q4, .null, .null, .null, .null, .null]))] ++ (wPlan cI q0 u0)) ++ (wPlan cI q1 u1)) ++ (wHist cI cP q2 u2)) ++ (wText cI q3 u3)) ++ (wChains cI q4 u4)) := hD
  refine lv_aload_n hx hb dX8_init_59 rfl (lv_at hl 0 rfl) ?_
  refine va_new (ci := 0) (fs := [.null, .null, .null, .null, .int 0, .int 0, .int 0, .int 0]) (C := RX0) (T := TX0) (N := 8) hx hb hts q_ws_X0 tyX0 tyX0_ok hown (hts _ q_cl_X8_40) (hts _ q_ia_X0) (hts _ q_in_X0) hK hP hD hS hA rfl (fun j hj => by rcases (show j = 0 ∨ j = 1 ∨ j = 2 ∨ j = 3 ∨ j = 4 ∨ j = 5 ∨ j = 6 ∨ j = 7 by omega) with rfl | rfl | rfl | rfl | rfl | rfl | rfl | rfl <;> rfl) (Nat.le_of_ble_eq_true rfl) (Nat.le_of_ble_eq_true rfl) dX8_init_60 (fun q5 H hP hD hS => ?_)
  have hP : va_P D vwCl (((((([(h0, .inr (8, [.ref q0, .ref q1, .ref q2, .ref q3, .ref q4, .null, .null, .null, .null, .null]))] ++ (wPlan cI q0 u0)) ++ (wPlan cI q1 u1)) ++ (wHist cI cP q2 u2)) ++ (wText cI q3 u3)) ++ (wChains cI q4 u4)) ++ [(q5, .inr (0, [.null, .null, .null, .null, .int 0, .int 0, .int 0, .int 0]))]) H := hP
  have hD : va_D A (((((([(h0, .inr (8, [.ref q0, .ref q1, .ref q2, .ref q3, .ref q4, .null, .null, .null, .null, .null]))] ++ (wPlan cI q0 u0)) ++ (wPlan cI q1 u1)) ++ (wHist cI cP q2 u2)) ++ (wText cI q3 u3)) ++ (wChains cI q4 u4)) ++ [(q5, .inr (0, [.null, .null, .null, .null, .int 0, .int 0, .int 0, .int 0]))]) := hD
  refine lv_dup hx hb dX8_init_63 rfl ?_
  have hts2 : ∀ w ∈ gWs yX0_init cX0_init 1 none, w.before _ s = true := fun w hw => (List.mem_cons.mp hw).elim (fun e => by rw [e]; exact hts _ q_co_X0_init) (hts w)
  have hFc := g_freeLast hD hS hA
  refine va_callv (A1 := va_A [(q5, .inr (0, [.null, .null, .null, .null, .int 0, .int 0, .int 0, .int 0]))] H.size) (va_runIN (As := []) (rest := [.ref q5, .ref h0]) ⟨hx, hb, hml, hown, hts⟩ (ccX0_init l D cI cP B q5 H.size) ⟨va_cnB 0 hts2 (gGood (n := 1) (r := none) q_co_X0_init) rfl rfl rfl (hZ.2.2.2.2.1 (RX8, 42, yX0_init, RX8) (by decide +kernel)) (hts _ q_in_X0) (by decide +kernel) ⟨Nat.le_of_ble_eq_true rfl, Nat.le_of_ble_eq_true rfl⟩, rfl, hts _ q_im_X0_init⟩ ⟨cPre_blind, fun U hU hW => ⟨rfl, by rw [hU], by rw [hU]; exact g_lastP hP, va_K.moved hW.alike (hK.sub (tys' := [(cI, .int), (cP, .object "TaskSheets$Plan")]) [0, 1] rfl), g_lastD hD hAB, Nat.le_trans hBs hS.1, by rw [hU]; exact hZ.go (hS.wide hAB) hW, va_AO.moved hW.alike hAO⟩⟩ rfl rfl hl.1 rfl (lv_room (Nat.le_of_ble_eq_true rfl)) dX8_init_64 ⟨Nat.le_of_ble_eq_true rfl, Nat.le_of_ble_eq_true rfl⟩) hS (fun q _ h => hFc q h) hFc (fun u5 t H1 locs1 ht hvm hw hB hz1 hk1 hS => ?_)
  obtain ⟨hP1, hD1⟩ := hB
  rw [ht] at hP1
  obtain ⟨hP, hD⟩ := g_joinLast (w1 := (wBands cI q5 u5)) hP hD hk1 hFc hP1 hD1
  generalize H1 = H at hP hS ⊢
  have hP : va_P D vwCl (((((([(h0, .inr (8, [.ref q0, .ref q1, .ref q2, .ref q3, .ref q4, .null, .null, .null, .null, .null]))] ++ (wPlan cI q0 u0)) ++ (wPlan cI q1 u1)) ++ (wHist cI cP q2 u2)) ++ (wText cI q3 u3)) ++ (wChains cI q4 u4)) ++ (wBands cI q5 u5)) H := hP
  have hD : va_D A (((((([(h0, .inr (8, [.ref q0, .ref q1, .ref q2, .ref q3, .ref q4, .null, .null, .null, .null, .null]))] ++ (wPlan cI q0 u0)) ++ (wPlan cI q1 u1)) ++ (wHist cI cP q2 u2)) ++ (wText cI q3 u3)) ++ (wChains cI q4 u4)) ++ (wBands cI q5 u5)) := hD
  refine va_putF (D := D) (ci := 8) (v := .ref q5) (ty := .object "TaskSheets$Bands") (C := RX8) (T := TX8) (N := 10) hx hb hts q_ws_X8 tyX8 tyX8_ok nmX8 hown hK hP hD hS 0 rfl rfl 5 (by decide) (hts _ q_fl_X8_43) (fun _ h9 => h9) rfl hin rfl (by decide +kernel) rfl rfl (Nat.le_of_ble_eq_true rfl) dX8_init_67 (fun H locs hP hD hS => ?_)
  have hP : va_P D vwCl (((((([(h0, .inr (8, [.ref q0, .ref q1, .ref q2, .ref q3, .ref q4, .ref q5, .null, .null, .null, .null]))] ++ (wPlan cI q0 u0)) ++ (wPlan cI q1 u1)) ++ (wHist cI cP q2 u2)) ++ (wText cI q3 u3)) ++ (wChains cI q4 u4)) ++ (wBands cI q5 u5)) H := hP
  have hD : va_D A (((((([(h0, .inr (8, [.ref q0, .ref q1, .ref q2, .ref q3, .ref q4, .ref q5, .null, .null, .null, .null]))] ++ (wPlan cI q0 u0)) ++ (wPlan cI q1 u1)) ++ (wHist cI cP q2 u2)) ++ (wText cI q3 u3)) ++ (wChains cI q4 u4)) ++ (wBands cI q5 u5)) := hD
  refine lv_aload_n hx hb dX8_init_70 rfl (lv_at hl 0 rfl) ?_
  refine va_new (ci := 6) (fs := [.null, .null, .null, .null, .int 0]) (C := RX6) (T := TX6) (N := 5) hx hb hts q_ws_X6 tyX6 tyX6_ok hown (hts _ q_cl_X8_47) (hts _ q_ia_X6) (hts _ q_in_X6) hK hP hD hS hA rfl (fun j hj => by rcases (show j = 0 ∨ j = 1 ∨ j = 2 ∨ j = 3 ∨ j = 4 by omega) with rfl | rfl | rfl | rfl | rfl <;> rfl) (Nat.le_of_ble_eq_true rfl) (Nat.le_of_ble_eq_true rfl) dX8_init_71 (fun q6 H hP hD hS => ?_)
  have hP : va_P D vwCl ((((((([(h0, .inr (8, [.ref q0, .ref q1, .ref q2, .ref q3, .ref q4, .ref q5, .null, .null, .null, .null]))] ++ (wPlan cI q0 u0)) ++ (wPlan cI q1 u1)) ++ (wHist cI cP q2 u2)) ++ (wText cI q3 u3)) ++ (wChains cI q4 u4)) ++ (wBands cI q5 u5)) ++ [(q6, .inr (6, [.null, .null, .null, .null, .int 0]))]) H := hP
  have hD : va_D A ((((((([(h0, .inr (8, [.ref q0, .ref q1, .ref q2, .ref q3, .ref q4, .ref q5, .null, .null, .null, .null]))] ++ (wPlan cI q0 u0)) ++ (wPlan cI q1 u1)) ++ (wHist cI cP q2 u2)) ++ (wText cI q3 u3)) ++ (wChains cI q4 u4)) ++ (wBands cI q5 u5)) ++ [(q6, .inr (6, [.null, .null, .null, .null, .int 0]))]) := hD
  refine lv_dup hx hb dX8_init_74 rfl ?_
  have hts2 : ∀ w ∈ gWs yX6_init cX6_init 1 none, w.before _ s = true := fun w hw => (List.mem_cons.mp hw).elim (fun e => by rw [e]; exact hts _ q_co_X6_init) (hts w)
  have hFc := g_freeLast hD hS hA
  refine va_callv (A1 := va_A [(q6, .inr (6, [.null, .null, .null, .null, .int 0]))] H.size) (va_runIN (As := []) (rest := [.ref q6, .ref h0]) ⟨hx, hb, hml, hown, hts⟩ (ccX6_init l D cI cP B q6 H.size) ⟨va_cnB 0 hts2 (gGood (n := 1) (r := none) q_co_X6_init) rfl rfl rfl (hZ.2.2.2.2.1 (RX8, 49, yX6_init, RX8) (by decide +kernel)) (hts _ q_in_X6) (by decide +kernel) ⟨Nat.le_of_ble_eq_true rfl, Nat.le_of_ble_eq_true rfl⟩, rfl, hts _ q_im_X6_init⟩ ⟨cPre_blind, fun U hU hW => ⟨rfl, by rw [hU], by rw [hU]; exact g_lastP hP, va_K.moved hW.alike (hK.sub (tys' := [(cI, .int), (cP, .object "TaskSheets$Plan")]) [0, 1] rfl), g_lastD hD hAB, Nat.le_trans hBs hS.1, by rw [hU]; exact hZ.go (hS.wide hAB) hW, va_AO.moved hW.alike hAO⟩⟩ rfl rfl hl.1 rfl (lv_room (Nat.le_of_ble_eq_true rfl)) dX8_init_75 ⟨Nat.le_of_ble_eq_true rfl, Nat.le_of_ble_eq_true rfl⟩) hS (fun q _ h => hFc q h) hFc (fun u6 t H1 locs1 ht hvm hw hB hz1 hk1 hS => ?_)
  obtain ⟨hP1, hD1⟩ := hB
  rw [ht] at hP1
  obtain ⟨hP, hD⟩ := g_joinLast (w1 := (wSheets cI q6 u6)) hP hD hk1 hFc hP1 hD1
  generalize H1 = H at hP hS ⊢
  have hP : va_P D vwCl ((((((([(h0, .inr (8, [.ref q0, .ref q1, .ref q2, .ref q3, .ref q4, .ref q5, .null, .null, .null, .null]))] ++ (wPlan cI q0 u0)) ++ (wPlan cI q1 u1)) ++ (wHist cI cP q2 u2)) ++ (wText cI q3 u3)) ++ (wChains cI q4 u4)) ++ (wBands cI q5 u5)) ++ (wSheets cI q6 u6)) H := hP
  have hD : va_D A ((((((([(h0, .inr (8, [.ref q0, .ref q1, .ref q2, .ref q3, .ref q4, .ref q5, .null, .null, .null, .null]))] ++ (wPlan cI q0 u0)) ++ (wPlan cI q1 u1)) ++ (wHist cI cP q2 u2)) ++ (wText cI q3 u3)) ++ (wChains cI q4 u4)) ++ (wBands cI q5 u5)) ++ (wSheets cI q6 u6)) := hD
  refine va_putF (D := D) (ci := 8) (v := .ref q6) (ty := .object "TaskSheets$Sheets") (C := RX8) (T := TX8) (N := 10) hx hb hts q_ws_X8 tyX8 tyX8_ok nmX8 hown hK hP hD hS 0 rfl rfl 6 (by decide) (hts _ q_fl_X8_50) (fun _ h9 => h9) rfl hin rfl (by decide +kernel) rfl rfl (Nat.le_of_ble_eq_true rfl) dX8_init_78 (fun H locs hP hD hS => ?_)
  have hP : va_P D vwCl ((((((([(h0, .inr (8, [.ref q0, .ref q1, .ref q2, .ref q3, .ref q4, .ref q5, .ref q6, .null, .null, .null]))] ++ (wPlan cI q0 u0)) ++ (wPlan cI q1 u1)) ++ (wHist cI cP q2 u2)) ++ (wText cI q3 u3)) ++ (wChains cI q4 u4)) ++ (wBands cI q5 u5)) ++ (wSheets cI q6 u6)) H := hP
  have hD : va_D A ((((((([(h0, .inr (8, [.ref q0, .ref q1, .ref q2, .ref q3, .ref q4, .ref q5, .ref q6, .null, .null, .null]))] ++ (wPlan cI q0 u0)) ++ (wPlan cI q1 u1)) ++ (wHist cI cP q2 u2)) ++ (wText cI q3 u3)) ++ (wChains cI q4 u4)) ++ (wBands cI q5 u5)) ++ (wSheets cI q6 u6)) := hD
  refine lv_aload_n hx hb dX8_init_81 rfl (lv_at hl 0 rfl) ?_
  refine va_new (ci := 2) (fs := [.null, .null, .null, .null, .null, .null, .int 0]) (C := RX2) (T := TX2) (N := 7) hx hb hts q_ws_X2 tyX2 tyX2_ok hown (hts _ q_cl_X8_54) (hts _ q_ia_X2) (hts _ q_in_X2) hK hP hD hS hA rfl (fun j hj => by rcases (show j = 0 ∨ j = 1 ∨ j = 2 ∨ j = 3 ∨ j = 4 ∨ j = 5 ∨ j = 6 by omega) with rfl | rfl | rfl | rfl | rfl | rfl | rfl <;> rfl) (Nat.le_of_ble_eq_true rfl) (Nat.le_of_ble_eq_true rfl) dX8_init_82 (fun q7 H hP hD hS => ?_)
  have hP : va_P D vwCl (((((((([(h0, .inr (8, [.ref q0, .ref q1, .ref q2, .ref q3, .ref q4, .ref q5, .ref q6, .null, .null, .null]))] ++ (wPlan cI q0 u0)) ++ (wPlan cI q1 u1)) ++ (wHist cI cP q2 u2)) ++ (wText cI q3 u3)) ++ (wChains cI q4 u4)) ++ (wBands cI q5 u5)) ++ (wSheets cI q6 u6)) ++ [(q7, .inr (2, [.null, .null, .null, .null, .null, .null, .int 0]))]) H := hP
  have hD : va_D A (((((((([(h0, .inr (8, [.ref q0, .ref q1, .ref q2, .ref q3, .ref q4, .ref q5, .ref q6, .null, .null, .null]))] ++ (wPlan cI q0 u0)) ++ (wPlan cI q1 u1)) ++ (wHist cI cP q2 u2)) ++ (wText cI q3 u3)) ++ (wChains cI q4 u4)) ++ (wBands cI q5 u5)) ++ (wSheets cI q6 u6)) ++ [(q7, .inr (2, [.null, .null, .null, .null, .null, .null, .int 0]))]) := hD
  refine lv_dup hx hb dX8_init_85 rfl ?_
  have hts2 : ∀ w ∈ gWs yX2_init cX2_init 1 none, w.before _ s = true := fun w hw => (List.mem_cons.mp hw).elim (fun e => by rw [e]; exact hts _ q_co_X2_init) (hts w)
  have hFc := g_freeLast hD hS hA
  refine va_callv (A1 := va_A [(q7, .inr (2, [.null, .null, .null, .null, .null, .null, .int 0]))] H.size) (va_runIN (As := []) (rest := [.ref q7, .ref h0]) ⟨hx, hb, hml, hown, hts⟩ (ccX2_init l D cI cP B q7 H.size) ⟨va_cnB 0 hts2 (gGood (n := 1) (r := none) q_co_X2_init) rfl rfl rfl (hZ.2.2.2.2.1 (RX8, 56, yX2_init, RX8) (by decide +kernel)) (hts _ q_in_X2) (by decide +kernel) ⟨Nat.le_of_ble_eq_true rfl, Nat.le_of_ble_eq_true rfl⟩, rfl, hts _ q_im_X2_init⟩ ⟨cPre_blind, fun U hU hW => ⟨rfl, by rw [hU], by rw [hU]; exact g_lastP hP, va_K.moved hW.alike (hK.sub (tys' := [(cI, .int), (cP, .object "TaskSheets$Plan")]) [0, 1] rfl), g_lastD hD hAB, Nat.le_trans hBs hS.1, by rw [hU]; exact hZ.go (hS.wide hAB) hW, va_AO.moved hW.alike hAO⟩⟩ rfl rfl hl.1 rfl (lv_room (Nat.le_of_ble_eq_true rfl)) dX8_init_86 ⟨Nat.le_of_ble_eq_true rfl, Nat.le_of_ble_eq_true rfl⟩) hS (fun q _ h => hFc q h) hFc (fun u7 t H1 locs1 ht hvm hw hB hz1 hk1 hS => ?_)
  obtain ⟨hP1, hD1⟩ := hB
  rw [ht] at hP1
  obtain ⟨hP, hD⟩ := g_joinLast (w1 := (wExits cI q7 u7)) hP hD hk1 hFc hP1 hD1
  generalize H1 = H at hP hS ⊢
  have hP : va_P D vwCl (((((((([(h0, .inr (8, [.ref q0, .ref q1, .ref q2, .ref q3, .ref q4, .ref q5, .ref q6, .null, .null, .null]))] ++ (wPlan cI q0 u0)) ++ (wPlan cI q1 u1)) ++ (wHist cI cP q2 u2)) ++ (wText cI q3 u3)) ++ (wChains cI q4 u4)) ++ (wBands cI q5 u5)) ++ (wSheets cI q6 u6)) ++ (wExits cI q7 u7)) H := hP
  have hD : va_D A (((((((([(h0, .inr (8, [.ref q0, .ref q1, .ref q2, .ref q3, .ref q4, .ref q5, .ref q6, .null, .null, .null]))] ++ (wPlan cI q0 u0)) ++ (wPlan cI q1 u1)) ++ (wHist cI cP q2 u2)) ++ (wText cI q3 u3)) ++ (wChains cI q4 u4)) ++ (wBands cI q5 u5)) ++ (wSheets cI q6 u6)) ++ (wExits cI q7 u7)) := hD
  refine va_putF (D := D) (ci := 8) (v := .ref q7) (ty := .object "TaskSheets$Exits") (C := RX8) (T := TX8) (N := 10) hx hb hts q_ws_X8 tyX8 tyX8_ok nmX8 hown hK hP hD hS 0 rfl rfl 7 (by decide) (hts _ q_fl_X8_57) (fun _ h9 => h9) rfl hin rfl (by decide +kernel) rfl rfl (Nat.le_of_ble_eq_true rfl) dX8_init_89 (fun H locs hP hD hS => ?_)
  have hP : va_P D vwCl (((((((([(h0, .inr (8, [.ref q0, .ref q1, .ref q2, .ref q3, .ref q4, .ref q5, .ref q6, .ref q7, .null, .null]))] ++ (wPlan cI q0 u0)) ++ (wPlan cI q1 u1)) ++ (wHist cI cP q2 u2)) ++ (wText cI q3 u3)) ++ (wChains cI q4 u4)) ++ (wBands cI q5 u5)) ++ (wSheets cI q6 u6)) ++ (wExits cI q7 u7)) H := hP
  have hD : va_D A (((((((([(h0, .inr (8, [.ref q0, .ref q1, .ref q2, .ref q3, .ref q4, .ref q5, .ref q6, .ref q7, .null, .null]))] ++ (wPlan cI q0 u0)) ++ (wPlan cI q1 u1)) ++ (wHist cI cP q2 u2)) ++ (wText cI q3 u3)) ++ (wChains cI q4 u4)) ++ (wBands cI q5 u5)) ++ (wSheets cI q6 u6)) ++ (wExits cI q7 u7)) := hD
  refine lv_aload_n hx hb dX8_init_92 rfl (lv_at hl 0 rfl) ?_
  refine va_new (ci := 0) (fs := [.null, .null, .null, .null, .int 0, .int 0, .int 0, .int 0]) (C := RX0) (T := TX0) (N := 8) hx hb hts q_ws_X0 tyX0 tyX0_ok hown (hts _ q_cl_X8_40) (hts _ q_ia_X0) (hts _ q_in_X0) hK hP hD hS hA rfl (fun j hj => by rcases (show j = 0 ∨ j = 1 ∨ j = 2 ∨ j = 3 ∨ j = 4 ∨ j = 5 ∨ j = 6 ∨ j = 7 by omega) with rfl | rfl | rfl | rfl | rfl | rfl | rfl | rfl <;> rfl) (Nat.le_of_ble_eq_true rfl) (Nat.le_of_ble_eq_true rfl) dX8_init_93 (fun q8 H hP hD hS => ?_)
  have hP : va_P D vwCl ((((((((([(h0, .inr (8, [.ref q0, .ref q1, .ref q2, .ref q3, .ref q4, .ref q5, .ref q6, .ref q7, .null, .null]))] ++ (wPlan cI q0 u0)) ++ (wPlan cI q1 u1)) ++ (wHist cI cP q2 u2)) ++ (wText cI q3 u3)) ++ (wChains cI q4 u4)) ++ (wBands cI q5 u5)) ++ (wSheets cI q6 u6)) ++ (wExits cI q7 u7)) ++ [(q8, .inr (0, [.null, .null, .null, .null, .int 0, .int 0, .int 0, .int 0]))]) H := hP
  have hD : va_D A ((((((((([(h0, .inr (8, [.ref q0, .ref q1, .ref q2, .ref q3, .ref q4, .ref q5, .ref q6, .ref q7, .null, .null]))] ++ (wPlan cI q0 u0)) ++ (wPlan cI q1 u1)) ++ (wHist cI cP q2 u2)) ++ (wText cI q3 u3)) ++ (wChains cI q4 u4)) ++ (wBands cI q5 u5)) ++ (wSheets cI q6 u6)) ++ (wExits cI q7 u7)) ++ [(q8, .inr (0, [.null, .null, .null, .null, .int 0, .int 0, .int 0, .int 0]))]) := hD
  refine lv_dup hx hb dX8_init_96 rfl ?_
  have hts2 : ∀ w ∈ gWs yX0_init cX0_init 1 none, w.before _ s = true := fun w hw => (List.mem_cons.mp hw).elim (fun e => by rw [e]; exact hts _ q_co_X0_init) (hts w)
  have hFc := g_freeLast hD hS hA
  refine va_callv (A1 := va_A [(q8, .inr (0, [.null, .null, .null, .null, .int 0, .int 0, .int 0, .int 0]))] H.size) (va_runIN (As := []) (rest := [.ref q8, .ref h0]) ⟨hx, hb, hml, hown, hts⟩ (ccX0_init l D cI cP B q8 H.size) ⟨va_cnB 0 hts2 (gGood (n := 1) (r := none) q_co_X0_init) rfl rfl rfl (hZ.2.2.2.2.1 (RX8, 42, yX0_init, RX8) (by decide +kernel)) (hts _ q_in_X0) (by decide +kernel) ⟨Nat.le_of_ble_eq_true rfl, Nat.le_of_ble_eq_true rfl⟩, rfl, hts _ q_im_X0_init⟩ ⟨cPre_blind, fun U hU hW => ⟨rfl, by rw [hU], by rw [hU]; exact g_lastP hP, va_K.moved hW.alike (hK.sub (tys' := [(cI, .int), (cP, .object "TaskSheets$Plan")]) [0, 1] rfl), g_lastD hD hAB, Nat.le_trans hBs hS.1, by rw [hU]; exact hZ.go (hS.wide hAB) hW, va_AO.moved hW.alike hAO⟩⟩ rfl rfl hl.1 rfl (lv_room (Nat.le_of_ble_eq_true rfl)) dX8_init_97 ⟨Nat.le_of_ble_eq_true rfl, Nat.le_of_ble_eq_true rfl⟩) hS (fun q _ h => hFc q h) hFc (fun u8 t H1 locs1 ht hvm hw hB hz1 hk1 hS => ?_)
  obtain ⟨hP1, hD1⟩ := hB
  rw [ht] at hP1
  obtain ⟨hP, hD⟩ := g_joinLast (w1 := (wBands cI q8 u8)) hP hD hk1 hFc hP1 hD1
  generalize H1 = H at hP hS ⊢
  have hP : va_P D vwCl ((((((((([(h0, .inr (8, [.ref q0, .ref q1, .ref q2, .ref q3, .ref q4, .ref q5, .ref q6, .ref q7, .null, .null]))] ++ (wPlan cI q0 u0)) ++ (wPlan cI q1 u1)) ++ (wHist cI cP q2 u2)) ++ (wText cI q3 u3)) ++ (wChains cI q4 u4)) ++ (wBands cI q5 u5)) ++ (wSheets cI q6 u6)) ++ (wExits cI q7 u7)) ++ (wBands cI q8 u8)) H := hP
  have hD : va_D A ((((((((([(h0, .inr (8, [.ref q0, .ref q1, .ref q2, .ref q3, .ref q4, .ref q5, .ref q6, .ref q7, .null, .null]))] ++ (wPlan cI q0 u0)) ++ (wPlan cI q1 u1)) ++ (wHist cI cP q2 u2)) ++ (wText cI q3 u3)) ++ (wChains cI q4 u4)) ++ (wBands cI q5 u5)) ++ (wSheets cI q6 u6)) ++ (wExits cI q7 u7)) ++ (wBands cI q8 u8)) := hD
  refine va_putF (D := D) (ci := 8) (v := .ref q8) (ty := .object "TaskSheets$Bands") (C := RX8) (T := TX8) (N := 10) hx hb hts q_ws_X8 tyX8 tyX8_ok nmX8 hown hK hP hD hS 0 rfl rfl 8 (by decide) (hts _ q_fl_X8_61) (fun _ h9 => h9) rfl hin rfl (by decide +kernel) rfl rfl (Nat.le_of_ble_eq_true rfl) dX8_init_100 (fun H locs hP hD hS => ?_)
  have hP : va_P D vwCl ((((((((([(h0, .inr (8, [.ref q0, .ref q1, .ref q2, .ref q3, .ref q4, .ref q5, .ref q6, .ref q7, .ref q8, .null]))] ++ (wPlan cI q0 u0)) ++ (wPlan cI q1 u1)) ++ (wHist cI cP q2 u2)) ++ (wText cI q3 u3)) ++ (wChains cI q4 u4)) ++ (wBands cI q5 u5)) ++ (wSheets cI q6 u6)) ++ (wExits cI q7 u7)) ++ (wBands cI q8 u8)) H := hP
  have hD : va_D A ((((((((([(h0, .inr (8, [.ref q0, .ref q1, .ref q2, .ref q3, .ref q4, .ref q5, .ref q6, .ref q7, .ref q8, .null]))] ++ (wPlan cI q0 u0)) ++ (wPlan cI q1 u1)) ++ (wHist cI cP q2 u2)) ++ (wText cI q3 u3)) ++ (wChains cI q4 u4)) ++ (wBands cI q5 u5)) ++ (wSheets cI q6 u6)) ++ (wExits cI q7 u7)) ++ (wBands cI q8 u8)) := hD
  refine lv_aload_n hx hb dX8_init_103 rfl (lv_at hl 0 rfl) ?_
  refine va_new (ci := 6) (fs := [.null, .null, .null, .null, .int 0]) (C := RX6) (T := TX6) (N := 5) hx hb hts q_ws_X6 tyX6 tyX6_ok hown (hts _ q_cl_X8_47) (hts _ q_ia_X6) (hts _ q_in_X6) hK hP hD hS hA rfl (fun j hj => by rcases (show j = 0 ∨ j = 1 ∨ j = 2 ∨ j = 3 ∨ j = 4 by omega) with rfl | rfl | rfl | rfl | rfl <;> rfl) (Nat.le_of_ble_eq_true rfl) (Nat.le_of_ble_eq_true rfl) dX8_init_104 (fun q9 H hP hD hS => ?_)
  have hP : va_P D vwCl (((((((((([(h0, .inr (8, [.ref q0, .ref q1, .ref q2, .ref q3, .ref q4, .ref q5, .ref q6, .ref q7, .ref q8, .null]))] ++ (wPlan cI q0 u0)) ++ (wPlan cI q1 u1)) ++ (wHist cI cP q2 u2)) ++ (wText cI q3 u3)) ++ (wChains cI q4 u4)) ++ (wBands cI q5 u5)) ++ (wSheets cI q6 u6)) ++ (wExits cI q7 u7)) ++ (wBands cI q8 u8)) ++ [(q9, .inr (6, [.null, .null, .null, .null, .int 0]))]) H := hP
  have hD : va_D A (((((((((([(h0, .inr (8, [.ref q0, .ref q1, .ref q2, .ref q3, .ref q4, .ref q5, .ref q6, .ref q7, .ref q8, .null]))] ++ (wPlan cI q0 u0)) ++ (wPlan cI q1 u1)) ++ (wHist cI cP q2 u2)) ++ (wText cI q3 u3)) ++ (wChains cI q4 u4)) ++ (wBands cI q5 u5)) ++ (wSheets cI q6 u6)) ++ (wExits cI q7 u7)) ++ (wBands cI q8 u8)) ++ [(q9, .inr (6, [.null, .null, .null, .null, .int 0]))]) := hD
  refine lv_dup hx hb dX8_init_107 rfl ?_
  have hts2 : ∀ w ∈ gWs yX6_init cX6_init 1 none, w.before _ s = true := fun w hw => (List.mem_cons.mp hw).elim (fun e => by rw [e]; exact hts _ q_co_X6_init) (hts w)
  have hFc := g_freeLast hD hS hA
  refine va_callv (A1 := va_A [(q9, .inr (6, [.null, .null, .null, .null, .int 0]))] H.size) (va_runIN (As := []) (rest := [.ref q9, .ref h0]) ⟨hx, hb, hml, hown, hts⟩ (ccX6_init l D cI cP B q9 H.size) ⟨va_cnB 0 hts2 (gGood (n := 1) (r := none) q_co_X6_init) rfl rfl rfl (hZ.2.2.2.2.1 (RX8, 49, yX6_init, RX8) (by decide +kernel)) (hts _ q_in_X6) (by decide +kernel) ⟨Nat.le_of_ble_eq_true rfl, Nat.le_of_ble_eq_true rfl⟩, rfl, hts _ q_im_X6_init⟩ ⟨cPre_blind, fun U hU hW => ⟨rfl, by rw [hU], by rw [hU]; exact g_lastP hP, va_K.moved hW.alike (hK.sub (tys' := [(cI, .int), (cP, .object "TaskSheets$Plan")]) [0, 1] rfl), g_lastD hD hAB, Nat.le_trans hBs hS.1, by rw [hU]; exact hZ.go (hS.wide hAB) hW, va_AO.moved hW.alike hAO⟩⟩ rfl rfl hl.1 rfl (lv_room (Nat.le_of_ble_eq_true rfl)) dX8_init_108 ⟨Nat.le_of_ble_eq_true rfl, Nat.le_of_ble_eq_true rfl⟩) hS (fun q _ h => hFc q h) hFc (fun u9 t H1 locs1 ht hvm hw hB hz1 hk1 hS => ?_)
  obtain ⟨hP1, hD1⟩ := hB
  rw [ht] at hP1
  obtain ⟨hP, hD⟩ := g_joinLast (w1 := (wSheets cI q9 u9)) hP hD hk1 hFc hP1 hD1
  generalize H1 = H at hP hS ⊢
  have hP : va_P D vwCl (((((((((([(h0, .inr (8, [.ref q0, .ref q1, .ref q2, .ref q3, .ref q4, .ref q5, .ref q6, .ref q7, .ref q8, .null]))] ++ (wPlan cI q0 u0)) ++ (wPlan cI q1 u1)) ++ (wHist cI cP q2 u2)) ++ (wText cI q3 u3)) ++ (wChains cI q4 u4)) ++ (wBands cI q5 u5)) ++ (wSheets cI q6 u6)) ++ (wExits cI q7 u7)) ++ (wBands cI q8 u8)) ++ (wSheets cI q9 u9)) H := hP
  have hD : va_D A (((((((((([(h0, .inr (8, [.ref q0, .ref q1, .ref q2, .ref q3, .ref q4, .ref q5, .ref q6, .ref q7, .ref q8, .null]))] ++ (wPlan cI q0 u0)) ++ (wPlan cI q1 u1)) ++ (wHist cI cP q2 u2)) ++ (wText cI q3 u3)) ++ (wChains cI q4 u4)) ++ (wBands cI q5 u5)) ++ (wSheets cI q6 u6)) ++ (wExits cI q7 u7)) ++ (wBands cI q8 u8)) ++ (wSheets cI q9 u9)) := hD
  refine va_putF (D := D) (ci := 8) (v := .ref q9) (ty := .object "TaskSheets$Sheets") (C := RX8) (T := TX8) (N := 10) hx hb hts q_ws_X8 tyX8 tyX8_ok nmX8 hown hK hP hD hS 0 rfl rfl 9 (by decide) (hts _ q_fl_X8_64) (fun _ h9 => h9) rfl hin rfl (by decide +kernel) rfl rfl (Nat.le_of_ble_eq_true rfl) dX8_init_111 (fun H locs hP hD hS => ?_)
  have hP : va_P D vwCl (((((((((([(h0, .inr (8, [.ref q0, .ref q1, .ref q2, .ref q3, .ref q4, .ref q5, .ref q6, .ref q7, .ref q8, .ref q9]))] ++ (wPlan cI q0 u0)) ++ (wPlan cI q1 u1)) ++ (wHist cI cP q2 u2)) ++ (wText cI q3 u3)) ++ (wChains cI q4 u4)) ++ (wBands cI q5 u5)) ++ (wSheets cI q6 u6)) ++ (wExits cI q7 u7)) ++ (wBands cI q8 u8)) ++ (wSheets cI q9 u9)) H := hP
  have hD : va_D A (((((((((([(h0, .inr (8, [.ref q0, .ref q1, .ref q2, .ref q3, .ref q4, .ref q5, .ref q6, .ref q7, .ref q8, .ref q9]))] ++ (wPlan cI q0 u0)) ++ (wPlan cI q1 u1)) ++ (wHist cI cP q2 u2)) ++ (wText cI q3 u3)) ++ (wChains cI q4 u4)) ++ (wBands cI q5 u5)) ++ (wSheets cI q6 u6)) ++ (wExits cI q7 u7)) ++ (wBands cI q8 u8)) ++ (wSheets cI q9 u9)) := hD
  have hP9 : va_P D vwCl (wTask cI cP h0 (fun i => ([h0, q0, u0 1, u0 2, u0 3, u0 4, u0 5, u0 6, u0 7, u0 8, u0 9, u0 10, u0 11, u0 12, q1, u1 1, u1 2, u1 3, u1 4, u1 5, u1 6, u1 7, u1 8, u1 9, u1 10, u1 11, u1 12, q2, u2 1, u2 2, u2 3, u2 4, u2 5, u2 6, u2 7, u2 8, u2 9, u2 10, u2 11, u2 12, u2 13, u2 14, u2 15, u2 16, u2 17, u2 18, u2 19, u2 20, u2 21, u2 22, u2 23, u2 24, u2 25, u2 26, u2 27, u2 28, u2 29, u2 30, u2 31, u2 32, u2 33, u2 34, u2 35, u2 36, u2 37, u2 38, u2 39, u2 40, u2 41, u2 42, u2 43, u2 44, u2 45, u2 46, u2 47, u2 48, u2 49, u2 50, u2 51, u2 52, u2 53, q3, u3 1, u3 2, q4, u4 1, u4 2, q5, u5 1, u5 2, u5 3, u5 4, u5 5, u5 6, u5 7, u5 8, q6, u6 1, u6 2, u6 3, u6 4, u6 5, u6 6, u6 7, u6 8, q7, u7 1, u7 2, u7 3, u7 4, u7 5, u7 6, u7 7, u7 8, u7 9, u7 10, u7 11, u7 12, q8, u8 1, u8 2, u8 3, u8 4, u8 5, u8 6, u8 7, u8 8, q9, u9 1, u9 2, u9 3, u9 4, u9 5, u9 6, u9 7, u9 8] : List Nat).getD i 0)) H := hP
  have hD9 : va_D A (wTask cI cP h0 (fun i => ([h0, q0, u0 1, u0 2, u0 3, u0 4, u0 5, u0 6, u0 7, u0 8, u0 9, u0 10, u0 11, u0 12, q1, u1 1, u1 2, u1 3, u1 4, u1 5, u1 6, u1 7, u1 8, u1 9, u1 10, u1 11, u1 12, q2, u2 1, u2 2, u2 3, u2 4, u2 5, u2 6, u2 7, u2 8, u2 9, u2 10, u2 11, u2 12, u2 13, u2 14, u2 15, u2 16, u2 17, u2 18, u2 19, u2 20, u2 21, u2 22, u2 23, u2 24, u2 25, u2 26, u2 27, u2 28, u2 29, u2 30, u2 31, u2 32, u2 33, u2 34, u2 35, u2 36, u2 37, u2 38, u2 39, u2 40, u2 41, u2 42, u2 43, u2 44, u2 45, u2 46, u2 47, u2 48, u2 49, u2 50, u2 51, u2 52, u2 53, q3, u3 1, u3 2, q4, u4 1, u4 2, q5, u5 1, u5 2, u5 3, u5 4, u5 5, u5 6, u5 7, u5 8, q6, u6 1, u6 2, u6 3, u6 4, u6 5, u6 6, u6 7, u6 8, q7, u7 1, u7 2, u7 3, u7 4, u7 5, u7 6, u7 7, u7 8, u7 9, u7 10, u7 11, u7 12, q8, u8 1, u8 2, u8 3, u8 4, u8 5, u8 6, u8 7, u8 8, q9, u9 1, u9 2, u9 3, u9 4, u9 5, u9 6, u9 7, u9 8] : List Nat).getD i 0)) := hD
  refine W.widen (k := 135) (n := 9233) (Nat.le_of_ble_eq_true rfl) (Nat.le_of_ble_eq_true rfl) ?_
  subst hAe
  exact W.vret hx hb hr (fun t ht hW => ⟨⟨(fun i => ([h0, q0, u0 1, u0 2, u0 3, u0 4, u0 5, u0 6, u0 7, u0 8, u0 9, u0 10, u0 11, u0 12, q1, u1 1, u1 2, u1 3, u1 4, u1 5, u1 6, u1 7, u1 8, u1 9, u1 10, u1 11, u1 12, q2, u2 1, u2 2, u2 3, u2 4, u2 5, u2 6, u2 7, u2 8, u2 9, u2 10, u2 11, u2 12, u2 13, u2 14, u2 15, u2 16, u2 17, u2 18, u2 19, u2 20, u2 21, u2 22, u2 23, u2 24, u2 25, u2 26, u2 27, u2 28, u2 29, u2 30, u2 31, u2 32, u2 33, u2 34, u2 35, u2 36, u2 37, u2 38, u2 39, u2 40, u2 41, u2 42, u2 43, u2 44, u2 45, u2 46, u2 47, u2 48, u2 49, u2 50, u2 51, u2 52, u2 53, q3, u3 1, u3 2, q4, u4 1, u4 2, q5, u5 1, u5 2, u5 3, u5 4, u5 5, u5 6, u5 7, u5 8, q6, u6 1, u6 2, u6 3, u6 4, u6 5, u6 6, u6 7, u6 8, q7, u7 1, u7 2, u7 3, u7 4, u7 5, u7 6, u7 7, u7 8, u7 9, u7 10, u7 11, u7 12, q8, u8 1, u8 2, u8 3, u8 4, u8 5, u8 6, u8 7, u8 8, q9, u9 1, u9 2, u9 3, u9 4, u9 5, u9 6, u9 7, u9 8] : List Nat).getD i 0), rfl, trivial, by rw [ht]; exact hP9, hD9⟩, hS.F ht⟩) hS.2.2 dX8_init_114
