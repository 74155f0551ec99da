/-! the law, from its entry -/
theorem en_hlt {l : Launch} (h : l.flags = flags0) : l.stackTraces = false := by
  unfold Launch.stackTraces
  rw [h]
  decide +kernel
set_option maxHeartbeats 8000000 in
set_option maxRecDepth 100000 in
/-- YOUR PART: from the entry, for every script of at most 260 ints, the law comes to its end with true ('hflags': the launch's flags, for a law that throws: no stack traces) -/
theorem whole_start {p : Program} {e : Env} {s : State} {m : MethodId} {below : List Frame} {meth : Method} {c : Code} (l : Launch) (hflags : l.flags = flags0) {b L : Nat} {xs : Nat → Int32} (hL : L ≤ 260) (C0 : lw_At p s m meth c b L xs) : W p l e room_1 s m #[Value.ref b] below meth c s.heap [] 0 0 (lw_Z below #[Value.ref b] s) (entryFrame m ([Value.ref b] : List Value).toArray 10) := by
  obtain ⟨hx, hb, hr, hml, hown, hts0, hXs, hbl, hlocks, hgv⟩ := id C0
  have hgv2 := flat_of_before _ hgv
  have hlt : l.stackTraces = false := en_hlt hflags
  have hts : ∀ w ∈ gLW, w.before #[Value.ref b] s = true := fun w hw => hts0 w (gLW_tbl w hw)
  obtain ⟨D, cI, cP, hK⟩ := en_K hts0
  obtain ⟨A, hAe⟩ : ∃ A : Nat → Prop, A = fun q => s.heap.size ≤ q := ⟨_, rfl⟩
  have hA : ∀ q : Nat, s.heap.size ≤ q → A q := fun q h => by rw [hAe]; exact h
  have hAB : ∀ q : Nat, A q → s.heap.size ≤ q := fun q h => by rw [hAe] at h; exact h
  have hZ : gZs (fun q => s.heap.size ≤ q) s s.heap := en_Z hts0 hgv2 (fun a h => Nat.not_le.mpr h)
  have hAO : va_AO "TaskSheets$Plan" s := va_AO.of (hts0 _ en_ao)
  have hS : va_S A s.heap s.heap [] := va_S.rf
  have hP : va_P D vwCl [] s.heap := fun k q h => by simp at h
  have hD : va_D A [] := ⟨fun i j p q h => by simp at h, fun k q h => by simp at h⟩
  have hl := lv_entry ([.ref b]) (n := 10) (Nat.le_of_ble_eq_true rfl)
  rw [lg_entry_eq]
  generalize (lg_sl ([.ref b]) ++ List.replicate (10 - (lg_sl ([.ref b])).length) Slot.unset).toArray = ls at hl ⊢
  have hl : lv_has ls 10 [(0, .ref b)] := hl
  refine va_new (ci := 8) (fs := [.null, .null, .null, .null, .null, .null, .null, .null, .null, .null]) (C := RX8) (T := TX8) (N := 10) hx hb hts q_ws_X8 tyX8 tyX8_ok hown (hts _ q_cl_L_67) (hts _ q_ia_X8) (hts _ q_in_X8) hK hP hD hS hA rfl (fun j hj => by rcases (show j = 0 ∨ j = 1 ∨ j = 2 ∨ j = 3 ∨ j = 4 ∨ j = 5 ∨ j = 6 ∨ j = 7 ∨ j = 8 ∨ j = 9 by omega) with rfl | rfl | rfl | rfl | rfl | rfl | rfl | rfl | rfl | rfl <;> rfl) (Nat.le_of_ble_eq_true rfl) (Nat.le_of_ble_eq_true rfl) dL_law_0 (fun q0 H hP hD hS => ?_)
  refine lv_dup hx hb dL_law_3 rfl ?_
  have hts2 : ∀ w ∈ gWs yX8_init cX8_init 1 none, w.before _ s = true := fun w hw => (List.mem_cons.mp hw).elim (fun e => by rw [e]; exact hts _ q_co_X8_init) (hts w)
  have hFc := g_freeLast hD hS hA
  refine va_callv (A1 := va_A [(q0, .inr (8, [.null, .null, .null, .null, .null, .null, .null, .null, .null, .null]))] H.size) (va_runI (As := []) (rest := [.ref q0]) ⟨hx, hb, hml, hown, hts⟩ (ccX8_init l D cI cP s.heap.size q0 H.size) (cwI 0 hts2 (gGood (n := 1) (r := none) q_co_X8_init) rfl rfl rfl (hts _ q_in_X8) (hts _ q_ml_L_141) (hts _ q_im_X8_init) rfl (by decide +kernel) ⟨Nat.le_of_ble_eq_true rfl, Nat.le_of_ble_eq_true rfl⟩) ⟨cPre_blind, fun U hU hW => ⟨rfl, by rw [hU], by rw [hU]; exact g_lastP hP, va_K.moved hW.alike hK, g_lastD hD hAB, hS.1, by rw [hU]; exact hZ.go (hS.wide hAB) hW, va_AO.moved hW.alike hAO⟩⟩ rfl rfl hl.1 rfl (lv_room (Nat.le_of_ble_eq_true rfl)) dL_law_4 ⟨Nat.le_of_ble_eq_true rfl, Nat.le_of_ble_eq_true rfl⟩) hS (fun q _ h => hFc q h) hFc (fun u t H1 locs1 ht hvm hw hB hz1 hk1 hS => ?_)
  obtain ⟨hP1, hD1⟩ := hB
  rw [ht] at hP1
  obtain ⟨hP, hD⟩ := g_joinLast (w1 := (wTask cI cP q0 u)) hP hD hk1 hFc hP1 hD1
  generalize H1 = H at hP hS ⊢
  have hP : va_P D vwCl (wTask cI cP q0 u) H := hP
  have hD : va_D A (wTask cI cP q0 u) := hD
  refine lv_astore_n (lv' := [(1, .ref q0), (0, .ref b)]) hx hb dL_law_7 rfl hl (by decide) rfl (fun ls hl => ?_)
  refine lv_bipush (v := 6) hx hb dL_law_8 (by decide) ?_
  refine va_newa (atype := .int) (ty := .int) (N' := 6) (a0 := (6, .inl (fun _ => 0))) hx hb (hts _ q_ac_int) rfl hK hP hD hS hA (fun cA => rfl) (by decide) (by decide +kernel) (by decide) (Nat.le_of_ble_eq_true rfl) (Nat.le_of_ble_eq_true rfl) dL_law_10 (fun q1 cA H hK hP hD hS => ?_)
  have hcc : cI = cA := (g_sameA hK 0 2 rfl rfl).symm
  subst hcc
  have hK := hK.sub (tys' := [(cI, .int), (cP, .object "TaskSheets$Plan")]) [0, 1] rfl
  refine lv_astore_n (lv' := [(2, .ref q1), (1, .ref q0), (0, .ref b)]) hx hb dL_law_12 rfl hl (by decide) rfl (fun ls hl => ?_)
  refine lv_bipush (v := 24) hx hb dL_law_13 (by decide) ?_
  refine va_newa (atype := .int) (ty := .int) (N' := 24) (a0 := (24, .inl (fun _ => 0))) hx hb (hts _ q_ac_int) rfl hK hP hD hS hA (fun cA => rfl) (by decide) (by decide +kernel) (by decide) (Nat.le_of_ble_eq_true rfl) (Nat.le_of_ble_eq_true rfl) dL_law_15 (fun q2 cA H hK hP hD hS => ?_)
  have hcc : cI = cA := (g_sameA hK 0 2 rfl rfl).symm
  subst hcc
  have hK := hK.sub (tys' := [(cI, .int), (cP, .object "TaskSheets$Plan")]) [0, 1] rfl
  refine lv_astore_n (lv' := [(3, .ref q2), (2, .ref q1), (1, .ref q0), (0, .ref b)]) hx hb dL_law_17 rfl hl (by decide) rfl (fun ls hl => ?_)
  refine lv_bipush (v := 24) hx hb dL_law_18 (by decide) ?_
  refine va_newa (atype := .int) (ty := .int) (N' := 24) (a0 := (24, .inl (fun _ => 0))) hx hb (hts _ q_ac_int) rfl hK hP hD hS hA (fun cA => rfl) (by decide) (by decide +kernel) (by decide) (Nat.le_of_ble_eq_true rfl) (Nat.le_of_ble_eq_true rfl) dL_law_20 (fun q3 cA H hK hP hD hS => ?_)
  have hcc : cI = cA := (g_sameA hK 0 2 rfl rfl).symm
  subst hcc
  have hK := hK.sub (tys' := [(cI, .int), (cP, .object "TaskSheets$Plan")]) [0, 1] rfl
  refine lv_astore (lv' := [(4, .ref q3), (3, .ref q2), (2, .ref q1), (1, .ref q0), (0, .ref b)]) hx hb dL_law_22 hl (by decide) rfl (fun ls hl => ?_)
  refine lv_bipush (v := 24) hx hb dL_law_24 (by decide) ?_
  refine va_newa (atype := .int) (ty := .int) (N' := 24) (a0 := (24, .inl (fun _ => 0))) hx hb (hts _ q_ac_int) rfl hK hP hD hS hA (fun cA => rfl) (by decide) (by decide +kernel) (by decide) (Nat.le_of_ble_eq_true rfl) (Nat.le_of_ble_eq_true rfl) dL_law_26 (fun q4 cA H hK hP hD hS => ?_)
  have hcc : cI = cA := (g_sameA hK 0 2 rfl rfl).symm
  subst hcc
  have hK := hK.sub (tys' := [(cI, .int), (cP, .object "TaskSheets$Plan")]) [0, 1] rfl
  refine lv_astore (lv' := [(5, .ref q4), (4, .ref q3), (3, .ref q2), (2, .ref q1), (1, .ref q0), (0, .ref b)]) hx hb dL_law_28 hl (by decide) rfl (fun ls hl => ?_)
  refine lv_bipush (v := 31) hx hb dL_law_30 (by decide) ?_
  refine va_newa (atype := .int) (ty := .int) (N' := 31) (a0 := (31, .inl (fun _ => 0))) hx hb (hts _ q_ac_int) rfl hK hP hD hS hA (fun cA => rfl) (by decide) (by decide +kernel) (by decide) (Nat.le_of_ble_eq_true rfl) (Nat.le_of_ble_eq_true rfl) dL_law_32 (fun q5 cA H hK hP hD hS => ?_)
  have hcc : cI = cA := (g_sameA hK 0 2 rfl rfl).symm
  subst hcc
  have hK := hK.sub (tys' := [(cI, .int), (cP, .object "TaskSheets$Plan")]) [0, 1] rfl
  refine lv_astore (lv' := [(6, .ref q5), (5, .ref q4), (4, .ref q3), (3, .ref q2), (2, .ref q1), (1, .ref q0), (0, .ref b)]) hx hb dL_law_34 hl (by decide) rfl (fun ls hl => ?_)
  refine va_forget (fun q hq => hAB _ (hS.2.2 q hq)) ?_
  obtain ⟨G, hG⟩ : ∃ G : gAd, G = enG cI cP q0 q1 q2 q3 q4 q5 u := ⟨_, rfl⟩
  have hw : gW G puS0 (fun _ => 0) = ((((wTask cI cP q0 u ++ [(q1, .inl (cI, 6, .inl (fun _ => 0)))]) ++ [(q2, .inl (cI, 24, .inl (fun _ => 0)))]) ++ [(q3, .inl (cI, 24, .inl (fun _ => 0)))]) ++ [(q4, .inl (cI, 24, .inl (fun _ => 0)))]) ++ [(q5, .inl (cI, 31, .inl (fun _ => 0)))] := by
    rw [hG, en_gW]
    exact en_big cI cP q0 q1 q2 q3 q4 q5 u
  rw [← hw] at hP hD
  have hget : ∀ i, i < gN → ∃ x : va_E, (gW G puS0 (fun _ => 0))[i]? = some (G.1 i, x) := fun i hi => by
    have hi : i < gKinds.length := by rw [gN_len]; exact hi
    exact ⟨_, gW_get (List.getElem?_eq_getElem hi)⟩
  have hinj : ∀ i j, i < gN → j < gN → G.1 i = G.1 j → i = j := fun i j hi hj h => by
    obtain ⟨x, hx1⟩ := hget i hi
    obtain ⟨y, hy1⟩ := hget j hj
    exact hD.1 i j _ _ hx1 hy1 h
  have hgA : ∀ q, gA G q → s.heap.size ≤ q := fun q h => by
    obtain ⟨k, hk, rfl⟩ := h
    obtain ⟨x, hx1⟩ := hget k hk
    exact hAB _ (hD.2 k _ hx1)
  have hgX : gX D G s := by
    refine ⟨?_, hinj, en_Z hts0 hgv2 (fun a h h2 => absurd (hgA a h2) (Nat.not_le.mpr h))⟩
    rw [hG]
    exact hK
  have hgH : gH D G s H [] puS0 (fun _ => 0) := ⟨hP, hS.1, fun q h1 _ => hS.2.1 q h1 (fun z => absurd (hAB q z) (Nat.not_le.mpr h1)), fun q h => by cases h⟩
  have hll : lv_has ls 10 [(0, .ref b), (1, .ref (G.1 0)), (2, .ref (G.1 136)), (3, .ref (G.1 137)), (4, .ref (G.1 138)), (5, .ref (G.1 139)), (6, .ref (G.1 140))] := by
    have e0 : G.1 0 = q0 := by rw [hG]; rfl
    have e1 : G.1 136 = q1 := by rw [hG]; rfl
    have e2 : G.1 137 = q2 := by rw [hG]; rfl
    have e3 : G.1 138 = q3 := by rw [hG]; rfl
    have e4 : G.1 139 = q4 := by rw [hG]; rfl
    have e5 : G.1 140 = q5 := by rw [hG]; rfl
    rw [e0, e1, e2, e3, e4, e5]
    exact lv_sub hl [6, 5, 4, 3, 2, 1, 0] rfl
  have hbA : ¬ gA G b := fun h => absurd (hgA b h) (Nat.not_le.mpr hbl)
  refine W.widen (k := 200) (n := 10000) (Nat.le_of_ble_eq_true rfl) (Nat.le_of_ble_eq_true rfl) ?_
  have hX := hgX
  have hH := hgH
  have hl := hll
  obtain ⟨μ, hμ⟩ : ∃ μ : gLg, μ = fun _ => 0 := ⟨_, rfl⟩
  rw [← hμ] at hH
  obtain ⟨σ1, ei, hI⟩ := pv_init
  refine lv_aload_n hx hb dL_law_36 rfl (lv_at hl 2 rfl) ?_
  refine g_callSv (As := [.ref (G.1 136)]) (rest := []) ⟨hx, hb, hml, hown, hts⟩ (metL_first l D G puS0 μ σ1 ei) (g_cwS 1 hts q_ml_L_142 q_st_L_first q_in_L q_co_L_first ⟨rfl, rfl⟩ (by decide +kernel) ⟨Nat.le_of_ble_eq_true rfl, Nat.le_of_ble_eq_true rfl⟩) hX hH rfl hl.1 rfl (Nat.le_of_ble_eq_true rfl) dL_law_37 ⟨Nat.le_of_ble_eq_true rfl, Nat.le_of_ble_eq_true rfl⟩ (fun H locs hH => ?_)
  refine lv_aload_n hx hb dL_law_40 rfl (lv_at hl 1 rfl) ?_
  refine lv_aload_n hx hb dL_law_41 rfl (lv_at hl 2 rfl) ?_
  refine lv_aload_n hx hb dL_law_42 rfl (lv_at hl 3 rfl) ?_
  refine lv_aload hx hb dL_law_43 (lv_at hl 4 rfl) ?_
  refine lv_aload hx hb dL_law_45 (lv_at hl 5 rfl) ?_
  refine lv_aload hx hb dL_law_47 (lv_at hl 6 rfl) ?_
  obtain ⟨⟨r, τ⟩, e1, h1, h2⟩ := pv_isSo hI
  have h1 : r = 1 := h1
  have h2 : pvInv τ := h2
  subst h1
  refine g_callAi (As := [.ref (G.1 0), .ref (G.1 136), .ref (G.1 137), .ref (G.1 138), .ref (G.1 139), .ref (G.1 140)]) (rest := []) ⟨hx, hb, hml, hown, hts⟩ (metL_isSo l hlt D G σ1 μ 1 τ e1) (g_cwA 6 hts q_ml_L_146 q_st_L_isSo q_in_L q_co_L_isSo ⟨rfl, rfl⟩ (by decide +kernel) ⟨Nat.le_of_ble_eq_true rfl, Nat.le_of_ble_eq_true rfl⟩) hX hH rfl hl.1 rfl (Nat.le_of_ble_eq_true rfl) dL_law_49 ⟨by show _ ≤ 1061592; omega, by show _ ≤ 5916693; omega⟩ (fun H locs hH => ?_)
  refine lv_istore (lv' := [(7, .int (gI (1 : Int))), (0, .ref b), (1, .ref (G.1 0)), (2, .ref (G.1 136)), (3, .ref (G.1 137)), (4, .ref (G.1 138)), (5, .ref (G.1 139)), (6, .ref (G.1 140))]) hx hb dL_law_52 hl (by decide) rfl (fun ls hl => ?_)
  refine lv_bipush (v := gI (10 : Int)) hx hb dL_law_54 (by decide) ?_
  refine lv_aload_n hx hb dL_law_56 rfl (lv_at hl 1 rfl) ?_
  refine lv_iconst (v := gI (0 : Int)) hx hb dL_law_57 (by decide) ?_
  refine g_callCell (k := (0 : Int)) (rest := [.int (gI (10 : Int))]) ⟨hx, hb, hml, hown, hts⟩ (g_cwS 2 hts q_ml_L_150 q_st_L_cell q_in_L q_co_L_cell ⟨rfl, rfl⟩ (by decide +kernel) ⟨Nat.le_of_ble_eq_true rfl, Nat.le_of_ble_eq_true rfl⟩) hX hXs hbl hbA hL hH ⟨by decide, by decide⟩ hl.1 (Nat.le_of_ble_eq_true rfl) dL_law_58 ⟨by show _ ≤ 1061592; omega, by show _ ≤ 5916693; omega⟩ (fun H locs hH => ?_)
  refine lv_bipush (v := gI (60 : Int)) hx hb dL_law_61 (by decide) ?_
  obtain ⟨n60, en, n0, n1⟩ := pv_low τ (gCell xs L (0 : Int)) (n := 60) (by decide)
  refine g_callSi (As := [.int (gI (gCell xs L (0 : Int))), .int (gI (60 : Int))]) (rest := [.int (gI (10 : Int))]) ⟨hx, hb, hml, hown, hts⟩ (metL_low l D G τ μ (gCell xs L (0 : Int)) 60 n60 en) (g_cwS 2 hts q_ml_L_26 q_st_L_low q_in_L q_co_L_low ⟨rfl, rfl⟩ (by decide +kernel) ⟨Nat.le_of_ble_eq_true rfl, Nat.le_of_ble_eq_true rfl⟩) hX hH rfl hl.1 rfl (Nat.le_of_ble_eq_true rfl) dL_law_63 ⟨by show _ ≤ 1061592; omega, by show _ ≤ 5916693; omega⟩ (fun H locs hH => ?_)
  refine g_iadd hx hb dL_law_66 ?_
  refine lv_istore (lv' := [(8, .int (gI ((10 : Int) + n60))), (7, .int (gI (1 : Int))), (0, .ref b), (1, .ref (G.1 0)), (2, .ref (G.1 136)), (3, .ref (G.1 137)), (4, .ref (G.1 138)), (5, .ref (G.1 139)), (6, .ref (G.1 140))]) hx hb dL_law_67 hl (by decide) rfl (fun ls hl => ?_)
  refine lv_iconst (v := gI (0 : Int)) hx hb dL_law_69 (by decide) ?_
  refine lv_istore (lv' := [(9, .int (gI (0 : Int))), (8, .int (gI ((10 : Int) + n60))), (7, .int (gI (1 : Int))), (0, .ref b), (1, .ref (G.1 0)), (2, .ref (G.1 136)), (3, .ref (G.1 137)), (4, .ref (G.1 138)), (5, .ref (G.1 139)), (6, .ref (G.1 140))]) hx hb dL_law_70 hl (by decide) rfl (fun ls hl => ?_)
  exact law_turns hr hlocks hlt hx hb hml hown hts hX hXs hbl hbA hL hgA (T := (10 : Int) + n60) ⟨by omega, by omega⟩ 73 0 H locs _ _ _ τ (by omega) (by omega) (by omega) (by omega) hH (lv_sub hl [3, 4, 5, 6, 7, 8, 9, 2, 1, 0] rfl) h2
