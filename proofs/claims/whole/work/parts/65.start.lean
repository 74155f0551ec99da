/-! the law, from its entry -/
theorem en_hlt {l : Launch} (h : l.flags = flags0) : l.stackTraces = false := by
  unfold Launch.stackTraces
  rw [h]
  decide +kernel
set_option maxHeartbeats 8000000 in
set_option maxRecDepth 100000 in
/-- YOUR PART: from the entry, for every script of at most 2048 ints, the law comes to its end with true ('hflags': the launch's flags, for a law that throws: no stack traces) -/
theorem whole_start {p : Program} {e : Env} {s : State} {m : MethodId} {below : List Frame} {meth : Method} {c : Code} (l : Launch) (hflags : l.flags = flags0) {b L : Nat} {xs : Nat → Int32} (hL : L ≤ 2048) (C0 : lw_At p s m meth c b L xs) : W p l e room_1 s m #[Value.ref b] below meth c s.heap [] 0 0 (lw_Z below #[Value.ref b] s) (entryFrame m ([Value.ref b] : List Value).toArray 9) := by
  obtain ⟨hx, hb, hr, hml, hown, hts0, hXs, hbl, hlocks, hgv⟩ := id C0
  have hgv2 := flat_of_before _ hgv
  have hlt : l.stackTraces = false := en_hlt hflags
  have hts : ∀ w ∈ gLW, w.before #[Value.ref b] s = true := fun w hw => hts0 w (gLW_tbl w hw)
  obtain ⟨D, cI, cP, hK⟩ := en_K hts0
  obtain ⟨A, hAe⟩ : ∃ A : Nat → Prop, A = fun q => s.heap.size ≤ q := ⟨_, rfl⟩
  have hA : ∀ q : Nat, s.heap.size ≤ q → A q := fun q h => by rw [hAe]; exact h
  have hAB : ∀ q : Nat, A q → s.heap.size ≤ q := fun q h => by rw [hAe] at h; exact h
  have hZ : gZs (fun q => s.heap.size ≤ q) s s.heap := en_Z hts0 hgv2 (fun a h => Nat.not_le.mpr h)
  have hAO : va_AO "TaskSheets$Plan" s := va_AO.of (hts0 _ en_ao)
  have hS : va_S A s.heap s.heap [] := va_S.rf
  have hP : va_P D vwCl [] s.heap := fun k q h => by simp at h
  have hD : va_D A [] := ⟨fun i j p q h => by simp at h, fun k q h => by simp at h⟩
  have hl := lv_entry ([.ref b]) (n := 9) (Nat.le_of_ble_eq_true rfl)
  rw [lg_entry_eq]
  generalize (lg_sl ([.ref b]) ++ List.replicate (9 - (lg_sl ([.ref b])).length) Slot.unset).toArray = ls at hl ⊢
  have hl : lv_has ls 9 [(0, .ref b)] := hl
  refine va_new (ci := 8) (fs := [.null, .null, .null, .null, .null, .null, .null, .null, .null, .null]) (C := RX8) (T := TX8) (N := 10) hx hb hts q_ws_X8 tyX8 tyX8_ok hown (hts _ q_cl_L_8) (hts _ q_ia_X8) (hts _ q_in_X8) hK hP hD hS hA rfl (fun j hj => by rcases (show j = 0 ∨ j = 1 ∨ j = 2 ∨ j = 3 ∨ j = 4 ∨ j = 5 ∨ j = 6 ∨ j = 7 ∨ j = 8 ∨ j = 9 by omega) with rfl | rfl | rfl | rfl | rfl | rfl | rfl | rfl | rfl | rfl <;> rfl) (Nat.le_of_ble_eq_true rfl) (Nat.le_of_ble_eq_true rfl) dL_law_0 (fun q0 H hP hD hS => ?_)
  refine lv_dup hx hb dL_law_3 rfl ?_
  have hts2 : ∀ w ∈ gWs yX8_init cX8_init 1 none, w.before _ s = true := fun w hw => (List.mem_cons.mp hw).elim (fun e => by rw [e]; exact hts _ q_co_X8_init) (hts w)
  have hFc := g_freeLast hD hS hA
  refine va_callv (A1 := va_A [(q0, .inr (8, [.null, .null, .null, .null, .null, .null, .null, .null, .null, .null]))] H.size) (va_runI (As := []) (rest := [.ref q0]) ⟨hx, hb, hml, hown, hts⟩ (ccX8_init l D cI cP s.heap.size q0 H.size) (cwI 0 hts2 (gGood (n := 1) (r := none) q_co_X8_init) rfl rfl rfl (hts _ q_in_X8) (hts _ q_ml_L_76) (hts _ q_im_X8_init) rfl (by decide +kernel) ⟨Nat.le_of_ble_eq_true rfl, Nat.le_of_ble_eq_true rfl⟩) ⟨cPre_blind, fun U hU hW => ⟨rfl, by rw [hU], by rw [hU]; exact g_lastP hP, va_K.moved hW.alike hK, g_lastD hD hAB, hS.1, by rw [hU]; exact hZ.go (hS.wide hAB) hW, va_AO.moved hW.alike hAO⟩⟩ rfl rfl hl.1 rfl (lv_room (Nat.le_of_ble_eq_true rfl)) dL_law_4 ⟨Nat.le_of_ble_eq_true rfl, Nat.le_of_ble_eq_true rfl⟩) hS (fun q _ h => hFc q h) hFc (fun u t H1 locs1 ht hvm hw hB hz1 hk1 hS => ?_)
  obtain ⟨hP1, hD1⟩ := hB
  rw [ht] at hP1
  obtain ⟨hP, hD⟩ := g_joinLast (w1 := (wTask cI cP q0 u)) hP hD hk1 hFc hP1 hD1
  generalize H1 = H at hP hS ⊢
  have hP : va_P D vwCl (wTask cI cP q0 u) H := hP
  have hD : va_D A (wTask cI cP q0 u) := hD
  refine lv_astore_n (lv' := [(1, .ref q0), (0, .ref b)]) hx hb dL_law_7 rfl hl (by decide) rfl (fun ls hl => ?_)
  refine va_new (ci := 9) (fs := [.null, .null, .null, .int 0, .null, .int 0, .int 0, .int 0, .int 0, .null, .null, .null, .int 0, .null, .null, .null, .int 0, .int 0, .long 0]) (C := RX9) (T := TX9) (N := 19) hx hb hts q_ws_X9 tyX9 tyX9_ok hown (hts _ q_cl_L_77) (hts _ q_ia_X9) (hts _ q_in_X9) hK hP hD hS hA rfl (fun j hj => by rcases (show j = 0 ∨ j = 1 ∨ j = 2 ∨ j = 3 ∨ j = 4 ∨ j = 5 ∨ j = 6 ∨ j = 7 ∨ j = 8 ∨ j = 9 ∨ j = 10 ∨ j = 11 ∨ j = 12 ∨ j = 13 ∨ j = 14 ∨ j = 15 ∨ j = 16 ∨ j = 17 ∨ j = 18 by omega) with rfl | rfl | rfl | rfl | rfl | rfl | rfl | rfl | rfl | rfl | rfl | rfl | rfl | rfl | rfl | rfl | rfl | rfl | rfl <;> rfl) (Nat.le_of_ble_eq_true rfl) (Nat.le_of_ble_eq_true rfl) dL_law_8 (fun q1 H hP hD hS => ?_)
  refine lv_dup hx hb dL_law_11 rfl ?_
  have hts2 : ∀ w ∈ gWs yX9_init cX9_init 1 none, w.before _ s = true := fun w hw => (List.mem_cons.mp hw).elim (fun e => by rw [e]; exact hts _ q_co_X9_init) (hts w)
  have hFc := g_freeLast hD hS hA
  refine va_callv (A1 := va_A [(q1, .inr (9, [.null, .null, .null, .int 0, .null, .int 0, .int 0, .int 0, .int 0, .null, .null, .null, .int 0, .null, .null, .null, .int 0, .int 0, .long 0]))] H.size) (va_runI (As := []) (rest := [.ref q1]) ⟨hx, hb, hml, hown, hts⟩ (ccX9_init l D cI cP s.heap.size q1 H.size) (cwI 0 hts2 (gGood (n := 1) (r := none) q_co_X9_init) rfl rfl rfl (hts _ q_in_X9) (hts _ q_ml_L_79) (hts _ q_im_X9_init) rfl (by decide +kernel) ⟨Nat.le_of_ble_eq_true rfl, Nat.le_of_ble_eq_true rfl⟩) ⟨cPre_blind, fun U hU hW => ⟨rfl, by rw [hU], by rw [hU]; exact g_lastP hP, va_K.moved hW.alike hK, g_lastD hD hAB, hS.1, by rw [hU]; exact hZ.go (hS.wide hAB) hW, va_AO.moved hW.alike hAO⟩⟩ rfl rfl hl.1 rfl (lv_room (Nat.le_of_ble_eq_true rfl)) dL_law_12 ⟨Nat.le_of_ble_eq_true rfl, Nat.le_of_ble_eq_true rfl⟩) hS (fun q _ h => hFc q h) hFc (fun v t H1 locs2 ht hvm hw hB hz1 hk1 hS => ?_)
  obtain ⟨hP1, hD1⟩ := hB
  rw [ht] at hP1
  obtain ⟨hP, hD⟩ := g_joinLast (w1 := (wModel cI q1 v)) hP hD hk1 hFc hP1 hD1
  generalize H1 = H at hP hS ⊢
  refine lv_astore_n (lv' := [(2, .ref q1), (1, .ref q0), (0, .ref b)]) hx hb dL_law_15 rfl hl (by decide) rfl (fun ls hl => ?_)
  refine lv_iconst (v := 1) hx hb dL_law_16 (by decide) ?_
  refine va_newa (atype := .long) (ty := .long) (N' := 1) (a0 := (1, .inr (.inl (fun _ => 0)))) hx hb (hts _ q_ac_long) rfl hK hP hD hS hA (fun cA => rfl) (by decide) (by decide) (Nat.le_of_ble_eq_true rfl) (Nat.le_of_ble_eq_true rfl) (Nat.le_of_ble_eq_true rfl) dL_law_17 (fun q2 cL H hK hP hD hS => ?_)
  refine lv_astore_n (lv' := [(3, .ref q2), (2, .ref q1), (1, .ref q0), (0, .ref b)]) hx hb dL_law_19 rfl hl (by decide) rfl (fun ls hl => ?_)
  refine lv_iconst (v := 0) hx hb dL_law_20 (by decide) ?_
  refine lv_istore (lv' := [(4, .int 0), (3, .ref q2), (2, .ref q1), (1, .ref q0), (0, .ref b)]) hx hb dL_law_21 hl (by decide) rfl (fun ls hl => ?_)
  refine va_forget (fun q hq => hAB _ (hS.2.2 q hq)) ?_
  obtain ⟨G, hG⟩ : ∃ G : gAd, G = enG cI cP cL q0 q1 q2 u v := ⟨_, rfl⟩
  have hw : gW G puS0 (fun _ => 0) = (wTask cI cP q0 u ++ wModel cI q1 v) ++ [(q2, .inl (cL, 1, .inr (.inl (fun _ => 0))))] := by
    rw [hG, en_gW]
    exact en_big cI cP cL q0 q1 q2 u v
  rw [← hw] at hP hD
  have hget : ∀ i, i < gN → ∃ x : va_E, (gW G puS0 (fun _ => 0))[i]? = some (G.1 i, x) := fun i hi => by
    have hi : i < gKinds.length := by rw [gN_len]; exact hi
    exact ⟨_, gW_get (List.getElem?_eq_getElem hi)⟩
  have hinj : ∀ i j, i < gN → j < gN → G.1 i = G.1 j → i = j := fun i j hi hj h => by
    obtain ⟨x, hx1⟩ := hget i hi
    obtain ⟨y, hy1⟩ := hget j hj
    exact hD.1 i j _ _ hx1 hy1 h
  have hgA : ∀ q, gA G q → s.heap.size ≤ q := fun q h => by
    obtain ⟨k, hk, rfl⟩ := h
    obtain ⟨x, hx1⟩ := hget k hk
    exact hAB _ (hD.2 k _ hx1)
  have hgX : gX D G s := by
    refine ⟨?_, hinj, en_Z hts0 hgv2 (fun a h h2 => absurd (hgA a h2) (Nat.not_le.mpr h))⟩
    rw [hG]
    exact hK
  have hgH : gH D G (s.setDrawn s.drawn) H [] puS0 (fun _ => 0) := ⟨hP, hS.1, fun q h1 _ => hS.2.1 q h1 (fun z => absurd (hAB q z) (Nat.not_le.mpr h1)), fun q h => by cases h⟩
  have hll : lv_has ls 9 (gLocs G b 0) := by
    have e0 : G.1 0 = q0 := by rw [hG]; rfl
    have e1 : G.1 136 = q1 := by rw [hG]; rfl
    have e2 : G.1 147 = q2 := by rw [hG]; rfl
    show lv_has ls 9 [(0, .ref b), (1, .ref (G.1 0)), (2, .ref (G.1 136)), (3, .ref (G.1 147)), (4, .int (gI (4 * ((0 : Nat) : Int))))]
    rw [e0, e1, e2]
    exact lv_sub hl [4, 3, 2, 1, 0] rfl
  refine W.base ?_
  exact law_run hr hlocks hlt hx hb hml hown hts hgX hXs hbl (fun h => absurd (hgA b h) (Nat.not_le.mpr hbl)) hL hgA 600 0 H [] ls _ _ s.drawn puS0 (fun _ => 0) (Drawn.sameBut.refl s.drawn lw_cs) (Nat.le_of_ble_eq_true rfl) (Nat.le_of_ble_eq_true rfl) (by omega) hgH hll (pu_run hL 600 0 _ _ (by omega) (by omega) puS0_inv)
