/-! rows of this law: bits and shifts as numbers; passing arrays; calls that make cells -/
theorem q_ki_L_7 : Cond.constant RL 7 (gI (40503 : Int)) ∈ gLW := List.mem_filter.mpr ⟨List.mem_of_getElem? (i := 269) (by decide +kernel), by decide +kernel⟩
theorem q_ki_L_8 : Cond.constant RL 8 (gI (2147483647 : Int)) ∈ gLW := List.mem_filter.mpr ⟨List.mem_of_getElem? (i := 273) (by decide +kernel), by decide +kernel⟩
theorem q_ki_L_25 : Cond.constant RL 25 (gI (100000 : Int)) ∈ gLW := List.mem_filter.mpr ⟨List.mem_of_getElem? (i := 277) (by decide +kernel), by decide +kernel⟩
theorem q_ki_L_61 : Cond.constant RL 61 (gI (-100002 : Int)) ∈ gLW := List.mem_filter.mpr ⟨List.mem_of_getElem? (i := 544) (by decide +kernel), by decide +kernel⟩
theorem q_ki_L_34 : Cond.constant RL 34 (gI (-100003 : Int)) ∈ gLW := List.mem_filter.mpr ⟨List.mem_of_getElem? (i := 545) (by decide +kernel), by decide +kernel⟩
theorem q_ki_L_46 : Cond.constant RL 46 (gI (-100001 : Int)) ∈ gLW := List.mem_filter.mpr ⟨List.mem_of_getElem? (i := 600) (by decide +kernel), by decide +kernel⟩
def gShr (x n : Int) : Int := ((gI x) >>> ((gI n) &&& 31)).toInt
def gAnd (x y : Int) : Int := ((gI x) &&& (gI y)).toInt
theorem gAnd_in (x : Int) : 0 ≤ gAnd x 2147483647 ∧ gAnd x 2147483647 ≤ 2147483647 := by
  have e : (gI x &&& gI 2147483647).toBitVec.toNat ≤ 2147483647 := by
    rw [Int32.toBitVec_and, BitVec.toNat_and]
    exact Nat.le_trans Nat.and_le_right (by decide +kernel)
  have c := BitVec.toInt_eq_toNat_cond (gI x &&& gI 2147483647).toBitVec
  have e2 : gAnd x 2147483647 = (gI x &&& gI 2147483647).toBitVec.toInt := rfl
  rw [if_pos (by omega)] at c
  rw [e2, c]
  omega
/-- one cell's content is another -/
def gPut (σ : gSt) (k : Nat) (f : Nat → Int) : gSt := fun k' => if k' = k then f else σ k'
theorem gPut_e {σ : gSt} {k : Nat} {f : Nat → Int} : gPut σ k f k = f := if_pos rfl
theorem gPut_n {σ : gSt} {k k' : Nat} {f : Nat → Int} (h : k' ≠ k) : gPut σ k f k' = σ k' := if_neg h
/-- one cell's address is another -/
def gMv (G : gAd) (k q : Nat) : gAd := (fun j => if j = k then q else G.1 j, G.2)
theorem gMv_e {G : gAd} {k q : Nat} : (gMv G k q).1 k = q := if_pos rfl
theorem gMv_n {G : gAd} {k q j : Nat} (h : j ≠ k) : (gMv G k q).1 j = G.1 j := if_neg h
/-- no slot refers to the cell k -/
def gNoK (k : Nat) : gKd → Bool
  | .inr (.inl o) => o.2.all (fun s => match s with | .inl i => i != k | _ => true)
  | .inr (.inr (.inl rs)) => rs.all (fun i => i != k)
  | _ => true
theorem gNoK_122 : gKinds.all (gNoK 122) = true := by decide +kernel
theorem gNoK_124 : gKinds.all (gNoK 124) = true := by decide +kernel
theorem gE_mv {G : gAd} {σ : gSt} {μ : gLg} {k q j : Nat} {f : Nat → Int} {t : gKd} (h : gNoK k t = true) (hj : j ≠ k) : gE (gMv G k q) σ μ j t = gE G (gPut σ k f) μ j t := by
  have hσ : gPut σ k f j = σ j := gPut_n hj
  rcases t with n | o | rs | n
  · simp only [gE, hσ]
    rfl
  · show Sum.inr _ = Sum.inr _
    congr 2
    apply List.ext_getElem?
    intro i
    rw [List.getElem?_mapIdx, List.getElem?_mapIdx]
    cases hi : o.2[i]? with
    | none => rfl
    | some x =>
      have hx := List.all_eq_true.mp h x (List.mem_of_getElem? hi)
      show some (gSl _ _ _ _ _ x) = some (gSl _ _ _ _ _ x)
      rcases x with a | b
      · have ha : a ≠ k := by simpa using hx
        show some (Value.ref ((gMv G k q).1 a)) = some (Value.ref (G.1 a))
        rw [gMv_n ha]
      · cases b
        · show some (Value.int (gI (σ j i))) = some (Value.int (gI (gPut σ k f j i)))
          rw [hσ]
        · rfl
  · show (Sum.inl (_, _, Sum.inr (Sum.inr (Sum.inr (Sum.inr (fun i => (rs[i]?).map (gMv G k q).1))))) : va_E) = Sum.inl (_, _, Sum.inr (Sum.inr (Sum.inr (Sum.inr (fun i => (rs[i]?).map G.1)))))
    have hf : (fun i : Nat => (rs[i]?).map (gMv G k q).1) = (fun i : Nat => (rs[i]?).map G.1) := by
      funext i
      cases hi : rs[i]? with
      | none => rfl
      | some x =>
        have hx := List.all_eq_true.mp h x (List.mem_of_getElem? hi)
        have ha : x ≠ k := by simpa using hx
        show some ((gMv G k q).1 x) = some (G.1 x)
        rw [gMv_n ha]
    rw [hf]
    rfl
  · rfl
theorem gA_mv {G : gAd} {k q a : Nat} (h : ¬ gA G a) (hq : a < q) : ¬ gA (gMv G k q) a := by
  rintro ⟨j, hj, e⟩
  by_cases hk : j = k
  · rw [hk, gMv_e] at e
    omega
  · rw [gMv_n hk] at e
    exact h ⟨j, hj, e⟩
theorem gA_back {G : gAd} {k q a : Nat} (h : gA (gMv G k q) a) (hq : a < q) : gA G a := by
  obtain ⟨j, hj, e⟩ := h
  by_cases hk : j = k
  · rw [hk, gMv_e] at e
    omega
  · rw [gMv_n hk] at e
    exact ⟨j, hj, e⟩
theorem gZs_mv {G : gAd} {s : State} {k q : Nat} (hq : s.heap.size ≤ q) (h : gZs (gA G) s s.heap) : gZs (gA (gMv G k q)) s s.heap := by
  have hz : ∀ {C n d : String} {v : Value}, va_Z C n d v (gA G) s s.heap → va_Z C n d v (gA (gMv G k q)) s s.heap := by
    rintro C n d v ⟨cf, kf, fi, f, a, cell, h1, h2, h3, h4, h5, h6, h7, h8⟩
    have ha : a < s.heap.size := (Array.getElem?_eq_some_iff.mp h5).1
    exact ⟨cf, kf, fi, f, a, cell, h1, h2, h3, h4, h5, h6, h7, gA_mv h8 (by omega)⟩
  have hx : ∀ {C n d : String}, vx_Zq C n d (gA G) s s.heap → vx_Zq C n d (gA (gMv G k q)) s s.heap := by
    rintro C n d ⟨g1, cf, kf, fi, f, a, cell, h1, h2, h3, h4, h5, h6, h7, h8, h9, h10⟩
    have ha : a < s.heap.size := (Array.getElem?_eq_some_iff.mp h5).1
    refine ⟨?_, cf, kf, fi, f, a, cell, h1, h2, h3, h4, h5, h6, h7, h8, h9, gA_mv h10 (by omega)⟩
    rcases g1 with g1 | ⟨t, g1⟩
    · exact Or.inl (hz g1)
    · exact Or.inr ⟨t, hz g1⟩
  obtain ⟨h1, h2, h3, h4⟩ := h
  refine ⟨fun p hp => ?_, hx h2, hx h3, h4⟩
  obtain ⟨t, g1, g2⟩ := h1 p hp
  obtain ⟨cell, e1, e2, e3, e4, e5, e6, e7⟩ := g2
  have ha : t < s.heap.size := (Array.getElem?_eq_some_iff.mp e1).1
  exact ⟨t, hz g1, cell, e1, e2, e3, e4, e5, e6, gA_mv e7 (Nat.lt_of_lt_of_le ha hq)⟩
theorem g_same2 {D : va_G} {tys : List (ClassId × FieldType)} {s : State} (hK : va_K D vwCl tys s) {cA cB : ClassId} (i j : Nat) (hi : tys[i]? = some (cA, .int)) (hj : tys[j]? = some (cB, .int)) : cB = cA := by
  have h1 : s.vm.findClass ("[" ++ FieldType.int.toString) = some cA := (hK.2 i _ hi).2
  have h2 : s.vm.findClass ("[" ++ FieldType.int.toString) = some cB := (hK.2 j _ hj).2
  exact Option.some.inj (h2.symm.trans h1)
section GR1
variable {p : Program} {l : Launch} {e : Env} {R : Room} {s : State} {m : MethodId} {args : Array Value} {below : List Frame} {meth : Method} {c : Code} {H : Heap} {locs : List Loc} {cells slots : Nat} {Q : State → Prop}
variable {cc : ByteArray} {pc : Nat} {ls : Array Slot} {rest : List Value} {D : va_G} {G : gAd} {σ : gSt} {μ : gLg}
theorem g_ishr (hexec : p.tables.exec = Jvm.exec) (hb : c.code = cc) {x n : Int} (hdg : decode cc pc = .ok (.ishr, 1)) (k : W p l e R s m args below meth c H locs cells slots Q (F0 m (pc + 1) ls (.int (gI (gShr x n)) :: rest))) : W p l e R s m args below meth c H locs cells slots Q (F0 m pc ls (.int (gI n) :: .int (gI x) :: rest)) :=
  lv_ishr hexec hb hdg (by rw [gI_x (gI x >>> (gI n &&& 31))]; exact k)
theorem g_iand (hexec : p.tables.exec = Jvm.exec) (hb : c.code = cc) {x y : Int} (hdg : decode cc pc = .ok (.iand, 1)) (k : W p l e R s m args below meth c H locs cells slots Q (F0 m (pc + 1) ls (.int (gI (gAnd x y)) :: rest))) : W p l e R s m args below meth c H locs cells slots Q (F0 m pc ls (.int (gI y) :: .int (gI x) :: rest)) :=
  lv_iand hexec hb hdg (by rw [gI_x (gI x &&& gI y)]; exact k)
/-- a passing array: the cell k is made anew -/
theorem g_newB {k : Nat} (hk : gKinds[k]? = some (.inl 24)) (hno : gKinds.all (gNoK k) = true) (hexec : p.tables.exec = Jvm.exec) (hb : c.code = cc) (hts : ∀ w ∈ gLW, w.before args s = true) (hX : gX D G s) (hP : va_P D vwCl (gW G σ μ) s.heap) (hR : 0 + 1 ≤ R.cells ∧ 0 + 24 ≤ R.slots) (hdg : decode cc pc = .ok (.newarray .int, 2))
    (kk : ∀ (q : Nat) (H1 : Heap), s.heap.size ≤ q → gX D (gMv G k q) s → gH D (gMv G k q) s H1 [] (gPut σ k (fun _ => 0)) μ → W p l e R s m args below meth c H1 [] (0 + 1) (0 + 24) Q (F0 m (pc + 2) ls (.ref q :: rest))) : W p l e R s m args below meth c s.heap [] 0 0 Q (F0 m pc ls (.int (gI 24) :: rest)) := by
  have hold : ∀ j, j < gN → G.1 j < s.heap.size := fun j hj => by
    have hj2 : j < gKinds.length := by rw [gN_len]; exact hj
    exact (hP j _ (gW_get (List.getElem?_eq_getElem hj2))).lt
  have hne : ∀ j, j < gN → s.heap.size ≠ G.1 j := fun j hj e0 => by
    have := hold j hj
    omega
  refine va_newaK (atype := .int) (g := F0 m pc ls (.int (gI 24) :: rest)) (N := 24) hexec hb (hts _ q_ac_int) rfl hdg rfl (by decide) (by decide +kernel) (by decide) hR.1 hR.2 rfl (fun H1 cA n1 z1 o1 hAr hNm => ?_)
  have hcA : cA = G.2.1 := by
    have h1 : s.vm.findClass ("[" ++ FieldType.int.toString) = some G.2.1 := (hX.1.2 0 (G.2.1, .int) rfl).2
    have h2 : s.vm.findClass ("[" ++ FieldType.int.toString) = some cA := hNm
    exact Option.some.inj (h2.symm.trans h1)
  subst hcA
  refine kk s.heap.size H1 (Nat.le_refl _) ⟨hX.1, fun i j hi hj h => ?_, gZs_mv (Nat.le_refl _) hX.2.2⟩ ⟨fun j x hx => ?_, by rw [z1]; omega, fun a h1 h2 => o1 a h1, fun x h => by cases h⟩
  · by_cases e1 : i = k
    · by_cases e2 : j = k
      · rw [e1, e2]
      · rw [e1, gMv_e, gMv_n e2] at h
        exact absurd h (hne j hj)
    · by_cases e2 : j = k
      · rw [e2, gMv_e, gMv_n e1] at h
        exact absurd h.symm (hne i hi)
      · rw [gMv_n e1, gMv_n e2] at h
        exact hX.2.1 i j hi hj h
  · obtain ⟨t, ht, rfl⟩ := gW_inv hx
    by_cases e1 : j = k
    · subst e1
      rw [hk] at ht
      cases ht
      rw [gMv_e]
      show va_at D vwCl (s.heap.size, .inl (G.2.1, 24, .inl (fun i => gI (gPut σ j (fun _ => 0) j i)))) H1
      rw [gPut_e]
      exact n1
    · rw [gMv_n e1, gE_mv (f := σ k) (List.all_eq_true.mp hno t (List.mem_of_getElem? ht)) e1]
      have e2 : gPut (gPut σ k (fun _ => 0)) k (σ k) = σ := by
        funext k'
        by_cases e3 : k' = k
        · rw [e3, gPut_e]
        · rw [gPut_n e3, gPut_n e3]
      rw [e2]
      have h0 := hP j _ (gW_get ht)
      exact h0.kept (o1 _ h0.lt)
/-- what was written in new cells is forgotten -/
theorem g_old {g : JFrame} (kk : W p l e R s m args below meth c H (locs.filter (fun z => decide (z.base < s.heap.size))) cells slots Q g) : W p l e R s m args below meth c H locs cells slots Q g := fun T hT X => kk T hT { X with same := X.same.weaken (fun y hy hlt => List.mem_filter.mpr ⟨hy, decide_eq_true hlt⟩) (Nat.le_refl _) (Nat.le_refl _) }
theorem g_backP {k q : Nat} {σ' : gSt} (hk : gKinds[k]? = some (.inl 24)) (hno : gKinds.all (gNoK k) = true) (hX : gX D G s) (hP : va_P D vwCl (gW G σ μ) s.heap) (hq : s.heap.size ≤ q) (hH : gH D (gMv G k q) s H locs σ' μ) : va_P D vwCl (gW G (gPut σ' k (σ k)) μ) H := by
  intro j x hx
  obtain ⟨t, ht, rfl⟩ := gW_inv hx
  by_cases e1 : j = k
  · subst e1
    have h0 := hP j _ (gW_get ht)
    have hl := h0.lt
    have e2 : gE G (gPut σ' j (σ j)) μ j t = gE G σ μ j t := by
      rw [hk] at ht
      cases ht
      simp only [gE, gPut_e]
    rw [e2]
    refine h0.kept (hH.2.2.1 _ hl (fun z => ?_))
    obtain ⟨i, hi, e0⟩ := z
    by_cases e3 : i = j
    · rw [e3, gMv_e] at e0
      have hl : G.1 j < s.heap.size := hl
      omega
    · rw [gMv_n e3] at e0
      exact e3 (hX.2.1 i j hi (gN_of ht) e0.symm)
  · have h0 := hH.1 j _ (gW_get ht)
    rw [gMv_n e1, gE_mv (f := σ k) (List.all_eq_true.mp hno t (List.mem_of_getElem? ht)) e1] at h0
    exact h0
theorem g_retM {k q : Nat} {σ' : gSt} {v : Int} (hk : gKinds[k]? = some (.inl 24)) (hno : gKinds.all (gNoK k) = true) (hexec : p.tables.exec = Jvm.exec) (hb : c.code = cc) (hr : meth.sig.returnType = some .int) (hX : gX D G s) (hP : va_P D vwCl (gW G σ μ) s.heap) (hq : s.heap.size ≤ q) (hH : gH D (gMv G k q) s H locs σ' μ) (hlocks : meth.locks = false) (hdg : decode cc pc = .ok (.ireturn, 1)) : W p l e R s m args below meth c H locs cells slots (MQ below (gQi D G v (gPut σ' k (σ k)) μ) args s cells slots (gA G)) (F0 m pc ls [.int (gI v)]) := by
  have hB := g_backP hk hno hX hP hq hH
  refine g_old (W.iret hexec hb hr (fun t ht hW => ⟨⟨_, (), rfl, rfl, by show va_P D vwCl (gW G _ μ) t.heap; rw [ht]; exact hB⟩, by rw [ht]; exact hH.2.1, fun a h1 h2 => by rw [ht]; exact hH.2.2.1 a h1 (gA_mv h2 (by omega))⟩) (fun z hz => ?_) hdg hlocks)
  obtain ⟨z1, z2⟩ := List.mem_filter.mp hz
  exact gA_back (hH.2.2.2 z z1) (Nat.lt_of_lt_of_le (of_decide_eq_true z2) hq)
theorem g_retMz {k q : Nat} {σ' : gSt} {v : Int} (hv : v = 0 ∨ v = 1) (hk : gKinds[k]? = some (.inl 24)) (hno : gKinds.all (gNoK k) = true) (hexec : p.tables.exec = Jvm.exec) (hb : c.code = cc) (hr : meth.sig.returnType = some .boolean) (hX : gX D G s) (hP : va_P D vwCl (gW G σ μ) s.heap) (hq : s.heap.size ≤ q) (hH : gH D (gMv G k q) s H locs σ' μ) (hlocks : meth.locks = false) (hdg : decode cc pc = .ok (.ireturn, 1)) : W p l e R s m args below meth c H locs cells slots (MQ below (gQi D G v (gPut σ' k (σ k)) μ) args s cells slots (gA G)) (F0 m pc ls [.int (gI v)]) := by
  have hB := g_backP hk hno hX hP hq hH
  refine g_old (W.zret hexec hb hr (by rcases hv with rfl | rfl <;> rfl) (fun t ht hW => ⟨⟨_, (), rfl, rfl, by show va_P D vwCl (gW G _ μ) t.heap; rw [ht]; exact hB⟩, by rw [ht]; exact hH.2.1, fun a h1 h2 => by rw [ht]; exact hH.2.2.1 a h1 (gA_mv h2 (by omega))⟩) (fun z hz => ?_) hdg hlocks)
  obtain ⟨z1, z2⟩ := List.mem_filter.mp hz
  exact gA_back (hH.2.2.2 z z1) (Nat.lt_of_lt_of_le (of_decide_eq_true z2) hq)
/-- a static call that makes cells -/
theorem g_callAi {y : MethodName} {bytes : ByteArray} {maxL nL n index mc ms : Nat} {ret : Option FieldType} {rm : Room} {Ts : List Cond} {own : String} {As st0 : List Value} {σ' : gSt} {μ' : gLg} {r : Int} (S : CallFix p m c cc nL s args Ts own) (hM : Met l y (gWs y bytes maxL ret) rm (gPc D G (As) σ μ) (gQi D G r σ' μ') mc ms (gA G)) (cw : CallB R s args own index y bytes maxL ret (gWs y bytes maxL ret) rm mc ms n ∧ (Cond.static y).before args s = true) (hX : gX D G s) (hH : gH D G s H locs σ μ) (hn : As.length = n) (hsize : ls.size = nL) (hst : st0 = As.reverse ++ rest) (hW : (rest.map fun v => v.category).sum ≤ 8) (hdg : decode cc pc = .ok (.invokestatic index, 3)) (hf : cells + mc ≤ R.cells ∧ slots + ms ≤ R.slots)
    (kk : ∀ (H1 : Heap) (locs1 : List Loc), gH D G s H1 locs1 σ' μ' → W p l e R s m args below meth c H1 locs1 (cells + mc) (slots + ms) Q (F0 m (pc + 3) ls (.int (gI r) :: rest))) : W p l e R s m args below meth c H locs cells slots Q (F0 m pc ls st0) := by
  refine va_calli (mc := mc) (ms := ms) (free := gA G) (A0 := gA G) (A1 := gA G) (va_runS (As := As) (rest := rest) S hM cw ⟨gPc_blind, fun U hU hW2 => ⟨rfl, by rw [hU]; exact hH.1, hX.go hH.2 hU hW2⟩⟩ rfl hn hsize hst (lv_room hW) hdg hf) hH.2 (fun q _ h => h) (fun q h => h) (fun r0 u t H1 locs1 ht hvm hp hB hz hq hS => ?_)
  have hB2 : va_P D vwCl (gW G σ' μ') t.heap := hB
  rw [ht] at hB2
  subst hp
  exact kk H1 locs1 ⟨hB2, hS⟩
end GR1
theorem g_cwA {R : Room} {s : State} {args : Array Value} {own : String} {idx maxL mc ms : Nat} {y : MethodName} {bytes : ByteArray} {ret : Option FieldType} {rm : Room} (n : Nat) (hts : ∀ w ∈ gLW, w.before args s = true) (h1 : Cond.methodLink own idx y ∈ gLW) (h2 : Cond.static y ∈ gLW) (h4 : Cond.initialized y.cls ∈ gLW) (h5 : Cond.code y bytes maxL ret ∈ gLW) (hz : rm.cells = mc ∧ rm.slots = ms) (hd : y.cls ≠ "java/lang/invoke/MethodHandle" ∧ y.cls ≠ "java/lang/invoke/VarHandle" ∧ (parseMethodDescriptor y.desc).map (fun d => d.parameters.length) = some n) (hR : rm.frames + 1 ≤ R.frames ∧ 8 + (maxL + 11) + rm.locals ≤ R.locals) : CallB R s args own idx y bytes maxL ret (gWs y bytes maxL ret) rm mc ms n ∧ (Cond.static y).before args s = true := by
  have ht2 : ∀ w ∈ gWs y bytes maxL ret, w.before args s = true := fun w hw => by
    rcases List.mem_cons.mp hw with rfl | hw
    · exact hts _ h5
    · exact hts _ hw
  exact va_cwS n ht2 (gGoodS (n := maxL) (r := ret) h1 h2 h4 h5) rfl hz.1 hz.2 hd hR
