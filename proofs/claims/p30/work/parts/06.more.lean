def gQs {α : Type} (o : Option Nat) (f : Nat → Option α) : Option α := match o with
  | none => none
  | some j => if j = 29 ∨ j = 42 ∨ j = 55 ∨ j = 68 then f j else none
theorem gQs_some {α : Type} {o : Option Nat} {f : Nat → Option α} {r : α} (h : gQs o f = some r) : ∃ j, gPlan j ∧ o = some j ∧ f j = some r := by
  cases o with
  | none => cases h
  | some j =>
    unfold gQs at h
    dsimp only at h
    split at h
    · rename_i hj
      refine ⟨j, ?_, rfl, h⟩
      rcases hj with rfl | rfl | rfl | rfl
      · exact gPlan_29
      · exact gPlan_42
      · exact gPlan_55
      · exact gPlan_68
    · cases h
section GM1
variable {p : Program} {l : Launch} {e : Env} {R : Room} {s : State} {m : MethodId} {args : Array Value} {below : List Frame} {meth : Method} {c : Code} {H : Heap} {locs : List Loc} {cells slots : Nat} {Q : State → Prop}
variable {cc : ByteArray} {pc : Nat} {ls : Array Slot} {rest : List Value} {D : va_G} {G : gAd} {σ : gSt} {μ : gLg}
theorem g_lookIn (hexec : p.tables.exec = Jvm.exec) (hb : c.code = cc) {dflt : Int} {ps : Array (Int × Int)} {len : Nat} {x i : Int} {off : Int} {tgt : Nat} (hdg : decode cc pc = .ok (.lookupswitch dflt ps, len)) (hp : (ps.toList.zip (ps.toList.drop 1)).all (fun (a, next) => a.1 < next.1) = true) (hxi : x = i) (hR : gR i) (ho : Op.lookupswitch.offset ps.toList dflt i = off) (ht : (pc : Int) + off = (tgt : Int))
    (k : W p l e R s m args below meth c H locs cells slots Q (F0 m tgt ls rest)) : W p l e R s m args below meth c H locs cells slots Q (F0 m pc ls (.int (gI x) :: rest)) := by
  subst hxi
  exact lv_lookup hexec hb hdg hp (by rw [gI_t hR]; exact ho) ht k
theorem g_lookOut2 (hexec : p.tables.exec = Jvm.exec) (hb : c.code = cc) {dflt : Int} {ps : Array (Int × Int)} {len : Nat} {x a b oa ob : Int} {tgt : Nat} (hdg : decode cc pc = .ok (.lookupswitch dflt ps, len)) (hp : (ps.toList.zip (ps.toList.drop 1)).all (fun (a, next) => a.1 < next.1) = true) (hps : ps.toList = [(a, oa), (b, ob)]) (hR : gR x) (ha : ¬ x = a) (hb2 : ¬ x = b) (ht : (pc : Int) + dflt = (tgt : Int))
    (k : W p l e R s m args below meth c H locs cells slots Q (F0 m tgt ls rest)) : W p l e R s m args below meth c H locs cells slots Q (F0 m pc ls (.int (gI x) :: rest)) := by
  refine lv_lookup hexec hb hdg hp (off := dflt) ?_ ht k
  rw [gI_t hR, hps, Op.lookupswitch.offset_cons, if_neg (fun h => ha h.symm), Op.lookupswitch.offset_cons, if_neg (fun h => hb2 h.symm)]
  rfl
/-- the tables -/
theorem g_gets (hexec : p.tables.exec = Jvm.exec) (hb : c.code = cc) {own : String} {index : Nat} (q : String × List Int) (hown : s.vm.findClass own = some m.cls) (hX : gX D G s) (hH : gH D G s H locs σ μ) (hq : q ∈ gTab) (hlink : (Cond.fieldLink own index "TaskSheets" q.1 "[I").before args s = true) (hdg : decode cc pc = .ok (.getstatic index, 3))
    (kk : ∀ t : Nat, va_T .int t q.2.length (fun j => .int (gI (q.2.getD j 0))) (gA G) s s.heap → W p l e R s m args below meth c H locs cells slots Q (F0 m (pc + 3) ls (.ref t :: rest))) : W p l e R s m args below meth c H locs cells slots Q (F0 m pc ls rest) := by
  obtain ⟨t, hZ, hT⟩ := hX.2.2.1 q hq
  exact va_gets hexec hb hZ hH.2 hown hlink (fun x h => h) hdg (kk t hT)
theorem g_tlen (hexec : p.tables.exec = Jvm.exec) (hb : c.code = cc) {t n : Nat} {f : Nat → Value} (hT : va_T .int t n f (gA G) s s.heap) (hH : gH D G s H locs σ μ) (hdg : decode cc pc = .ok (.arraylength, 1))
    (kk : W p l e R s m args below meth c H locs cells slots Q (F0 m (pc + 1) ls (.int (gI n) :: rest))) : W p l e R s m args below meth c H locs cells slots Q (F0 m pc ls (.ref t :: rest)) :=
  va_tlen hexec hb hT hH.2 (gI_nat n) hdg kk
theorem g_tald {α : Type} {a : Option α} {r : α} (hexec : p.tables.exec = Jvm.exec) (hb : c.code = cc) {t n : Nat} {L : List Int} {i : Int} (hT : va_T .int t n (fun j => .int (gI (L.getD j 0))) (gA G) s s.heap) (hn : n ≤ 2147483647) (hH : gH D G s H locs σ μ) (hdg : decode cc pc = .ok (.iaload, 1)) (h : gAt i n a = some r)
    (kk : a = some r → W p l e R s m args below meth c H locs cells slots Q (F0 m (pc + 1) ls (.int (gI (L.getD (Int.toNat i) 0)) :: rest))) : W p l e R s m args below meth c H locs cells slots Q (F0 m pc ls (.int (gI i) :: .ref t :: rest)) := by
  obtain ⟨h1, h2⟩ := gAt_some h
  refine va_ti hexec hb hT hH.2 (gI_in h1.1 h1.2 hn) (v := .int (gI (L.getD (Int.toNat i) 0))) ?_ hdg (kk h2)
  rw [gI_c h1.1 ⟨by omega, by omega⟩]
theorem g_alenq2 (hexec : p.tables.exec = Jvm.exec) (hb : c.code = cc) (hX : gX D G s) (hH : gH D G s H locs σ μ) {k n : Nat} {rs : List Nat} (hk : gKinds[k]? = some (.inr (.inr (.inl rs)))) (hn : rs.length = n) (hdg : decode cc pc = .ok (.arraylength, 1))
    (kk : W p l e R s m args below meth c H locs cells slots Q (F0 m (pc + 1) ls (.int (gI n) :: rest))) : W p l e R s m args below meth c H locs cells slots Q (F0 m pc ls (.ref (G.1 k) :: rest)) := by
  subst hn
  exact g_alenq hexec hb hX hH hk hdg kk
theorem g_aretP (hexec : p.tables.exec = Jvm.exec) (hb : c.code = cc) {n : String} (hr : meth.sig.returnType = some (.object n)) (hH : gH D G s H locs σ μ) (hlocks : meth.locks = false) {v : Value} {o r : Option Nat} (hv : v = va_rf (o.map G.1)) (hdg : decode cc pc = .ok (.areturn, 1)) (h : some o = some r) : W p l e R s m args below meth c H locs cells slots (MQ below (gQq D G r σ μ) args s cells slots (gA G)) (F0 m pc ls [v]) := by
  cases h
  exact g_aret hexec hb hr hH hlocks hv hdg
theorem g_callVqs {y : MethodName} {bytes : ByteArray} {maxL nL n index : Nat} {ret : Option FieldType} {rm : Room} {Ts : List Cond} {own C : String} {As st0 : List Value} {σ' : gSt} {μ' : gLg} {k ci j : Nat} {sl : List (Nat ⊕ Bool)} {T : u_T} {N : Nat} (S : CallFix p m c cc nL s args Ts own) (hM : Met l y (gWs y bytes maxL ret) rm (gPc D G (.ref (G.1 k) :: As) σ μ) (gQq D G (some j) σ' μ') 0 0 (gA G)) (cw : CallW R s args own C index y bytes maxL ret (gWs y bytes maxL ret) rm 0 0 n) (hX : gX D G s) (hH : gH D G s H locs σ μ) (hk : gKinds[k]? = some (.inr (.inl (ci, sl)))) (hc : vwCl[ci]? = some (C, T, N)) (hn : As.length = n) (hsize : ls.size = nL) (hst : st0 = As.reverse ++ .ref (G.1 k) :: rest) (hW : (rest.map fun v => v.category).sum ≤ 8) (hdg : decode cc pc = .ok (.invokevirtual index, 3)) (hf : cells ≤ R.cells ∧ slots ≤ R.slots)
    (kk : ∀ (H1 : Heap) (locs1 : List Loc), gH D G s H1 locs1 σ' μ' → W p l e R s m args below meth c H1 locs1 cells slots Q (F0 m (pc + 3) ls (.ref (G.1 j) :: rest))) : W p l e R s m args below meth c H locs cells slots Q (F0 m pc ls st0) :=
  g_callVq S hM cw hX hH hk hc hn hsize hst hW hdg hf kk
/-! methods that may throw: the answer is the exception's number, or what comes back -/
def gExc (k : Nat) : String := if k = 1 then "java/lang/IllegalArgumentException" else if k = 2 then "java/lang/IllegalStateException" else "java/lang/IndexOutOfBoundsException"
def gXC {ρ : Type} (D : va_G) (G : gAd) (x : Nat ⊕ ρ) (σ : gSt) (μ : gLg) : String → State → State → Prop := vx_X (fun k : Nat => x = .inl k) (fun E k t => E = gExc k ∧ va_P D vwCl (gW G σ μ) t.heap) (gA G)
def gXv (D : va_G) (G : gAd) (x : Nat ⊕ Unit) (σ : gSt) (μ : gLg) : Array Value → State → Outcome → State → Prop := va_Qv (fun (_ : Unit) => x = .inr ()) (fun _ t => va_P D vwCl (gW G σ μ) t.heap) (gA G)
def gXp (D : va_G) (G : gAd) (x : Nat ⊕ Int) (σ : gSt) (μ : gLg) : Array Value → State → Outcome → State → Prop := va_Qi (fun (r : Int32) (u : Int) => x = .inr u ∧ r = gI u) (fun _ t => va_P D vwCl (gW G σ μ) t.heap) (gA G)
def gXs (D : va_G) (G : gAd) (x : Nat ⊕ (Int × gSt)) (μ : gLg) : Array Value → State → Outcome → State → Prop := va_Qi (fun (r : Int32) (u : Int × gSt) => x = .inr u ∧ r = gI u.1) (fun u t => va_P D vwCl (gW G u.2 μ) t.heap) (gA G)
theorem g_xvret (hexec : p.tables.exec = Jvm.exec) (hb : c.code = cc) (hr : meth.sig.returnType = none) (hH : gH D G s H locs σ μ) (hlocks : meth.locks = false) {x : Nat ⊕ Unit} {mc ms : Nat} (hc : cells ≤ mc) (hs : slots ≤ ms) (hdg : decode cc pc = .ok (.return_, 1)) (h : some (.inr ()) = some x) : W p l e R s m args below meth c H locs cells slots (vx_MQ below (gXv D G x σ μ) (gXC D G x σ μ) args s mc ms (gA G)) (F0 m pc ls []) := by
  cases h
  exact W.widen hc hs (vx_ret (W.vret hexec hb hr (fun t ht hW => ⟨⟨(), rfl, rfl, by dsimp only; rw [ht]; exact hH.1⟩, hH.2.F ht⟩) hH.2.2.2 hdg hlocks))
theorem g_xpret (hexec : p.tables.exec = Jvm.exec) (hb : c.code = cc) (hr : meth.sig.returnType = some .int) (hH : gH D G s H locs σ μ) (hlocks : meth.locks = false) {x : Nat ⊕ Int} {v : Int} {mc ms : Nat} (hc : cells ≤ mc) (hs : slots ≤ ms) (hdg : decode cc pc = .ok (.ireturn, 1)) (h : some (.inr v) = some x) : W p l e R s m args below meth c H locs cells slots (vx_MQ below (gXp D G x σ μ) (gXC D G x σ μ) args s mc ms (gA G)) (F0 m pc ls [.int (gI v)]) := by
  cases h
  exact W.widen hc hs (vx_ret (W.iret hexec hb hr (fun t ht hW => ⟨⟨_, v, rfl, ⟨rfl, rfl⟩, by dsimp only; rw [ht]; exact hH.1⟩, hH.2.F ht⟩) hH.2.2.2 hdg hlocks))
theorem g_xsret (hexec : p.tables.exec = Jvm.exec) (hb : c.code = cc) (hr : meth.sig.returnType = some .int) {σ1 : gSt} (hH : gH D G s H locs σ1 μ) (hlocks : meth.locks = false) {x : Nat ⊕ (Int × gSt)} {v : Int} {mc ms : Nat} (hc : cells ≤ mc) (hs : slots ≤ ms) (hdg : decode cc pc = .ok (.ireturn, 1)) (h : some (.inr (v, σ1)) = some x) : W p l e R s m args below meth c H locs cells slots (vx_MQ below (gXs D G x μ) (gXC D G x σ μ) args s mc ms (gA G)) (F0 m pc ls [.int (gI v)]) := by
  cases h
  exact W.widen hc hs (vx_ret (W.iret hexec hb hr (fun t ht hW => ⟨⟨_, (v, σ1), rfl, ⟨rfl, rfl⟩, by dsimp only; rw [ht]; exact hH.1⟩, hH.2.F ht⟩) hH.2.2.2 hdg hlocks))
end GM1
theorem g_fit (k : Nat) : Bundle.fit (gExc k) = true := by
  unfold gExc
  split
  · decide +kernel
  · split <;> decide +kernel
theorem g_names : ∀ n ∈ ["java/lang/RuntimeException", "java/lang/Exception"], Bundle.fit n = true := by decide +kernel
theorem g_ok1 : ∀ w ∈ (vx_atS RX8 75 "java/lang/IllegalArgumentException" ["java/lang/RuntimeException", "java/lang/Exception"]).filter goodWord, w ∈ lw_tbl := by decide +kernel
theorem g_ok2 : ∀ w ∈ (vx_atS RX8 111 "java/lang/IllegalStateException" ["java/lang/RuntimeException", "java/lang/Exception"]).filter goodWord, w ∈ lw_tbl := by decide +kernel
theorem g_ok3 : ∀ w ∈ (vx_atS RX8 190 "java/lang/IndexOutOfBoundsException" ["java/lang/RuntimeException", "java/lang/Exception"]).filter goodWord, w ∈ lw_tbl := by decide +kernel
theorem g_ot1 : ∀ w ∈ Cond.classLink RX8 71 "java/lang/IllegalArgumentException" :: Cond.initialized "java/lang/IllegalArgumentException" :: vx_atS RX8 75 "java/lang/IllegalArgumentException" ["java/lang/RuntimeException", "java/lang/Exception"], vx_ot w = true := by decide +kernel
theorem g_ot2 : ∀ w ∈ Cond.classLink RX8 107 "java/lang/IllegalStateException" :: Cond.initialized "java/lang/IllegalStateException" :: vx_atS RX8 111 "java/lang/IllegalStateException" ["java/lang/RuntimeException", "java/lang/Exception"], vx_ot w = true := by decide +kernel
theorem g_ot3 : ∀ w ∈ Cond.classLink RX8 186 "java/lang/IndexOutOfBoundsException" :: Cond.initialized "java/lang/IndexOutOfBoundsException" :: vx_atS RX8 190 "java/lang/IndexOutOfBoundsException" ["java/lang/RuntimeException", "java/lang/Exception"], vx_ot w = true := by decide +kernel
theorem g_bad1 : ∀ w ∈ (vx_atS RX8 75 "java/lang/IllegalArgumentException" ["java/lang/RuntimeException", "java/lang/Exception"]).filter (fun w => !goodWord w), w ∈ Cond.castable "java/lang/IllegalArgumentException" "java/lang/IllegalArgumentException" :: gDecl.map Cond.declares := by decide +kernel
theorem g_bad2 : ∀ w ∈ (vx_atS RX8 111 "java/lang/IllegalStateException" ["java/lang/RuntimeException", "java/lang/Exception"]).filter (fun w => !goodWord w), w ∈ Cond.castable "java/lang/IllegalStateException" "java/lang/IllegalStateException" :: gDecl.map Cond.declares := by decide +kernel
theorem g_bad3 : ∀ w ∈ (vx_atS RX8 190 "java/lang/IndexOutOfBoundsException" ["java/lang/RuntimeException", "java/lang/Exception"]).filter (fun w => !goodWord w), w ∈ Cond.castable "java/lang/IndexOutOfBoundsException" "java/lang/IndexOutOfBoundsException" :: gDecl.map Cond.declares := by decide +kernel
theorem g_hat {args : Array Value} {s : State} {L : List Cond} {E : String} {D : va_G} {G : gAd} (hX : gX D G s) (hts : ∀ w ∈ gLW, w.before args s = true) (hbad : ∀ w ∈ L.filter (fun w => !goodWord w), w ∈ Cond.castable E E :: gDecl.map Cond.declares) (hok : ∀ w ∈ L.filter goodWord, w ∈ lw_tbl) (hE : (E, E) ∈ gCast) : ∀ w ∈ L, w.before args s = true := by
  refine vx_hat (B := Cond.castable E E :: gDecl.map Cond.declares) (fun w hw => hts w (List.mem_filter.mpr ⟨hok w hw, (List.mem_filter.mp hw).2⟩)) hbad (fun w hw => ?_)
  rcases List.mem_cons.mp hw with rfl | hw
  · exact va_Nw.use rfl (hX.2.2.2.2.2.2.2.2.1 _ hE)
  · obtain ⟨y, hy, rfl⟩ := List.mem_map.mp hw
    exact va_Nw.use rfl (hX.2.2.2.2.2.2.2.2.2.2 y hy)
def gXb {α β : Type} (x : Option (Nat ⊕ α)) (f : α → Option (Nat ⊕ β)) : Option (Nat ⊕ β) := match x with
  | none => none
  | some (.inl k) => some (.inl k)
  | some (.inr a) => f a
theorem gXb_some {α β : Type} {x : Option (Nat ⊕ α)} {f : α → Option (Nat ⊕ β)} {r : Nat ⊕ β} (h : gXb x f = some r) : ∃ y, x = some y ∧ ((∃ k, y = .inl k ∧ r = .inl k) ∨ (∃ a, y = .inr a ∧ f a = some r)) := by
  cases x with
  | none => cases h
  | some y =>
    rcases y with k | a
    · exact ⟨_, rfl, Or.inl ⟨k, rfl, by cases h; rfl⟩⟩
    · exact ⟨_, rfl, Or.inr ⟨a, rfl, h⟩⟩
theorem gH_kept {D : va_G} {G : gAd} {s t : State} {H : Heap} {locs : List Loc} {σ : gSt} {μ : gLg} (hH : gH D G s H locs σ μ) (hz : H.size ≤ t.heap.size) (hq : ∀ q : Nat, q < H.size → t.heap[q]? = H[q]?) : va_P D vwCl (gW G σ μ) t.heap ∧ va_F (gA G) s t := by
  refine ⟨hH.1.kept (fun k q hk => hq _ (hH.1 k q hk).lt), Nat.le_trans hH.2.1 hz, fun q h1 h2 => ?_⟩
  rw [hq q (Nat.lt_of_lt_of_le h1 hH.2.1)]
  exact hH.2.2.1 q h1 h2
section GM2
variable {p : Program} {l : Launch} {e : Env} {R : Room} {s : State} {m : MethodId} {args : Array Value} {below : List Frame} {meth : Method} {c : Code} {H : Heap} {locs : List Loc} {cells slots : Nat} {Q : State → Prop}
variable {cc : ByteArray} {pc : Nat} {ls : Array Slot} {rest : List Value} {D : va_G} {G : gAd} {σ : gSt} {μ : gLg}
theorem g_throwS {ρ : Type} {Qc : Array Value → State → Outcome → State → Prop} (hexec : p.tables.exec = Jvm.exec) (hb : c.code = cc) (hlt : l.stackTraces = false) (hown : s.vm.findClass RX8 = some m.cls) (hts : ∀ w ∈ gLW, w.before args s = true) (hX : gX D G s) (hH : gH D G s H locs σ μ) {E text : String} {ik is ic k mc ms : Nat} {x : Nat ⊕ ρ} (hE : E = gExc k) (hkl : Cond.classLink RX8 ik E ∈ gLW) (hin : Cond.initialized E ∈ gLW) (hbad : ∀ w ∈ (vx_atS RX8 ic E ["java/lang/RuntimeException", "java/lang/Exception"]).filter (fun w => !goodWord w), w ∈ Cond.castable E E :: gDecl.map Cond.declares) (hok : ∀ w ∈ (vx_atS RX8 ic E ["java/lang/RuntimeException", "java/lang/Exception"]).filter goodWord, w ∈ lw_tbl) (hot : ∀ w ∈ Cond.classLink RX8 ik E :: Cond.initialized E :: vx_atS RX8 ic E ["java/lang/RuntimeException", "java/lang/Exception"], vx_ot w = true) (hc : (E, E) ∈ gCast) (hstr : (is, text) ∈ gStrs) (hsize : ls.size = c.maxLocals)
    (d0 : decode cc pc = .ok (.new ik, 3)) (d3 : decode cc (pc + 3) = .ok (.dup, 1)) (d4 : decode cc (pc + 4) = .ok (.ldc is, 2)) (d6 : decode cc (pc + 6) = .ok (.invokespecial ic, 3)) (d9 : decode cc (pc + 9) = .ok (.athrow, 1)) (hout : ∀ x ∈ c.exceptionTable.toList, False) (hR : (5 < R.frames ∧ (rest.map fun v => v.category).sum + 82 ≤ R.locals) ∧ cells + 1 ≤ R.cells ∧ slots + 6 ≤ R.slots) (hlocks : meth.locks = false) (hmc : cells + 1 ≤ mc ∧ slots + 6 ≤ ms) (h : some (.inl k) = some x) : W p l e R s m args below meth c H locs cells slots (vx_MQ below Qc (gXC D G x σ μ) args s mc ms (gA G)) (F0 m pc ls rest) := by
  cases h
  obtain ⟨sa, hsa⟩ := hX.2.2.2.2.2.1 _ hstr
  refine vx_throwS (A := gA G) (sa := sa) hexec hb hlt hown (by rw [hE]; exact g_fit k) g_names (hts _ hkl) (hts _ hin) hsa (g_hat hX hts hbad hok hc) hot hX.2.2.2.1 hX.2.2.2.2.1 hH.2 hsize d0 d3 d4 d6 d9 (fun x hx => (hout x hx).elim) hR.1.1 hR.1.2 hR.2.1 hR.2.2 hlocks (fun t _ hz hq => ?_) hH.2.2.2 hmc.1 hmc.2
  exact ⟨k, rfl, ⟨hE, (gH_kept hH hz hq).1⟩, (gH_kept hH hz hq).2⟩
theorem g_throwSW {ρ : Type} {Qc : Array Value → State → Outcome → State → Prop} (hexec : p.tables.exec = Jvm.exec) (hb : c.code = cc) (hlt : l.stackTraces = false) (hown : s.vm.findClass RX8 = some m.cls) (hts : ∀ w ∈ gLW, w.before args s = true) (hX : gX D G s) (hH : gH D G s H locs σ μ) {E text : String} {ik is ic k mc ms : Nat} {x : Nat ⊕ ρ} (hE : E = gExc k) (hkl : Cond.classLink RX8 ik E ∈ gLW) (hin : Cond.initialized E ∈ gLW) (hbad : ∀ w ∈ (vx_atS RX8 ic E ["java/lang/RuntimeException", "java/lang/Exception"]).filter (fun w => !goodWord w), w ∈ Cond.castable E E :: gDecl.map Cond.declares) (hok : ∀ w ∈ (vx_atS RX8 ic E ["java/lang/RuntimeException", "java/lang/Exception"]).filter goodWord, w ∈ lw_tbl) (hot : ∀ w ∈ Cond.classLink RX8 ik E :: Cond.initialized E :: vx_atS RX8 ic E ["java/lang/RuntimeException", "java/lang/Exception"], vx_ot w = true) (hc : (E, E) ∈ gCast) (hstr : (is, text) ∈ gStrs) (hsize : ls.size = c.maxLocals)
    (d0 : decode cc pc = .ok (.new ik, 3)) (d3 : decode cc (pc + 3) = .ok (.dup, 1)) (d4 : decode cc (pc + 4) = .ok (.ldc_w is, 3)) (d6 : decode cc (pc + 7) = .ok (.invokespecial ic, 3)) (d9 : decode cc (pc + 10) = .ok (.athrow, 1)) (hout : ∀ x ∈ c.exceptionTable.toList, False) (hR : (5 < R.frames ∧ (rest.map fun v => v.category).sum + 82 ≤ R.locals) ∧ cells + 1 ≤ R.cells ∧ slots + 6 ≤ R.slots) (hlocks : meth.locks = false) (hmc : cells + 1 ≤ mc ∧ slots + 6 ≤ ms) (h : some (.inl k) = some x) : W p l e R s m args below meth c H locs cells slots (vx_MQ below Qc (gXC D G x σ μ) args s mc ms (gA G)) (F0 m pc ls rest) := by
  cases h
  obtain ⟨sa, hsa⟩ := hX.2.2.2.2.2.1 _ hstr
  refine vx_throwSW (A := gA G) (sa := sa) hexec hb hlt hown (by rw [hE]; exact g_fit k) g_names (hts _ hkl) (hts _ hin) hsa (g_hat hX hts hbad hok hc) hot hX.2.2.2.1 hX.2.2.2.2.1 hH.2 hsize d0 d3 d4 d6 d9 (fun x hx => (hout x hx).elim) hR.1.1 hR.1.2 hR.2.1 hR.2.2 hlocks (fun t _ hz hq => ?_) hH.2.2.2 hmc.1 hmc.2
  exact ⟨k, rfl, ⟨hE, (gH_kept hH hz hq).1⟩, (gH_kept hH hz hq).2⟩
theorem g_xout {ρ : Type} {Qc : Array Value → State → Outcome → State → Prop} {x : Nat ⊕ ρ} {k mc ms : Nat} {E : String} {ce : Cell} {q : Addr} (hout : ∀ x ∈ c.exceptionTable.toList, False) (hlocks : meth.locks = false) (hE : E = gExc k) (hH : gH D G s H locs σ μ) (hce : H[q]? = some ce) (hv : ce.vm = .none) (hcl : s.vm.findClass E = some ce.cls) (hc : cells ≤ mc) (hs : slots ≤ ms) (hxk : x = .inl k) : vx_W p l e R s m args below meth c H locs cells slots (vx_MQ below Qc (gXC D G x σ μ) args s mc ms (gA G)) (F0 m pc ls rest) q :=
  vx_out (fun y hy => (hout y hy).elim) hlocks hce hv hcl (fun t ht _ => ⟨k, hxk, ⟨hE, by rw [ht]; exact hH.1⟩, hH.2.F ht⟩) hH.2.2.2 hc hs
theorem g_xcallVv {y : MethodName} {bytes : ByteArray} {maxL nL n index : Nat} {ret : Option FieldType} {rm : Room} {Ts : List Cond} {own C : String} {As st0 : List Value} {k ci : Nat} {sl : List (Nat ⊕ Bool)} {T : u_T} {N : Nat} {x : Nat ⊕ Unit} (S : CallFix p m c cc nL s args Ts own) (hM : vx_Met l y (gWs y bytes maxL ret) rm (gPc D G (.ref (G.1 k) :: As) σ μ) (gXv D G x σ μ) (gXC D G x σ μ) 1 6 (gA G)) (cw : CallW R s args own C index y bytes maxL ret (gWs y bytes maxL ret) rm 1 6 n) (hX : gX D G s) (hH : gH D G s H locs σ μ) (hk : gKinds[k]? = some (.inr (.inl (ci, sl)))) (hc : vwCl[ci]? = some (C, T, N)) (hn : As.length = n) (hsize : ls.size = nL) (hst : st0 = As.reverse ++ .ref (G.1 k) :: rest) (hW : (rest.map fun v => v.category).sum ≤ 8) (hdg : decode cc pc = .ok (.invokevirtual index, 3)) (hf : cells + 1 ≤ R.cells ∧ slots + 6 ≤ R.slots)
    (kx : ∀ (k : Nat) (E : String) (ce : Cell) (q : Addr) (H1 : Heap) (locs1 : List Loc), x = .inl k → E = gExc k → gH D G s H1 locs1 σ μ → H1[q]? = some ce → ce.vm = .none → s.vm.findClass E = some ce.cls → vx_W p l e R s m args below meth c H1 locs1 (cells + 1) (slots + 6) Q (F0 m pc ls rest) q)
    (kk : x = .inr () → ∀ (H1 : Heap) (locs1 : List Loc), gH D G s H1 locs1 σ μ → W p l e R s m args below meth c H1 locs1 (cells + 1) (slots + 6) Q (F0 m (pc + 3) ls rest)) : W p l e R s m args below meth c H locs cells slots Q (F0 m pc ls st0) := by
  refine vx_callv (A0 := gA G) (A1 := gA G) (AX := gA G) (vx_runV (As := As) (rest := rest) S hM cw ⟨gPc_blind, va_recv hX.1 hH.1 hc (gW_get hk), fun U hU hW2 => ⟨rfl, by rw [hU]; exact hH.1, hX.go hH.2 hU hW2⟩⟩ rfl hn hsize hst (lv_room hW) hdg hf) hH.2 (fun q _ h => h) (fun q h => h) (fun q _ h => h) (fun E ce q u t H1 locs1 ht hvm hp hB hz hq hS h1 h2 h3 => ?_) (fun u t H1 locs1 ht hvm hp hB hz hq hS => ?_)
  · have hB2 : va_P D vwCl (gW G σ μ) t.heap := hB.2
    rw [ht] at hB2
    exact kx u E ce q H1 locs1 hp hB.1 ⟨hB2, hS⟩ h1 h2 h3
  · have hB2 : va_P D vwCl (gW G σ μ) t.heap := hB
    rw [ht] at hB2
    exact kk hp H1 locs1 ⟨hB2, hS⟩
end GM2
theorem g_cwX {R : Room} {s : State} {args : Array Value} {own C : String} {idx maxL mc ms : Nat} {y : MethodName} {bytes : ByteArray} {ret : Option FieldType} {rm : Room} (n : Nat) (hts : ∀ w ∈ gLW, w.before args s = true) (h1 : Cond.methodLink own idx y ∈ gLW) (h2 : Cond.instanceMethod y ∈ gLW) (h3 : Cond.selects C y y ∈ gLW) (h4 : Cond.initialized C ∈ gLW) (h5 : Cond.code y bytes maxL ret ∈ gLW) (hz : rm.cells = mc ∧ rm.slots = ms) (hd : y.cls = C ∧ y.cls ≠ "java/lang/invoke/MethodHandle" ∧ y.cls ≠ "java/lang/invoke/VarHandle" ∧ (parseMethodDescriptor y.desc).map (fun d => d.parameters.length) = some n) (hR : rm.frames + 1 ≤ R.frames ∧ 8 + (maxL + 11) + rm.locals ≤ R.locals) : CallW R s args own C idx y bytes maxL ret (gWs y bytes maxL ret) rm mc ms n := by
  have ht2 : ∀ w ∈ gWs y bytes maxL ret, w.before args s = true := fun w hw => by
    rcases List.mem_cons.mp hw with rfl | hw
    · exact hts _ h5
    · exact hts _ hw
  exact cwV n ht2 (gGoodV (n := maxL) (r := ret) h1 h2 h3 h4 h5) rfl hz.1 hz.2 hd hR
theorem g_lretS {p : Program} {l : Launch} {e : Env} {R : Room} {s : State} {m : MethodId} {args : Array Value} {below : List Frame} {meth : Method} {c : Code} {H : Heap} {locs : List Loc} {cells slots : Nat} {cc : ByteArray} {pc : Nat} {ls : Array Slot} {D : va_G} {G : gAd} {σ : gSt} {μ : gLg} (hexec : p.tables.exec = Jvm.exec) (hb : c.code = cc) (hr : meth.sig.returnType = some .long) {σ' : gSt} (hH : gH D G s H locs σ μ) (hlocks : meth.locks = false) {v r : Int64} (hdg : decode cc pc = .ok (.lreturn, 1)) (h : some (v, σ) = some (r, σ')) : W p l e R s m args below meth c H locs cells slots (MQ below (gQl D G r σ' μ) args s cells slots (gA G)) (F0 m pc ls [.long v]) := by
  cases h
  exact g_lret hexec hb hr hH hlocks hdg
