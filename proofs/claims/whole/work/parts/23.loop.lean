/-! THE CLAIM OUT OF ONE WALK OF THE LAW'S BODY. Your part is whole_start (and what it stands on); all else here is the same for every law, but numbers. -/
def R_law : String := "TaskSheetsLaw"
def lw_P (b : Addr) (xs : List Int32) (args : Array Value) (s : State) : Prop := args = #[.ref b] ∧ s.IntsAt b xs ∧ xs.length ≤ 2048 ∧ (Jvm.Cond.and given_1 narrow_1).before args s = true
/-- what a walk over the start with the record d0 says of its end, said of the start itself -/
theorem lw_closed {s t : State} {o : Outcome} {d0 : Drawn} {L : List Loc} {k n : Nat} (hd0 : s.drawn.sameBut d0 lw_cs) (hv : ∃ v, o = .returned v) (hW : (s.setDrawn d0).WarmedH t.vm) (hs : (s.setDrawn d0).sameButNew ({ t with vm := s.vm } : State) L k n) : State.butDraws s t lw_cs (fun t1 => Framed s o t1 L k n) := by
  have h2 : t.drawn = d0 := congrArg State.drawn hs.1
  refine ⟨⟨hv, hW, State.sameButNew.setDrawn hs s.drawn⟩, ?_, by decide⟩
  rw [h2]
  exact hd0
def lw_Q (_ : Array Value) (s : State) (o : Outcome) (t : State) : Prop := o = .returned (some (.int 1)) ∧ State.butDraws s t lw_cs (fun t1 => Framed s o t1 [] 601024 7293034)
def lw_Z (below : List Frame) (a : Array Value) (s : State) : State → Prop := fun t => ∃ o, t.status = .running ∧ Ended t below o ∧ lw_Q a s o t
/-- the law's own end, with 1 on the stack, nothing written that was there before, its room as the claim has it; d0: the record of draws at this point (at the entry s.drawn: begin with 'refine W.base ?_' and 'have hd0 := Drawn.sameBut.refl s.drawn lw_cs') -/
theorem lw_ret {p : Program} {l : Launch} {e : Env} {s : State} {m : MethodId} {below : List Frame} {meth : Method} {c : Code} {b : Nat} {d0 : Drawn} (hd0 : s.drawn.sameBut d0 lw_cs) (hx : p.tables.exec = Jvm.exec) (hb : c.code = code) (hr : meth.sig.returnType = ret) (hlocks : meth.locks = false) {pc : Nat} {H : Heap} {ls : Array Slot} (hdg : decode code pc = .ok (.ireturn, 1)) : W p l e room_1 (s.setDrawn d0) m #[Value.ref b] below meth c H [] 601024 7293034 (lw_Z below #[Value.ref b] s) (F0 m pc ls [.int 1]) := by
  intro T hT X
  obtain ⟨fs, hret, hrun, hended, hW, hframe⟩ := X.leave (v := some (.int 1)) (hlocks := hlocks) (fun h => by rw [hr] at h; cases h)
  have hmeth' : T.vm.method? m = some meth := X.method'
  refine ⟨T.setFrames fs, ?_, .returned (some (.int 1)), hrun, hended, rfl, lw_closed hd0 ⟨_, rfl⟩ hW hframe⟩
  jvm_step X.here [X.here.top, hx, hb, hdg, hmeth', hr, ret, narrow_b1]
  (try refine ⟨rfl, ?_⟩); (try refine ⟨rfl, ?_⟩)
  first | (intro acts; rw [hret _ acts rfl rfl rfl]) | rw [hret _ _ rfl rfl rfl]
  exact Steps.refl _
/-- what holds at the law's entry: the machine, the code, the tables' words (any of lw_tbl by 'hts w (by decide +kernel)'), the script of L ints xs at the cell b, what the Statement gives of the start (any of its parts by flat_of_before) -/
def lw_At (p : Program) (s : State) (m : MethodId) (meth : Method) (c : Code) (b L : Nat) (xs : Nat → Int32) : Prop :=
  p.tables.exec = Jvm.exec ∧ c.code = code ∧ meth.sig.returnType = ret ∧ c.maxLocals = 9 ∧ s.vm.findClass R_law = some m.cls ∧ (∀ w ∈ lw_tbl, w.before #[Value.ref b] s = true) ∧ va_X b L xs s s.heap ∧ b < s.heap.size ∧ meth.locks = false ∧ (Jvm.Cond.and given_1 narrow_1).before #[Value.ref b] s = true
def DL_step (xs : Nat → Int32) (j : Nat) (σ : gSt) (μ : gLg) : Option (gSt × gLg) :=
  match (xs (4 * j)).toBitVec.toNat % 32 with
  | 0 => DL_c0 xs j σ μ
  | 1 => DL_c1 xs j σ μ
  | 2 => DL_c2 xs j σ μ
  | 3 => DL_c3 xs j σ μ
  | 4 => DL_c4 xs j σ μ
  | 5 => DL_c5 xs j σ μ
  | 6 => DL_c6 xs j σ μ
  | 7 => DL_c7 xs j σ μ
  | 8 => DL_c8 xs j σ μ
  | 9 => DL_c9 xs j σ μ
  | 10 => DL_c10 xs j σ μ
  | 11 => DL_c11 xs j σ μ
  | 12 => DL_c12 xs j σ μ
  | 13 => DL_c13 xs j σ μ
  | 14 => DL_c14 xs j σ μ
  | 15 => DL_c15 xs j σ μ
  | 16 => DL_c16 xs j σ μ
  | 17 => DL_c17 σ μ
  | 18 => DL_c18 xs j σ μ
  | 19 => DL_c19 xs j σ μ
  | 20 => DL_c20 xs j σ μ
  | 21 => DL_c21 xs j σ μ
  | 22 => DL_c22 xs j σ μ
  | 23 => DL_c23 xs j σ μ
  | 24 => DL_c24 xs j σ μ
  | 25 => DL_c25 xs j σ μ
  | 26 => DL_c26 xs j σ μ
  | _ => some (σ, μ)
def DL_run (xs : Nat → Int32) (L : Nat) : Nat → Nat → gSt → gLg → Option Unit
  | 0, _, _, _ => none
  | f + 1, j, σ, μ => gIf ((L : Int) - (4 : Int) < 4 * (j : Int)) (4 * (j : Int)) ((L : Int) - (4 : Int)) (some ()) ((DL_step xs j σ μ).bind fun q => DL_run xs L f (j + 1) q.1 q.2)
abbrev gLocs (G : gAd) (b j : Nat) : List (Nat × Value) := [(0, .ref b), (1, .ref (G.1 0)), (2, .ref (G.1 136)), (3, .ref (G.1 147)), (4, .int (gI (4 * (j : Int))))]
set_option maxHeartbeats 4000000 in
set_option maxRecDepth 100000 in
theorem law_step {p : Program} {l : Launch} {e : Env} {s : State} {m : MethodId} {below : List Frame} {meth : Method} {c : Code} {b L : Nat} {xs : Nat → Int32} {D : va_G} {G : gAd} {j : Nat} {Q : State → Prop} {d0 : Drawn} (hd0 : s.drawn.sameBut d0 lw_cs) (hlt : l.stackTraces = false) (hx : p.tables.exec = Jvm.exec) (hb : c.code = cL_law) (hml : c.maxLocals = 9) (hown : s.vm.findClass RL = some m.cls) (hts : ∀ w ∈ gLW, w.before #[Value.ref b] s = true) (hX : gX D G s) (hXs : va_X b L xs s s.heap) (hbl : b < s.heap.size) (hbA : ¬ gA G b) (hL : L ≤ 2048) (hj : 4 * j + 4 ≤ L) {H : Heap} {locs : List Loc} {ls : Array Slot} {cells slots : Nat} (hc : cells ≤ 500 + 3 * j) (hs : slots ≤ 20000 + 18 * j) {σ σ' : gSt} {μ μ' : gLg} (hH : gH D G (s.setDrawn d0) H locs σ μ) (hl : lv_has ls 9 (gLocs G b j)) (h : DL_step xs j σ μ = some (σ', μ'))
    (kk : ∀ (H1 : Heap) (locs1 : List Loc) (ls1 : Array Slot) (cells1 slots1 : Nat) (d1 : Drawn), s.drawn.sameBut d1 lw_cs → cells1 ≤ 500 + 3 * (j + 1) → slots1 ≤ 20000 + 18 * (j + 1) → gH D G (s.setDrawn d1) H1 locs1 σ' μ' → lv_has ls1 9 (gLocs G b j) → W p l e room_1 (s.setDrawn d1) m #[Value.ref b] below meth c H1 locs1 cells1 slots1 Q (F0 m 1537 ls1 [])) : W p l e room_1 (s.setDrawn d0) m #[Value.ref b] below meth c H locs cells slots Q (F0 m 39 ls [.int ((xs (4 * j)) &&& 31)]) := by
  have hk0 : (xs (4 * j)).toBitVec.toNat % 32 < 32 := Nat.mod_lt _ (by decide)
  have e0 : (xs (4 * j)) &&& 31 = gI (((xs (4 * j)).toBitVec.toNat % 32 : Nat) : Int) := (pk_and (xs (4 * j)) (m := 31) 5 (by decide)).trans (gI_nat _)
  unfold DL_step at h
  rw [e0]
  generalize (xs (4 * j)).toBitVec.toNat % 32 = k at h hk0
  rcases (show k = 0 ∨ k = 1 ∨ k = 2 ∨ k = 3 ∨ k = 4 ∨ k = 5 ∨ k = 6 ∨ k = 7 ∨ k = 8 ∨ k = 9 ∨ k = 10 ∨ k = 11 ∨ k = 12 ∨ k = 13 ∨ k = 14 ∨ k = 15 ∨ k = 16 ∨ k = 17 ∨ k = 18 ∨ k = 19 ∨ k = 20 ∨ k = 21 ∨ k = 22 ∨ k = 23 ∨ k = 24 ∨ k = 25 ∨ k = 26 ∨ 27 ≤ k by omega) with rfl | rfl | rfl | rfl | rfl | rfl | rfl | rfl | rfl | rfl | rfl | rfl | rfl | rfl | rfl | rfl | rfl | rfl | rfl | rfl | rfl | rfl | rfl | rfl | rfl | rfl | rfl | hk
  · refine g_tabIn (i := 0) (tgt := 160) hx hb dL_law_39 rfl (by decide) (by decide) (by decide) rfl (by decide) ?_
    exact lawc_0 (s := s.setDrawn d0) hlt hx hb hml hown (dr_words hts d0) (hX.drew d0) hXs hbl hbA hL hj hc hs hH hl h (fun H1 locs1 ls1 hH1 hl1 => kk H1 locs1 ls1 (cells + 1) (slots + 6) d0 hd0 (by omega) (by omega) hH1 hl1)
  · refine g_tabIn (i := 1) (tgt := 228) hx hb dL_law_39 rfl (by decide) (by decide) (by decide) rfl (by decide) ?_
    exact lawc_1 (s := s.setDrawn d0) hlt hx hb hml hown (dr_words hts d0) (hX.drew d0) hXs hbl hbA hL hj hc hs hH hl h (fun H1 locs1 ls1 hH1 hl1 => kk H1 locs1 ls1 (cells + 1) (slots + 6) d0 hd0 (by omega) (by omega) hH1 hl1)
  · refine g_tabIn (i := 2) (tgt := 284) hx hb dL_law_39 rfl (by decide) (by decide) (by decide) rfl (by decide) ?_
    exact lawc_2 (s := s.setDrawn d0) hlt hx hb hml hown (dr_words hts d0) (hX.drew d0) hXs hbl hbA hL hj hc hs hH hl h (fun H1 locs1 ls1 hH1 hl1 => kk H1 locs1 ls1 (cells + 1) (slots + 6) d0 hd0 (by omega) (by omega) hH1 hl1)
  · refine g_tabIn (i := 3) (tgt := 364) hx hb dL_law_39 rfl (by decide) (by decide) (by decide) rfl (by decide) ?_
    exact lawc_3 (s := s.setDrawn d0) hlt hx hb hml hown (dr_words hts d0) (hX.drew d0) hXs hbl hbA hL hj hc hs hH hl h (fun H1 locs1 ls1 hH1 hl1 => kk H1 locs1 ls1 (cells + 2) (slots + 12) d0 hd0 (by omega) (by omega) hH1 hl1)
  · refine g_tabIn (i := 4) (tgt := 444) hx hb dL_law_39 rfl (by decide) (by decide) (by decide) rfl (by decide) ?_
    exact lawc_4 (s := s.setDrawn d0) hlt hx hb hml hown (dr_words hts d0) (hX.drew d0) hXs hbl hbA hL hj hc hs hH hl h (fun H1 locs1 ls1 hH1 hl1 => kk H1 locs1 ls1 (cells + 1) (slots + 6) d0 hd0 (by omega) (by omega) hH1 hl1)
  · refine g_tabIn (i := 5) (tgt := 500) hx hb dL_law_39 rfl (by decide) (by decide) (by decide) rfl (by decide) ?_
    exact lawc_5 (s := s.setDrawn d0) hlt hx hb hml hown (dr_words hts d0) (hX.drew d0) hXs hbl hbA hL hj hc hs hH hl h (fun H1 locs1 ls1 hH1 hl1 => kk H1 locs1 ls1 (cells + 3) (slots + 18) d0 hd0 (by omega) (by omega) hH1 hl1)
  · refine g_tabIn (i := 6) (tgt := 568) hx hb dL_law_39 rfl (by decide) (by decide) (by decide) rfl (by decide) ?_
    exact lawc_6 (s := s.setDrawn d0) hlt hx hb hml hown (dr_words hts d0) (hX.drew d0) hXs hbl hbA hL hj hc hs hH hl h (fun H1 locs1 ls1 hH1 hl1 => kk H1 locs1 ls1 (cells + 1) (slots + 6) d0 hd0 (by omega) (by omega) hH1 hl1)
  · refine g_tabIn (i := 7) (tgt := 624) hx hb dL_law_39 rfl (by decide) (by decide) (by decide) rfl (by decide) ?_
    exact lawc_7 (s := s.setDrawn d0) hlt hx hb hml hown (dr_words hts d0) (hX.drew d0) hXs hbl hbA hL hj hc hs hH hl h (fun H1 locs1 ls1 hH1 hl1 => kk H1 locs1 ls1 (cells + 2) (slots + 12) d0 hd0 (by omega) (by omega) hH1 hl1)
  · refine g_tabIn (i := 8) (tgt := 692) hx hb dL_law_39 rfl (by decide) (by decide) (by decide) rfl (by decide) ?_
    exact lawc_8 (s := s.setDrawn d0) hlt hx hb hml hown (dr_words hts d0) (hX.drew d0) hXs hbl hbA hL hj hc hs hH hl h (fun H1 locs1 ls1 hH1 hl1 => kk H1 locs1 ls1 (cells + 0) (slots + 0) d0 hd0 (by omega) (by omega) hH1 hl1)
  · refine g_tabIn (i := 9) (tgt := 705) hx hb dL_law_39 rfl (by decide) (by decide) (by decide) rfl (by decide) ?_
    exact lawc_9 (s := s.setDrawn d0) hlt hx hb hml hown (dr_words hts d0) (hX.drew d0) hXs hbl hbA hL hj hc hs hH hl h (fun H1 locs1 ls1 hH1 hl1 => kk H1 locs1 ls1 (cells + 2) (slots + 12) d0 hd0 (by omega) (by omega) hH1 hl1)
  · refine g_tabIn (i := 10) (tgt := 773) hx hb dL_law_39 rfl (by decide) (by decide) (by decide) rfl (by decide) ?_
    exact lawc_10 (s := s.setDrawn d0) hlt hx hb hml hown (dr_words hts d0) (hX.drew d0) hXs hbl hbA hL hj hc hs hH hl h (fun H1 locs1 ls1 hH1 hl1 => kk H1 locs1 ls1 (cells + 0) (slots + 0) d0 hd0 (by omega) (by omega) hH1 hl1)
  · refine g_tabIn (i := 11) (tgt := 786) hx hb dL_law_39 rfl (by decide) (by decide) (by decide) rfl (by decide) ?_
    exact lawc_11 (s := s.setDrawn d0) hlt hx hb hml hown (dr_words hts d0) (hX.drew d0) hXs hbl hbA hL hj hc hs hH hl h (fun H1 locs1 ls1 hH1 hl1 => kk H1 locs1 ls1 (cells + 2) (slots + 12) d0 hd0 (by omega) (by omega) hH1 hl1)
  · refine g_tabIn (i := 12) (tgt := 854) hx hb dL_law_39 rfl (by decide) (by decide) (by decide) rfl (by decide) ?_
    exact lawc_12 (s := s.setDrawn d0) hlt hx hb hml hown (dr_words hts d0) (hX.drew d0) hXs hbl hbA hL hj hc hs hH hl h (fun H1 locs1 ls1 hH1 hl1 => kk H1 locs1 ls1 (cells + 2) (slots + 12) d0 hd0 (by omega) (by omega) hH1 hl1)
  · refine g_tabIn (i := 13) (tgt := 922) hx hb dL_law_39 rfl (by decide) (by decide) (by decide) rfl (by decide) ?_
    exact lawc_13 (s := s.setDrawn d0) hlt hx hb hml hown (dr_words hts d0) (hX.drew d0) hXs hbl hbA hL hj hc hs hH hl h (fun H1 locs1 ls1 hH1 hl1 => kk H1 locs1 ls1 (cells + 2) (slots + 12) d0 hd0 (by omega) (by omega) hH1 hl1)
  · refine g_tabIn (i := 14) (tgt := 1002) hx hb dL_law_39 rfl (by decide) (by decide) (by decide) rfl (by decide) ?_
    exact lawc_14 (s := s.setDrawn d0) hlt hx hb hml hown (dr_words hts d0) (hX.drew d0) hXs hbl hbA hL hj hc hs hH hl h (fun H1 locs1 ls1 hH1 hl1 => kk H1 locs1 ls1 (cells + 2) (slots + 12) d0 hd0 (by omega) (by omega) hH1 hl1)
  · refine g_tabIn (i := 15) (tgt := 1070) hx hb dL_law_39 rfl (by decide) (by decide) (by decide) rfl (by decide) ?_
    exact lawc_15 (s := s.setDrawn d0) hlt hx hb hml hown (dr_words hts d0) (hX.drew d0) hXs hbl hbA hL hj hc hs hH hl h (fun H1 locs1 ls1 hH1 hl1 => kk H1 locs1 ls1 (cells + 1) (slots + 6) d0 hd0 (by omega) (by omega) hH1 hl1)
  · refine g_tabIn (i := 16) (tgt := 1126) hx hb dL_law_39 rfl (by decide) (by decide) (by decide) rfl (by decide) ?_
    exact lawc_16 (s := s.setDrawn d0) hlt hx hb hml hown (dr_words hts d0) (hX.drew d0) hXs hbl hbA hL hj hc hs hH hl h (fun H1 locs1 ls1 hH1 hl1 => kk H1 locs1 ls1 (cells + 3) (slots + 18) d0 hd0 (by omega) (by omega) hH1 hl1)
  · refine g_tabIn (i := 17) (tgt := 1206) hx hb dL_law_39 rfl (by decide) (by decide) (by decide) rfl (by decide) ?_
    exact lawc_17 hd0 hx hb hml hown hts hX hc hs (by omega) hH hl h (fun H1 locs1 ls1 d1 hd1 hH1 hl1 => kk H1 locs1 ls1 cells slots d1 hd1 (by omega) (by omega) hH1 hl1)
  · refine g_tabIn (i := 18) (tgt := 1247) hx hb dL_law_39 rfl (by decide) (by decide) (by decide) rfl (by decide) ?_
    exact lawc_18 (s := s.setDrawn d0) hlt hx hb hml hown (dr_words hts d0) (hX.drew d0) hXs hbl hbA hL hj hc hs hH hl h (fun H1 locs1 ls1 hH1 hl1 => kk H1 locs1 ls1 (cells + 1) (slots + 6) d0 hd0 (by omega) (by omega) hH1 hl1)
  · refine g_tabIn (i := 19) (tgt := 1315) hx hb dL_law_39 rfl (by decide) (by decide) (by decide) rfl (by decide) ?_
    exact lawc_19 (s := s.setDrawn d0) hlt hx hb hml hown (dr_words hts d0) (hX.drew d0) hXs hbl hbA hL hj hc hs hH hl h (fun H1 locs1 ls1 hH1 hl1 => kk H1 locs1 ls1 (cells + 0) (slots + 0) d0 hd0 (by omega) (by omega) hH1 hl1)
  · refine g_tabIn (i := 20) (tgt := 1328) hx hb dL_law_39 rfl (by decide) (by decide) (by decide) rfl (by decide) ?_
    exact lawc_20 (s := s.setDrawn d0) hlt hx hb hml hown (dr_words hts d0) (hX.drew d0) hXs hbl hbA hL hj hc hs hH hl h (fun H1 locs1 ls1 hH1 hl1 => kk H1 locs1 ls1 (cells + 1) (slots + 6) d0 hd0 (by omega) (by omega) hH1 hl1)
  · refine g_tabIn (i := 21) (tgt := 1384) hx hb dL_law_39 rfl (by decide) (by decide) (by decide) rfl (by decide) ?_
    exact lawc_21 (s := s.setDrawn d0) hlt hx hb hml hown (dr_words hts d0) (hX.drew d0) hXs hbl hbA hL hj hc hs hH hl h (fun H1 locs1 ls1 hH1 hl1 => kk H1 locs1 ls1 (cells + 0) (slots + 0) d0 hd0 (by omega) (by omega) hH1 hl1)
  · refine g_tabIn (i := 22) (tgt := 1397) hx hb dL_law_39 rfl (by decide) (by decide) (by decide) rfl (by decide) ?_
    exact lawc_22 (s := s.setDrawn d0) hlt hx hb hml hown (dr_words hts d0) (hX.drew d0) hXs hbl hbA hL hj hc hs hH hl h (fun H1 locs1 ls1 hH1 hl1 => kk H1 locs1 ls1 (cells + 1) (slots + 6) d0 hd0 (by omega) (by omega) hH1 hl1)
  · refine g_tabIn (i := 23) (tgt := 1453) hx hb dL_law_39 rfl (by decide) (by decide) (by decide) rfl (by decide) ?_
    exact lawc_23 (s := s.setDrawn d0) hlt hx hb hml hown (dr_words hts d0) (hX.drew d0) hXs hbl hbA hL hj hc hs hH hl h (fun H1 locs1 ls1 hH1 hl1 => kk H1 locs1 ls1 (cells + 0) (slots + 0) d0 hd0 (by omega) (by omega) hH1 hl1)
  · refine g_tabIn (i := 24) (tgt := 1466) hx hb dL_law_39 rfl (by decide) (by decide) (by decide) rfl (by decide) ?_
    exact lawc_24 (s := s.setDrawn d0) hlt hx hb hml hown (dr_words hts d0) (hX.drew d0) hXs hbl hbA hL hj hc hs hH hl h (fun H1 locs1 ls1 hH1 hl1 => kk H1 locs1 ls1 (cells + 0) (slots + 0) d0 hd0 (by omega) (by omega) hH1 hl1)
  · refine g_tabIn (i := 25) (tgt := 1479) hx hb dL_law_39 rfl (by decide) (by decide) (by decide) rfl (by decide) ?_
    exact lawc_25 (s := s.setDrawn d0) hlt hx hb hml hown (dr_words hts d0) (hX.drew d0) hXs hbl hbA hL hj hc hs hH hl h (fun H1 locs1 ls1 hH1 hl1 => kk H1 locs1 ls1 (cells + 1) (slots + 6) d0 hd0 (by omega) (by omega) hH1 hl1)
  · refine g_tabIn (i := 26) (tgt := 1523) hx hb dL_law_39 rfl (by decide) (by decide) (by decide) rfl (by decide) ?_
    exact lawc_26 (s := s.setDrawn d0) hlt hx hb hml hown (dr_words hts d0) (hX.drew d0) hXs hbl hbA hL hj hc hs hH hl h (fun H1 locs1 ls1 hH1 hl1 => kk H1 locs1 ls1 (cells + 0) (slots + 0) d0 hd0 (by omega) (by omega) hH1 hl1)
  · refine g_tabOut (tgt := 1537) hx hb dL_law_39 ⟨by omega, by omega⟩ (by omega) (by decide) ?_
    obtain ⟨k', rfl⟩ : ∃ k', k = k' + 27 := ⟨k - 27, by omega⟩
    have h3 : some (σ, μ) = some (σ', μ') := h
    cases h3
    exact kk H locs ls cells slots d0 hd0 (by omega) (by omega) hH hl
set_option maxHeartbeats 4000000 in
set_option maxRecDepth 100000 in
theorem law_run {p : Program} {l : Launch} {e : Env} {s : State} {m : MethodId} {below : List Frame} {meth : Method} {c : Code} {b L : Nat} {xs : Nat → Int32} {D : va_G} {G : gAd} (hr : meth.sig.returnType = ret) (hlocks : meth.locks = false) (hlt : l.stackTraces = false) (hx : p.tables.exec = Jvm.exec) (hb : c.code = cL_law) (hml : c.maxLocals = 9) (hown : s.vm.findClass RL = some m.cls) (hts : ∀ w ∈ gLW, w.before #[Value.ref b] s = true) (hX : gX D G s) (hXs : va_X b L xs s s.heap) (hbl : b < s.heap.size) (hbA : ¬ gA G b) (hL : L ≤ 2048) (hA : ∀ q, gA G q → s.heap.size ≤ q) : ∀ (f j : Nat) (H : Heap) (locs : List Loc) (ls : Array Slot) (cells slots : Nat) (d0 : Drawn) (σ : gSt) (μ : gLg), s.drawn.sameBut d0 lw_cs → cells ≤ 500 + 3 * j → slots ≤ 20000 + 18 * j → j ≤ 512 → gH D G (s.setDrawn d0) H locs σ μ → lv_has ls 9 (gLocs G b j) → DL_run xs L f j σ μ = some () → W p l e room_1 (s.setDrawn d0) m #[Value.ref b] below meth c H locs cells slots (lw_Z below #[Value.ref b] s) (F0 m 23 ls []) := by
  intro f
  induction f with
  | zero => intro j H locs ls cells slots d0 σ μ hd0 hc hs hj hH hl h; cases h
  | succ f ih =>
    intro j H locs ls cells slots d0 σ μ hd0 hc hs hj hH hl h
    unfold DL_run at h
    refine lv_iload hx hb dL_law_23 (lv_at hl 4 rfl) ?_
    refine lv_aload_n hx hb dL_law_25 rfl (lv_at hl 0 rfl) ?_
    refine va_slen (s := s.setDrawn d0) hx hb hXs hbl hbA hH.2 dL_law_26 ?_
    rw [gI_nat]
    refine lv_iconst (v := gI (4 : Int)) hx hb dL_law_27 (by decide) ?_
    refine g_isub hx hb dL_law_28 ?_
    by_cases hq : (L : Int) - 4 < 4 * (j : Int)
    · have h' : gIf ((L : Int) - (4 : Int) < 4 * (j : Int)) (4 * (j : Int)) ((L : Int) - (4 : Int)) (some ()) (none : Option Unit) = some () := by
        obtain ⟨h1, h2, -⟩ := gIf_some h
        unfold gIf
        rw [if_pos ⟨h1, h2⟩, if_pos hq]
      refine g_icmp_gt (tgt := 1543) hx hb dL_law_29 (by decide) h' (fun _ => ?_) (fun h2 => absurd h2 (fun z => by cases z))
      refine lv_iconst (v := 1) hx hb dL_law_1543 (by decide) ?_
      refine va_forget (fun q hq => hA _ (hH.2.2.2 q hq)) ?_
      refine W.widen (k := 601024) (n := 7293034) (by omega) (by omega) ?_
      exact lw_ret hd0 hx hb hr hlocks dL_law_1544
    · have hjl : 4 * j + 4 ≤ L := by omega
      have h' : gIf ((L : Int) - (4 : Int) < 4 * (j : Int)) (4 * (j : Int)) ((L : Int) - (4 : Int)) (none : Option Unit) ((DL_step xs j σ μ).bind fun q => DL_run xs L f (j + 1) q.1 q.2) = some () := by
        obtain ⟨h1, h2, ⟨h3, -⟩ | ⟨-, h3⟩⟩ := gIf_some h
        · exact absurd h3 hq
        · unfold gIf
          rw [if_pos ⟨h1, h2⟩, if_neg hq]
          exact h3
      refine g_icmp_gt (tgt := 1543) hx hb dL_law_29 (by decide) h' (fun h2 => absurd h2 (fun z => by cases z)) (fun h => ?_)
      obtain ⟨q, e1, h⟩ := gBind_some h
      refine lv_aload_n hx hb dL_law_32 rfl (lv_at hl 0 rfl) ?_
      refine lv_iload hx hb dL_law_33 (lv_at hl 4 rfl) ?_
      refine g_sld (s := s.setDrawn d0) (i := 4 * (j : Int)) hx hb hXs hbl hbA hH ⟨by omega, by omega⟩ hL dL_law_35 ?_
      rw [← gI_x, show Int.toNat (4 * (j : Int)) = 4 * j by omega]
      refine lv_bipush (v := 31) hx hb dL_law_36 (by decide) ?_
      refine lv_iand hx hb dL_law_38 ?_
      refine law_step hd0 hlt hx hb hml hown hts hX hXs hbl hbA hL hjl hc hs hH hl (σ' := q.1) (μ' := q.2) e1 (fun H1 locs1 ls1 cells1 slots1 d1 hd1 hc1 hs1 hH1 hl1 => ?_)
      refine g_iinc (k := 4) (n := (4 : Int)) (lv' := [(4, .int (gI (4 * ((j + 1 : Nat) : Int)))), (0, .ref b), (1, .ref (G.1 0)), (2, .ref (G.1 136)), (3, .ref (G.1 147))]) hx hb dL_law_1537 hl1 rfl (by decide) (by
        rw [show 4 * ((j + 1 : Nat) : Int) = 4 * (j : Int) + 4 by omega]
        rfl) (fun ls2 hl2 => ?_)
      refine lv_goto (tgt := 23) hx hb dL_law_1540 (by decide) ?_
      exact ih (j + 1) H1 locs1 ls2 cells1 slots1 d1 q.1 q.2 hd1 hc1 hs1 (by omega) hH1 (lv_sub hl2 [1, 2, 3, 4, 0] rfl) h
