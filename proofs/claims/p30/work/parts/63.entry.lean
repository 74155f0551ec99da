/-! the law's entry: what stands in the heap; the classes -/
theorem en_s : ∀ q ∈ gTab, Cond.laysStatic "TaskSheets" q.1 "[I" ∈ lw_tbl := by decide +kernel
theorem en_a : ∀ q ∈ gTab, Cond.arrayOf (.static "TaskSheets" q.1 "[I") .int ∈ flatC (Cond.and given_1 narrow_1) := by decide +kernel
theorem en_l : ∀ q ∈ gTab, Cond.eq (.length (.static "TaskSheets" q.1 "[I")) (.int (Int32.ofNat q.2.length)) ∈ flatC (Cond.and given_1 narrow_1) := by decide +kernel
theorem en_e : ∀ q ∈ gTab, ∀ j : Nat, j < q.2.length → Cond.eq (.elem (.static "TaskSheets" q.1 "[I") (.int (Int32.ofNat j))) (.int (gI (q.2.getD j 0))) ∈ flatC (Cond.and given_1 narrow_1) := by decide +kernel
theorem en_n : ∀ q ∈ gTab, q.2.length < 2 ^ 31 := by decide +kernel
theorem en_i : Cond.initialized "TaskSheets" ∈ lw_tbl := by decide +kernel
theorem en_r : ∀ q ∈ gStrs, Cond.stringRef "TaskSheets" q.1 q.2 ∈ lw_tbl := by decide +kernel
theorem en_x : ∀ q ∈ gStrs, Cond.exactly (.string "TaskSheets" q.1) "java/lang/String" ∈ flatC (Cond.and given_1 narrow_1) := by decide +kernel
theorem en_nm : ∀ q ∈ gNestM, Cond.methodLinkNest q.1 q.2.1 q.2.2.1 q.2.2.2 ∈ lw_tbl := by decide +kernel
theorem en_nf : ∀ q ∈ gNestF, Cond.fieldLinkNest q.1 q.2.1 q.2.2.1 q.2.2.2.1 q.2.2.2.2.1 q.2.2.2.2.2 ∈ lw_tbl := by decide +kernel
theorem en_ca : ∀ q ∈ gCast, Cond.castable q.1 q.2 ∈ lw_tbl := by decide +kernel
theorem en_nc : ∀ q ∈ gNoCast, Cond.not (Cond.castable q.1 q.2) ∈ flatC (Cond.and given_1 narrow_1) := by decide +kernel
theorem en_de : ∀ y ∈ gDecl, Cond.declares y ∈ lw_tbl := by decide +kernel
theorem en_u1 : Cond.laysStatic Bundle.tN "UNASSIGNED_STACK" Bundle.steD ∈ lw_tbl := by decide +kernel
theorem en_u2 : Cond.laysStatic Bundle.tN "SUPPRESSED_SENTINEL" Bundle.listD ∈ lw_tbl := by decide +kernel
theorem en_u3 : Cond.initialized Bundle.tN ∈ lw_tbl := by decide +kernel
theorem en_u4 : Cond.isRef (.static Bundle.tN "UNASSIGNED_STACK" Bundle.steD) ∈ flatC (Cond.and given_1 narrow_1) := by decide +kernel
theorem en_u5 : Cond.isRef (.static Bundle.tN "SUPPRESSED_SENTINEL" Bundle.listD) ∈ flatC (Cond.and given_1 narrow_1) := by decide +kernel
theorem en_ao : Cond.arrayOver (.object "TaskSheets$Plan") ∈ lw_tbl := by decide +kernel
theorem en_not {c : Cond} {A : Array Value} {s : State} (h : (Cond.not c).before A s = true) : c.before A s = false := by
  cases hv : c.value A s none s [] with
  | none => simp [Cond.before, Cond.holds, Cond.value, hv] at h
  | some v => cases v <;> simp_all [Cond.before, Cond.holds, Cond.value]
theorem en_Z {s : State} {A : Array Value} {P : Nat → Prop} (hts : ∀ w ∈ lw_tbl, w.before A s = true) (hgv : ∀ w ∈ flatC (Cond.and given_1 narrow_1), w.before A s = true) (hP : ∀ a : Nat, a < s.heap.size → ¬ P a) : gZs P s s.heap := by
  refine ⟨fun q hq => ?_, ?_, ?_, fun q hq => ?_, fun q hq => ?_, fun q hq => ?_, fun q hq => ?_, fun q hq => ?_, fun y hy => ?_⟩
  · obtain ⟨t, h1, h2⟩ := va_Tof (tm := .static "TaskSheets" q.1 "[I") (ty := .int) (N := q.2.length) (f := fun j => .int (gI (q.2.getD j 0))) (A := P) (en_n q hq) (hgv _ (en_a q hq)) (va_eqt (hgv _ (en_l q hq))) (fun j hj => va_eqt (hgv _ (en_e q hq j hj))) hP
    exact ⟨t, va_Zref (hts _ (en_s q hq)) (hts _ en_i) h1 hP, h2⟩
  · exact vx_Zqof (hts _ en_u1) (hts _ en_u3) (hgv _ en_u4) hP
  · exact vx_Zqof (hts _ en_u2) (hts _ en_u3) (hgv _ en_u5) hP
  · obtain ⟨a, c, cA, kA, h1, -⟩ := Cond.exactly_spec (args := A) (first := s) (o := none) (s := s) (idx := []) (t := .string "TaskSheets" q.1) (cls := "java/lang/String") (hgv _ (en_x q hq))
    exact ⟨a, vk_R.of (hts _ (en_r q hq)) h1⟩
  · exact va_Nw.of rfl (hts _ (en_nm q hq))
  · exact va_Nw.of rfl (hts _ (en_nf q hq))
  · exact va_Nw.of rfl (hts _ (en_ca q hq))
  · have h2 := en_not (hgv _ (en_nc q hq))
    cases hb : (Cond.castable q.1 q.2).before #[] s with
    | false => rfl
    | true =>
      have h1 : (Cond.castable q.1 q.2).before A s = true := va_tabs rfl rfl hb
      rw [h1] at h2
      cases h2
  · exact va_Nw.of rfl (hts _ (en_de y hy))
theorem en_cl {s : State} {A : Array Value} (hts : ∀ w ∈ gLW, w.before A s = true) : ∃ D : va_G, ∀ (k : Nat) (q : vw_C), vwCl[k]? = some q → u_Kn s q.1 q.2.1 q.2.2 (D.1 k) (D.2 k) := by
  have h : ∀ k : Nat, ∃ x : ClassId × (Nat → Nat), ∀ q : vw_C, vwCl[k]? = some q → u_Kn s q.1 q.2.1 q.2.2 x.1 x.2 := by
    intro k
    match k with
    | 0 => obtain ⟨c, i, h⟩ := u_known hts q_ws_X0 (hts _ q_ia_X0); exact ⟨(c, i), fun q hq => by cases hq; exact h⟩
    | 1 => obtain ⟨c, i, h⟩ := u_known hts q_ws_X1 (hts _ q_ia_X1); exact ⟨(c, i), fun q hq => by cases hq; exact h⟩
    | 2 => obtain ⟨c, i, h⟩ := u_known hts q_ws_X2 (hts _ q_ia_X2); exact ⟨(c, i), fun q hq => by cases hq; exact h⟩
    | 3 => obtain ⟨c, i, h⟩ := u_known hts q_ws_X3 (hts _ q_ia_X3); exact ⟨(c, i), fun q hq => by cases hq; exact h⟩
    | 4 => obtain ⟨c, i, h⟩ := u_known hts q_ws_X4 (hts _ q_ia_X4); exact ⟨(c, i), fun q hq => by cases hq; exact h⟩
    | 5 => obtain ⟨c, i, h⟩ := u_known hts q_ws_X5 (hts _ q_ia_X5); exact ⟨(c, i), fun q hq => by cases hq; exact h⟩
    | 6 => obtain ⟨c, i, h⟩ := u_known hts q_ws_X6 (hts _ q_ia_X6); exact ⟨(c, i), fun q hq => by cases hq; exact h⟩
    | 7 => obtain ⟨c, i, h⟩ := u_known hts q_ws_X7 (hts _ q_ia_X7); exact ⟨(c, i), fun q hq => by cases hq; exact h⟩
    | 8 => obtain ⟨c, i, h⟩ := u_known hts q_ws_X8 (hts _ q_ia_X8); exact ⟨(c, i), fun q hq => by cases hq; exact h⟩
    | k + 9 =>
      refine ⟨((default : Nat × (Nat → Nat)).1, fun _ => 0), fun q hq => ?_⟩
      have h1 : k + 9 < 9 := (List.getElem?_eq_some_iff.mp hq).1
      omega
  exact ⟨(fun k => (Classical.choose (h k)).1, fun k => (Classical.choose (h k)).2), fun k => Classical.choose_spec (h k)⟩
theorem en_K {s : State} {A : Array Value} (hts : ∀ w ∈ lw_tbl, w.before A s = true) : ∃ (D : va_G) (cI cP : ClassId), va_K D vwCl [(cI, .int), (cP, .object "TaskSheets$Plan")] s := by
  obtain ⟨D, hD⟩ := en_cl (s := s) (A := A) (fun w hw => hts w (gLW_tbl w hw))
  obtain ⟨cI, k, comp, h1, h2, h3⟩ := Cond.arrayClass_spec (args := A) (first := s) (o := none) (s := s) (idx := []) (hts _ (gLW_tbl _ q_ac_int))
  obtain ⟨comp2, cP, k2, g1, g2, g3, g4, g5⟩ := Cond.arrayOver_spec (args := A) (first := s) (o := none) (s := s) (idx := []) (hts _ en_ao)
  refine ⟨D, cI, cP, hD, fun j q hj => ?_⟩
  match j, hj with
  | 0, hj =>
    cases hj
    exact ⟨fun n z => ⟨fun k h => (by cases h), k, h2, comp, h3⟩, h1⟩
  | 1, hj =>
    cases hj
    exact ⟨fun n z => ⟨fun k h => (by cases h), k2, g3, comp2, g4⟩, k2, comp2, g3, g4, g1, g5⟩
