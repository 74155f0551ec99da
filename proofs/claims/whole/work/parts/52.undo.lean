/-! the law's cases removeTask, undo -/
theorem puEnds_ren {l : List (Int × Int)} {t n : Nat} (hE : puEnds (n : Int) l) (htn : t < n) : puEnds ((n - 1 : Nat) : Int) ((l.filter (puKeep (t : Int))).map (puRen (t : Int))) := by
  intro q hq
  obtain ⟨q0, h0, rfl⟩ := List.mem_map.mp hq
  obtain ⟨h1, h2⟩ := List.mem_filter.mp h0
  obtain ⟨⟨g1, g2⟩, g3, g4⟩ := hE q0 h1
  obtain ⟨k1, k2⟩ := puKeep_e h2
  show (0 ≤ (if (t : Int) < q0.1 then q0.1 - 1 else q0.1) ∧ (if (t : Int) < q0.1 then q0.1 - 1 else q0.1) < ((n - 1 : Nat) : Int)) ∧ (0 ≤ (if (t : Int) < q0.2 then q0.2 - 1 else q0.2) ∧ (if (t : Int) < q0.2 then q0.2 - 1 else q0.2) < ((n - 1 : Nat) : Int))
  refine ⟨?_, ?_⟩
  · split <;> omega
  · split <;> omega
theorem puLess_t {s s' : Nat → Int} {t n u : Nat} (h : puLess s s' t n) (hu : u < n - 1) : s' (5 + 3 * u) = (if u < t then s (5 + 3 * u) else s (5 + 3 * (u + 1))) ∧ s' (6 + 3 * u) = (if u < t then s (6 + 3 * u) else s (6 + 3 * (u + 1))) ∧ s' (7 + 3 * u) = (if u < t then s (7 + 3 * u) else s (7 + 3 * (u + 1))) := by
  have h0 := h.2.2 u hu 0 (by decide)
  have h1 := h.2.2 u hu 1 (by decide)
  have h2 := h.2.2 u hu 2 (by decide)
  rw [show 6 + 3 * u = 5 + 3 * u + 1 by omega, show 7 + 3 * u = 5 + 3 * u + 2 by omega, show 6 + 3 * (u + 1) = 5 + 3 * (u + 1) + 1 by omega, show 7 + 3 * (u + 1) = 5 + 3 * (u + 1) + 2 by omega]
  exact ⟨h0, h1, h2⟩
theorem pu_4 {σ : gSt} {μ : gLg} (xs : Nat → Int32) (j : Nat) (hI : puInv σ) : puP (DL_c4 xs j σ μ) (fun r => puInv r.1) := by
  unfold DL_c4
  have hx := gR_x (xs (Int.toNat ((4 * (j : Int)) + (1 : Int))))
  generalize (xs (Int.toNat ((4 * (j : Int)) + (1 : Int)))).toInt = v at hx ⊢
  refine pu_stepS (y := fun τ => DX9_removeTask τ v) ?_
  have ho := hI.1
  have hn := ho.tasks
  by_cases c : 0 ≤ v ∧ v < σ 137 4
  · obtain ⟨t, rfl⟩ : ∃ t : Nat, v = (t : Int) := ⟨v.toNat, by omega⟩
    obtain ⟨n, hn4⟩ : ∃ n : Nat, σ 137 4 = (n : Int) := ⟨(σ 137 4).toNat, by omega⟩
    have htn : t < n := by omega
    obtain ⟨l, hA, hl, hE⟩ := puHA_of ho
    rw [hn4] at hE
    obtain ⟨nx, cc, p, hC, hR⟩ := puHis_to hI.2.2.1
    obtain ⟨σ1, e1, hC1, k1⟩ := pu_save ho hI.2.1.1 hC
    have hp1 : puPl σ1 1 (σ 137) := hI.2.1.1.same (fun k a1 a2 => k1 k (by omega))
    obtain ⟨⟨r, σ2⟩, e2, r1, hB2, d6, d3, dT, k2⟩ := pu_rmC hp1 hA hl hn4 (by omega) htn hE
    have r1 : r = (l.length : Int) - ((l.filter (puKeep (t : Int))).length : Int) := r1
    have hB2 : puHB σ2 1 ((l.filter (puKeep (t : Int))).map (puRen (t : Int))) := hB2
    have d6 : σ2 1 6 = ((n - 1 : Nat) : Int) := d6
    have d3 : σ2 3 = σ1 3 := d3
    have dT : ∀ u : Nat, u < n - 1 → σ2 5 u = (if u < t then σ1 5 u else σ1 5 (u + 1)) ∧ σ2 7 u = (if u < t then σ1 7 u else σ1 7 (u + 1)) ∧ σ2 9 u = (if u < t then σ1 9 u else σ1 9 (u + 1)) := dT
    have k2 : ∀ k, 13 < k → σ2 k = σ1 k := k2
    have hLl : ((l.filter (puKeep (t : Int))).map (puRen (t : Int))).length ≤ 30 := by
      have := List.length_filter_le (puKeep (t : Int)) l
      rw [List.length_map]
      omega
    have hmk : ∀ s' : Nat → Int, puHA s' ((l.filter (puKeep (t : Int))).map (puRen (t : Int))) → puLess (σ 137) s' t n → puOk s' ∧ puPl σ2 1 s' := by
      intro s' hA' hL
      refine ⟨puOk_mk (l := (l.filter (puKeep (t : Int))).map (puRen (t : Int))) (by rw [hL.2.1 0 (by decide)]; exact ho.rows) (by rw [hL.2.1 1 (by decide)]; exact ho.days) (by rw [hL.2.1 2 (by decide)]; exact ho.keep) (by rw [hL.2.1 3 (by decide)]; exact ho.order) (by rw [hL.1]; omega) (fun u hu => ?_) hA' hLl (by rw [hL.1]; exact puEnds_ren hE htn), puPl_mk (l := (l.filter (puKeep (t : Int))).map (puRen (t : Int))) (by rw [d6, hL.1]) (fun i hi => ?_) (fun u hu => ?_) hA' hB2⟩
      · rw [hL.1] at hu
        obtain ⟨g1, g2, g3⟩ := puLess_t hL (u := u) (by omega)
        rw [g1, g2, g3]
        by_cases e : u < t
        · rw [if_pos e, if_pos e, if_pos e]
          exact ⟨ho.g (by omega), ho.f (by omega), ho.l (by omega)⟩
        · rw [if_neg e, if_neg e, if_neg e]
          exact ⟨ho.g (t := u + 1) (by omega), ho.f (t := u + 1) (by omega), ho.l (t := u + 1) (by omega)⟩
      · rw [hL.2.1 i hi]
        show σ2 3 i = _
        rw [d3]
        exact hp1.2.2.1 i hi
      · rw [hL.1] at hu
        obtain ⟨g1, g2, g3⟩ := puLess_t hL (u := u) (by omega)
        obtain ⟨b1, b2, b3⟩ := dT u (by omega)
        show σ2 5 u = _ ∧ σ2 7 u = _ ∧ σ2 9 u = _
        rw [g1, g2, g3, b1, b2, b3]
        by_cases e : u < t
        · rw [if_pos e, if_pos e, if_pos e, if_pos e, if_pos e, if_pos e]
          exact hp1.2.2.2.1 u (by omega)
        · rw [if_neg e, if_neg e, if_neg e, if_neg e, if_neg e, if_neg e]
          exact hp1.2.2.2.1 (u + 1) (by omega)
    -- some row that it can be
    have hex : ∃ s' : Nat → Int, puHA s' ((l.filter (puKeep (t : Int))).map (puRen (t : Int))) ∧ puLess (σ 137) s' t n := by
      have := pu_rmR (σ := σ) (s := σ 137) rfl hA hl hn4 (by omega) htn hE (Q := fun _ => ∃ s' : Nat → Int, puHA s' ((l.filter (puKeep (t : Int))).map (puRen (t : Int))) ∧ puLess (σ 137) s' t n) (fun τ hA' hL k => by
        obtain ⟨τ3, e5, _⟩ := pu_ends (σ := τ) (c := cc) (p := p) (s := τ 139) hC.2.1 ⟨by rw [k 136 (by decide)]; exact hR.1, fun k' hk i hi => by rw [k 138 (by decide)]; exact hR.2 k' hk i hi⟩ (fun _ _ => rfl) ((l.length : Int) - ((l.filter (puKeep (t : Int))).length : Int))
        unfold DX9_removeTask_K167
        rw [e5, Option.bind_some]
        exact pu_some ⟨τ 137, hA', hL⟩)
      obtain ⟨_, _, h⟩ := this
      exact h
    obtain ⟨s', hA', hL'⟩ := hex
    obtain ⟨ho2, hp2⟩ := hmk s' hA' hL'
    obtain ⟨σ3, e3, hV, k3⟩ := pu_printAnew ho2 hp2
    obtain ⟨hC3, hT3, kσ⟩ := pu_fin (σ2 := σ2) hI hC1 k1 k2 k3
    obtain ⟨τ1, e4, k4, a4⟩ := pu_hold σ3
    have e137 : τ1 137 = σ 137 := by rw [k4 137 (by decide), kσ 137 (by decide)]
    have hfin := pu_rmR (σ := τ1) (s := σ 137) e137 hA hl hn4 (by omega) htn hE (Q := fun q => ∃ τ3, q = ((l.length : Int) - ((l.filter (puKeep (t : Int))).length : Int), gUp τ3 136 6 0) ∧ puInv (gUp τ3 136 6 0)) (fun τ hA2 hL2 k => by
      obtain ⟨ho3, hp3⟩ := hmk (τ 137) hA2 hL2
      obtain ⟨σ3', e3', hV', _⟩ := pu_printAnew ho3 hp3
      have eS : σ3' = σ3 := Option.some.inj (e3'.symm.trans e3)
      rw [eS] at hV'
      obtain ⟨τ3, e5, hI3⟩ := pu_refEnd (τ2 := τ) ho3 hV' hC.2.1 hC3 hT3 kσ hR (fun i hi => by rw [k 139 (by decide), a4 i hi, kσ 137 (by decide)]) (fun q q1 q2 => by rw [k q q1, k4 q q2]) rfl ((l.length : Int) - ((l.filter (puKeep (t : Int))).length : Int))
      unfold DX9_removeTask_K167
      rw [e5, Option.bind_some]
      exact pu_some ⟨τ3, rfl, hI3⟩)
    obtain ⟨q, eq, τ3, rfl, hI3⟩ := hfin
    refine puAnsS.ok (v := (l.length : Int) - ((l.filter (puKeep (t : Int))).length : Int)) (σ1 := σ3) (σ2 := τ3) hI3 ?_ ?_
    · unfold DX8_removeTask
      rw [pu_reqTask ho hI.2.1.1 hx, if_pos c, pu_xbR, e1, Option.bind_some, e2, Option.bind_some, e3, Option.bind_some, r1]
    · show DX9_removeTask σ3 (t : Int) = _
      have h137 : σ3 137 = σ 137 := kσ 137 (by decide)
      unfold DX9_removeTask
      rw [pu_isTask (by rw [h137]; exact ho) hx, h137, Option.bind_some, if_pos c, pu_ifF (by decide) (by decide) (by decide), e4, Option.bind_some, pu_gat (by decide) (by decide)]
      exact eq
  · refine puAnsS.no (hI.six 1) (k := 3) (r := 0) ?_ rfl (Or.inl rfl) ?_
    · unfold DX8_removeTask
      rw [pu_reqTask ho hI.2.1.1 hx, if_neg c, pu_xbL]
    · show DX9_removeTask σ v = _
      unfold DX9_removeTask
      rw [pu_isTask ho hx, Option.bind_some, if_neg c, pu_ifT (by decide) (by decide) rfl]; rfl
/-! undo -/
theorem pu_restore {σ : gSt} {nx c : Nat} {p : Nat → Nat → Int} {s : Nat → Int} (h : puHC σ nx (c + 1) p) (hs : ∀ i, i < 138 → s i = p c i) : puP (DX3_restore 1 σ) (fun σ' => puPl σ' 1 s ∧ puHC σ' ((nx + 3) % 4) c p ∧ (∀ k, 80 < k → σ' k = σ k)) := by
  obtain ⟨h1, h2, h3, h4, h5⟩ := h
  obtain ⟨g1, g2⟩ := h5 c (Nat.lt_succ_self c)
  have hgo : ∀ t : Int, t = (((nx + 3) % 4 : Nat) : Int) → puP (DX3_restore_J17 1 σ t) (fun σ' => puPl σ' 1 s ∧ puHC σ' ((nx + 3) % 4) c p ∧ (∀ k, 80 < k → σ' k = σ k)) := by
    intro t ht
    have hlt : (nx + 3) % 4 < 4 := by omega
    unfold DX3_restore_J17
    rw [ht, pu_slot hlt, Option.bind_some, pu_qs hlt, h4, pu_ifT ⟨by omega, by omega⟩ (by decide) (by omega)]
    rw [show (nx + 4 - (c + 1) + c) % 4 = (nx + 3) % 4 by omega] at g2
    refine pu_b (pu_copyAll g1 g2 (by omega)) (fun σ1 q => pu_some ?_)
    obtain ⟨q1, q2⟩ := q
    have hK : ∀ k, k ≠ 27 → gUp (gUp σ1 27 1 (((nx + 3) % 4 : Nat) : Int)) 27 2 (gUp σ1 27 1 (((nx + 3) % 4 : Nat) : Int) 27 2 - 1) k = σ1 k := fun k hk => by rw [pu_upK hk, pu_upK hk]
    refine ⟨(q1.congr g1 hs).same (fun k k1 k2 => hK k (by omega)), ⟨hlt, by omega, ?_, ?_, fun k hk => ?_⟩, fun k hk => by rw [hK k (by omega), q2 k (by omega)]⟩
    · rw [pu_upI (by decide), pu_upE]
    · rw [pu_upE, pu_upI (by decide), q2 27 (by omega), h4]
      omega
    · obtain ⟨w1, w2⟩ := h5 k (by omega)
      refine ⟨w1, ?_⟩
      rw [show ((nx + 3) % 4 + 4 - c + k) % 4 = (nx + 4 - (c + 1) + k) % 4 by omega]
      exact w2.same (fun z z1 z2 => by rw [hK z (by omega), q2 z (by omega)])
  unfold DX3_restore
  rw [h3]
  refine pu_if ⟨by omega, by omega⟩ (by decide) (fun c1 => hgo _ (by omega)) (fun c1 => hgo _ (by omega))
theorem pu_undo_L {σ0 : gSt} {c : Nat} (hc : c < 4) (h3 : σ0 136 3 = (c : Int)) {K : gSt → Option (Int × gSt)} {Q : Int × gSt → Prop} : ∀ (f x : Nat) (σ : gSt), 138 - x < f → x ≤ 138 → (∀ k, k ≠ 137 → σ k = σ0 k) → (∀ i : Nat, σ 137 i = if i < x then σ0 138 (138 * c + i) else σ0 137 i) → (∀ σ' : gSt, (∀ k, k ≠ 137 → σ' k = σ0 k) → (∀ i : Nat, σ' 137 i = if i < 138 then σ0 138 (138 * c + i) else σ0 137 i) → puP (K σ') Q) → puP (DX9_undo_L25 K f (x : Int) σ) Q := by
  intro f
  induction f with
  | zero => intro x σ h; omega
  | succ f ih =>
    intro x σ hf hx hK hA kk
    rw [DX9_undo_L25]
    refine pu_if ⟨by omega, by omega⟩ (by decide) (fun c1 => ?_) (fun c1 => ?_)
    · rw [hK 136 (by decide), h3, pu_gat (by omega) (by omega), pu_gat (by omega) (by omega), Int.toNat_natCast, show Int.toNat ((138 : Int) * (c : Int) + (x : Int)) = 138 * c + x by omega, show ((x : Int) + 1) = ((x + 1 : Nat) : Int) by omega, hK 138 (by decide)]
      refine ih (x + 1) _ (by omega) (by omega) (fun k hk => by rw [pu_upK hk, hK k hk]) (fun i => ?_) kk
      show (if (137 : Nat) = 137 ∧ i = x then σ0 138 (138 * c + x) else σ 137 i) = _
      by_cases e : i = x
      · rw [if_pos ⟨rfl, e⟩, if_pos (by omega), e]
      · rw [if_neg (fun q => e q.2), hA i]
        by_cases e2 : i < x
        · rw [if_pos e2, if_pos (by omega)]
        · rw [if_neg e2, if_neg (show ¬ i < x + 1 by omega)]
    · have e : x = 138 := by omega
      subst e
      exact kk σ hK hA
theorem pu_25 {σ : gSt} {μ : gLg} (xs : Nat → Int32) (j : Nat) (hI : puInv σ) : puP (DL_c25 xs j σ μ) (fun r => puInv r.1) := by
  unfold DL_c25
  refine pu_stepS (y := fun τ => DX9_undo τ) ?_
  have ho := hI.1
  obtain ⟨nx, cc, p, hC, hR⟩ := puHis_to hI.2.2.1
  have hc4 := hC.2.1
  unfold DX8_undo DX3_count
  cases cc with
  | zero =>
    refine puAnsS.no (hI.six 1) (k := 2) (r := 0) ?_ rfl (Or.inl rfl) ?_
    · rw [Option.bind_some, hC.2.2.2.1, pu_ifT (by decide) (by decide) (by decide)]
    · show DX9_undo σ = _
      unfold DX9_undo
      rw [hR.1, pu_ifT (by decide) (by decide) (by decide)]; rfl
  | succ c =>
    have hs : ∀ i, i < 138 → (fun i => if i < 138 then p c i else σ 137 i) i = p c i := fun i hi => if_pos hi
    have hop : puOk (p c) := (hC.2.2.2.2 c (Nat.lt_succ_self c)).1
    have ho2 : puOk (fun i => if i < 138 then p c i else σ 137 i) := hop.congr hs
    obtain ⟨σ1, e1, hp1, hC1, k1⟩ := pu_restore hC hs
    obtain ⟨σ3, e3, hV, k3⟩ := pu_printAnew ho2 hp1
    have kσ : ∀ k, 117 < k → σ3 k = σ k := fun k hk => by rw [k3 k (by omega), k1 k (by omega)]
    have hC3 : puHC σ3 ((nx + 3) % 4) c p := hC1.same (fun k a1 a2 => k3 k (by omega))
    have hT3 : puTx σ3 := hI.2.2.2.same (fun k q => by rw [k3 k (by omega), k1 k (by omega)]) (by rw [kσ 136 (by decide)])
    have hfin := pu_undo_L (σ0 := gUp σ3 136 3 (c : Int)) (c := c) (by omega) (pu_upE _ _ _ _) (K := DX9_undo_K59) (Q := fun q => ∃ τ3, q = ((c : Int), gUp τ3 136 6 0) ∧ puInv (gUp τ3 136 6 0)) gFuel 0 (gUp σ3 136 3 (c : Int)) (by rw [gFuel_eq]; omega) (Nat.zero_le _) (fun _ _ => rfl) (fun i => by rw [if_neg (Nat.not_lt_zero _)]) (fun τ kτ aτ => by
      unfold DX9_undo_K59
      have e3' : τ 136 3 = (c : Int) := by rw [kτ 136 (by decide), pu_upE]
      rw [e3']
      refine pu_some ⟨τ, rfl, puInv_op (σ1 := σ3) (s' := fun i => if i < 138 then p c i else σ 137 i) ho2 hV hC3 hT3 ?_ ⟨e3', fun k hk i hi => ?_⟩ (fun k k1 k2 _ _ => by rw [kτ k k2, pu_upK k1]) (fun i hi => by rw [kτ 136 (by decide), pu_upI hi])⟩
      · funext i
        rw [aτ i, pu_upK (by decide), pu_upK (by decide), kσ 138 (by decide), kσ 137 (by decide)]
        show (if i < 138 then σ 138 (138 * c + i) else σ 137 i) = (if i < 138 then p c i else σ 137 i)
        by_cases e : i < 138
        · rw [if_pos e, if_pos e]
          exact hR.2 c (Nat.lt_succ_self c) i e
        · rw [if_neg e, if_neg e]
      · rw [kτ 138 (by decide), pu_upK (by decide), kσ 138 (by decide)]
        exact hR.2 k (by omega) i hi)
    obtain ⟨q, eq, τ3, rfl, hI3⟩ := hfin
    refine puAnsS.ok (v := (c : Int)) (σ1 := σ3) (σ2 := τ3) hI3 ?_ ?_
    · rw [Option.bind_some, hC.2.2.2.1, pu_ifF ⟨by omega, by omega⟩ (by decide) (by omega), e1, Option.bind_some, e3, Option.bind_some, Option.bind_some, hC3.2.2.2.1]
    · show DX9_undo σ3 = _
      unfold DX9_undo
      rw [show σ3 136 3 = ((c + 1 : Nat) : Int) by rw [kσ 136 (by decide)]; exact hR.1, pu_ifF ⟨by omega, by omega⟩ (by decide) (by omega), show ((c + 1 : Nat) : Int) - 1 = (c : Int) by omega]
      exact eq
