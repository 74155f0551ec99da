/-! what holds between two calls -/
def puHis (σ : gSt) : Prop := ∃ (nx c : Nat) (p : Nat → Nat → Int), nx < 4 ∧ c ≤ 4 ∧ σ 27 1 = (nx : Int) ∧ σ 27 2 = (c : Int) ∧ σ 136 3 = (c : Int) ∧ ∀ k : Nat, k < c → puOk (p k) ∧ puPl σ (29 + 13 * ((nx + 4 - c + k) % 4)) (p k) ∧ ∀ i : Nat, i < 138 → σ 138 (138 * k + i) = p k i
def puTx (σ : gSt) : Prop := ∃ n : Nat, n ≤ 150 ∧ σ 81 1 = (n : Int) ∧ σ 136 5 = (n : Int) ∧ ∀ i : Nat, i < n → σ 83 i = σ 140 i ∧ 0 ≤ σ 140 i ∧ σ 140 i ≤ 127
def puInv (σ : gSt) : Prop := puOk (σ 137) ∧ puCV σ (σ 137) ∧ puHis σ ∧ puTx σ
theorem puHis.same {σ σ' : gSt} (h : puHis σ) (hk : ∀ k, (27 ≤ k ∧ k ≤ 80) ∨ k = 138 → σ' k = σ k) (h3 : σ' 136 3 = σ 136 3) : puHis σ' := by
  obtain ⟨nx, c, p, h1, h2, h4, h5, h6, h7⟩ := h
  refine ⟨nx, c, p, h1, h2, by rw [hk 27 (by omega), h4], by rw [hk 27 (by omega), h5], by rw [h3, h6], fun k hkc => ?_⟩
  obtain ⟨g1, g2, g3⟩ := h7 k hkc
  refine ⟨g1, g2.same (fun q q1 q2 => hk q (by omega)), fun i hi => ?_⟩
  rw [hk 138 (by omega)]
  exact g3 i hi
theorem puTx.same {σ σ' : gSt} (h : puTx σ) (hk : ∀ k, k = 81 ∨ k = 83 ∨ k = 140 → σ' k = σ k) (h5 : σ' 136 5 = σ 136 5) : puTx σ' := by
  obtain ⟨n, h1, h2, h3, h4⟩ := h
  refine ⟨n, h1, by rw [hk 81 (by omega), h2], by rw [h5, h3], fun i hi => ?_⟩
  rw [hk 83 (by omega), hk 140 (by omega)]
  exact h4 i hi
theorem puInv.same {σ σ' : gSt} (h : puInv σ) (hk : ∀ k, (1 ≤ k ∧ k ≤ 83) ∨ (87 ≤ k ∧ k ≤ 117) ∨ k = 137 ∨ k = 138 ∨ k = 140 → σ' k = σ k) (h3 : σ' 136 3 = σ 136 3) (h5 : σ' 136 5 = σ 136 5) : puInv σ' := by
  obtain ⟨g1, g2, g3, g4⟩ := h
  have e : σ' 137 = σ 137 := hk 137 (by omega)
  refine ⟨by rw [e]; exact g1, ?_, g3.same (fun k q => hk k (by omega)) h3, g4.same (fun k q => hk k (by omega)) h5⟩
  rw [e]
  exact g2.same (fun k q => hk k (by omega))
theorem puInv.pf {σ σ1 : gSt} (h : puInv σ) (hf : puPF σ σ1) (c : Int) : puInv (gUp σ1 136 6 c) :=
  h.same (fun k q => by rw [pu_upK (by omega)]; exact hf.1 k (by omega) (by omega) (by omega) (by omega) (by omega) (by omega)) (by rw [pu_upI (by decide)]; exact hf.2 3 (by decide) (by decide) (by decide)) (by rw [pu_upI (by decide)]; exact hf.2 5 (by decide) (by decide) (by decide))
theorem puPF.rf {σ : gSt} : puPF σ σ := ⟨fun _ _ _ _ _ _ _ => rfl, fun _ _ _ _ => rfl⟩
theorem puInv.six {σ : gSt} (h : puInv σ) (c : Int) : puInv (gUp σ 136 6 c) := h.pf puPF.rf c
theorem pu_failsB (σ : gSt) (c : Int) : ((DX9_fails σ c).bind fun q => some (q.1, q.2)) = some (0, gUp σ 136 6 c) := rfl
theorem pu_tellsB (σ : gSt) (c : Int) : ((DX9_tells σ c).bind fun q => some (q.1, q.2)) = some (c, gUp σ 136 6 0) := rfl
/-- class and reference answer alike: both tell, or both refuse at the same place -/
def puAns (hs : List (Nat × Int)) (x : Option (Nat ⊕ Int)) (y : Option (Int × gSt)) (Q : gSt → Prop) : Prop := ∃ σ', Q σ' ∧ ((∃ v, x = some (.inr v) ∧ y = some (v, σ') ∧ σ' 136 6 = 0) ∨ ∃ (k : Nat) (c r : Int), x = some (.inl k) ∧ gHd hs k = some c ∧ (c = 1 ∨ c = 2 ∨ c = 3) ∧ y = some (r, σ') ∧ σ' 136 6 = c)
theorem puAns.ok {hs : List (Nat × Int)} {x : Option (Nat ⊕ Int)} {y : Option (Int × gSt)} {Q : gSt → Prop} {v : Int} {σ1 : gSt} (hQ : Q (gUp σ1 136 6 0)) (hx : x = some (.inr v)) (hy : y = some (v, gUp σ1 136 6 0)) : puAns hs x y Q := ⟨_, hQ, Or.inl ⟨v, hx, hy, pu_upE _ _ _ _⟩⟩
theorem puAns.no {hs : List (Nat × Int)} {x : Option (Nat ⊕ Int)} {y : Option (Int × gSt)} {Q : gSt → Prop} {k : Nat} {c r : Int} {σ1 : gSt} (hQ : Q (gUp σ1 136 6 c)) (hx : x = some (.inl k)) (hk : gHd hs k = some c) (hc : c = 1 ∨ c = 2 ∨ c = 3) (hy : y = some (r, gUp σ1 136 6 c)) : puAns hs x y Q := ⟨_, hQ, Or.inr ⟨k, c, r, hx, hk, hc, hy, pu_upE _ _ _ _⟩⟩
theorem pu_stepP {hs : List (Nat × Int)} {x : Option (Nat ⊕ Int)} {y : Option (Int × gSt)} {Q : gSt → Prop} {μ : gLg} (h : puAns hs x y Q) : puP ((gWrP x hs μ).bind fun q => y.bind fun q2 => (DX9_thrown q2.2).bind fun q3 => gIf (q3 = q.1) q3 q.1 (gIf (q.1 = 0) q.1 0 (gEq (q.2 147) ((gI q2.1).toInt64) (some (q2.2, q.2))) (some (q2.2, q.2))) none) (fun r => Q r.1) := by
  obtain ⟨σ', hQ, ⟨v, rfl, rfl, h6⟩ | ⟨k, c, r, rfl, hk, hc, rfl, h6⟩⟩ := h
  · show puP (gIf (σ' 136 6 = 0) (σ' 136 6) 0 (gIf ((0 : Int) = 0) 0 0 (gEq (gUl μ 147 ((gI v).toInt64) 147) ((gI v).toInt64) (some (σ', gUl μ 147 ((gI v).toInt64)))) (some (σ', gUl μ 147 ((gI v).toInt64)))) none) _
    rw [h6, pu_ifT (by decide) (by decide) rfl, pu_ifT (by decide) (by decide) rfl]
    have e : gUl μ 147 ((gI v).toInt64) 147 = (gI v).toInt64 := by simp [gUl]
    unfold gEq
    rw [if_pos e]
    exact pu_some hQ
  · have e : gWrP (some (.inl k)) hs μ = some (c, μ) := by
      show (gHd hs k).map _ = _
      rw [hk]
      rfl
    rw [e]
    show puP (gIf (σ' 136 6 = c) (σ' 136 6) c (gIf (c = 0) c 0 (gEq (μ 147) ((gI r).toInt64) (some (σ', μ))) (some (σ', μ))) none) _
    have hcr : gR c := ⟨by omega, by omega⟩
    rw [h6, pu_ifT hcr hcr rfl, pu_ifF hcr (by decide) (by omega)]
    exact pu_some hQ
/-- refusals of the class -/
theorem pu_reqTask {σ : gSt} {s : Nat → Int} (ho : puOk s) (hp : puPl σ 1 s) {v : Int} (h1 : gR v) : DX8_requireTask σ v = some (if 0 ≤ v ∧ v < s 4 then .inr () else .inl 3) := by
  unfold DX8_requireTask
  rw [pu_hasTask hp ho h1, Option.bind_some]
  by_cases e : 0 ≤ v ∧ v < s 4
  · rw [if_pos e, if_pos e, pu_ifF (by decide) (by decide) (by decide)]
  · rw [if_neg e, if_neg e, pu_ifT (by decide) (by decide) rfl]
theorem pu_reqArrow {σ : gSt} {s : Nat → Int} (ho : puOk s) (hp : puPl σ 1 s) {v : Int} (h1 : gR v) : DX8_requireArrow σ v = some (if 0 ≤ v ∧ v < s 77 then .inr () else .inl 3) := by
  unfold DX8_requireArrow
  rw [pu_hasArrow hp ho h1, Option.bind_some]
  by_cases e : 0 ≤ v ∧ v < s 77
  · rw [if_pos e, if_pos e, pu_ifF (by decide) (by decide) (by decide)]
  · rw [if_neg e, if_neg e, pu_ifT (by decide) (by decide) rfl]
theorem pu_reqBand {σ : gSt} {s : Nat → Int} (ho : puOk s) (h : puCV σ s) {v : Int} (h1 : gR v) : DX8_requireBand σ v = some (if 0 ≤ v ∧ v < (puBands s (s 0).toNat : Int) then .inr () else .inl 3) := by
  have hR := ho.rows
  have hb := puBands_le (R := (s 0).toNat) ho (by omega)
  unfold DX8_requireBand DX0_count
  rw [Option.bind_some, h.2.1.1, pu_ite h1 (by decide), pu_ite h1 ⟨by omega, by omega⟩]
  unfold DX8_requireBand_J15
  by_cases a : v < 0
  · rw [if_pos a, if_neg (by omega)]
  · rw [if_neg a]
    by_cases c : v < (puBands s (s 0).toNat : Int)
    · rw [if_pos c, if_pos (by omega)]
    · rw [if_neg c, if_neg (by omega)]
theorem pu_reqRow {σ : gSt} {s : Nat → Int} (ho : puOk s) (hp : puPl σ 1 s) {v : Int} (h1 : gR v) : DX8_requireRow σ v = some (if 0 ≤ v ∧ v < s 0 then .inr () else .inl 3) := by
  have hR := ho.rows
  unfold DX8_requireRow
  rw [pu_set0 hp, Option.bind_some, pu_ite h1 (by decide), pu_ite h1 ⟨by omega, by omega⟩]
  unfold DX8_requireRow_J16
  by_cases a : v < 0
  · rw [if_pos a, if_neg (by omega)]
  · rw [if_neg a]
    by_cases c : v < s 0
    · rw [if_pos c, if_pos (by omega)]
    · rw [if_neg c, if_neg (by omega)]
theorem pu_reqSheet {σ : gSt} {s : Nat → Int} (ho : puOk s) (h : puCV σ s) {v : Int} (h1 : gR v) : DX8_requireSheet σ v = some (if 0 ≤ v ∧ v < (puSheets s (s 0).toNat (s 1) : Int) then .inr () else .inl 3) := by
  have hR := ho.rows
  have hD := ho.days
  have hb := puSheets_le (R := (s 0).toNat) ho hD
  unfold DX8_requireSheet DX6_count
  rw [Option.bind_some, h.2.2.1.1, pu_ite h1 (by decide), pu_ite h1 ⟨by omega, by omega⟩]
  unfold DX8_requireSheet_J15
  by_cases a : v < 0
  · rw [if_pos a, if_neg (by omega)]
  · rw [if_neg a]
    by_cases c : v < (puSheets s (s 0).toNat (s 1) : Int)
    · rw [if_pos c, if_pos (by omega)]
    · rw [if_neg c, if_neg (by omega)]
theorem pu_xbR {α β : Type} (a : α) (f : α → Option (Nat ⊕ β)) : gXb (some (.inr a)) f = f a := rfl
theorem pu_xbL {α β : Type} (k : Nat) (f : α → Option (Nat ⊕ β)) : gXb (some (.inl k)) f = some (.inl k) := rfl
theorem pu_bandsR {σ : gSt} (ho : puOk (σ 137)) : puP (DX9_bandsBy σ (σ 137 0)) (fun σ' => puRR σ' (σ 137) (σ 137 0).toNat ∧ puRF σ σ') := by
  have hR := ho.rows
  have h := pu_bandsByS (σ := σ) (R := (σ 137 0).toNat) ho (by omega)
  rwa [show (((σ 137 0).toNat : Nat) : Int) = σ 137 0 by omega] at h
theorem pu_1 {σ : gSt} {μ : gLg} (xs : Nat → Int32) (j : Nat) (hI : puInv σ) : puP (DL_c1 xs j σ μ) (fun r => puInv r.1) := by
  unfold DL_c1
  refine pu_stepP ?_
  have hx := gR_x (xs (Int.toNat ((4 * (j : Int)) + (1 : Int))))
  generalize (xs (Int.toNat ((4 * (j : Int)) + (1 : Int)))).toInt = v at hx ⊢
  unfold DX8_value DX8_value_J10 DX9_value
  by_cases c : 0 ≤ v ∧ v ≤ 5
  · obtain ⟨w, rfl⟩ : ∃ w : Nat, v = (w : Int) := ⟨v.toNat, by omega⟩
    refine puAns.ok (v := puVA (σ 137) w) (hI.six 0) ?_ ?_
    · rw [pu_ifF hx (by decide) (by omega), pu_ifT hx (by decide) (by omega), pu_vA_C hI.1 hI.2.1.1 (by omega)]; rfl
    · rw [pu_in hx (by decide) (by decide), Option.bind_some, if_pos c, pu_ifF (by decide) (by decide) (by decide), pu_vA_R rfl (by omega)]; rfl
  · refine puAns.no (hI.six 1) (k := 1) (r := 0) ?_ rfl (Or.inl rfl) ?_
    · by_cases c1 : v < 0
      · rw [pu_ifT hx (by decide) c1]
      · rw [pu_ifF hx (by decide) c1, pu_ifF hx (by decide) (by omega)]
    · rw [pu_in hx (by decide) (by decide), Option.bind_some, if_neg c, pu_ifT (by decide) (by decide) rfl]; rfl
theorem pu_7 {σ : gSt} {μ : gLg} (xs : Nat → Int32) (j : Nat) (hI : puInv σ) : puP (DL_c7 xs j σ μ) (fun r => puInv r.1) := by
  unfold DL_c7
  refine pu_stepP ?_
  have hx := gR_x (xs (Int.toNat ((4 * (j : Int)) + (1 : Int))))
  have hy := gR_x (xs (Int.toNat ((4 * (j : Int)) + (2 : Int))))
  generalize (xs (Int.toNat ((4 * (j : Int)) + (1 : Int)))).toInt = v at hx ⊢
  generalize (xs (Int.toNat ((4 * (j : Int)) + (2 : Int)))).toInt = w at hy ⊢
  unfold DX8_task DX8_task_J15 DX9_task
  rw [pu_reqTask hI.1 hI.2.1.1 hx, pu_isTask hI.1 hx, Option.bind_some]
  by_cases c : 0 ≤ v ∧ v < σ 137 4
  · rw [if_pos c, if_pos c, pu_xbR]
    by_cases c2 : 0 ≤ w ∧ w ≤ 6
    · obtain ⟨t, rfl⟩ : ∃ t : Nat, v = (t : Int) := ⟨v.toNat, by omega⟩
      obtain ⟨u, rfl⟩ : ∃ u : Nat, w = (u : Int) := ⟨w.toNat, by omega⟩
      obtain ⟨σ1, e1, h1, h2⟩ := pu_bandsR (σ := σ) hI.1
      refine puAns.ok (v := puTA (σ 137) t u) (hI.pf h2.pf 0) ?_ ?_
      · rw [pu_ifF hy (by decide) (by omega), pu_ifT hy (by decide) (by omega), pu_tA_C hI.1 hI.2.1 c.2 (by omega)]; rfl
      · rw [pu_ifF (by decide) (by decide) (by decide), pu_in hy (by decide) (by decide), Option.bind_some, if_pos c2, pu_ifF (by decide) (by decide) (by decide), pu_gat (by decide) (by decide), show Int.toNat (0 : Int) = 0 from rfl, e1, Option.bind_some, pu_tA_R hI.1 h2.s h1 c.2 (by omega)]; rfl
    · refine puAns.no (hI.six 2) (k := 1) (r := 0) ?_ rfl (Or.inr (Or.inl rfl)) ?_
      · by_cases c1 : w < 0
        · rw [pu_ifT hy (by decide) c1]
        · rw [pu_ifF hy (by decide) c1, pu_ifF hy (by decide) (by omega)]
      · rw [pu_ifF (by decide) (by decide) (by decide), pu_in hy (by decide) (by decide), Option.bind_some, if_neg c2, pu_ifT (by decide) (by decide) rfl]; rfl
  · rw [if_neg c, if_neg c, pu_xbL]
    refine puAns.no (hI.six 1) (r := 0) rfl rfl (Or.inl rfl) ?_
    rw [pu_ifT (by decide) (by decide) rfl]; rfl
theorem pu_8 {σ : gSt} {μ : gLg} (xs : Nat → Int32) (j : Nat) (hI : puInv σ) : puP (DL_c8 xs j σ μ) (fun r => puInv r.1) := by
  have hR := hI.1.rows
  have hb := puBands_le (R := (σ 137 0).toNat) hI.1 (by omega)
  obtain ⟨σ1, e1, h1, h2⟩ := pu_bandsR (σ := σ) hI.1
  unfold DL_c8 DX8_bands DX0_count DX9_bands
  rw [Option.bind_some, Option.bind_some, pu_gat (by decide) (by decide), show Int.toNat (0 : Int) = 0 from rfl, e1, Option.bind_some, pu_tellsB, Option.bind_some, hI.2.1.2.1.1, h1.1, pu_ifT ⟨by omega, by omega⟩ ⟨by omega, by omega⟩ rfl]
  exact pu_some (hI.pf h2.pf 0)
theorem pu_9 {σ : gSt} {μ : gLg} (xs : Nat → Int32) (j : Nat) (hI : puInv σ) : puP (DL_c9 xs j σ μ) (fun r => puInv r.1) := by
  unfold DL_c9
  refine pu_stepP ?_
  have hx := gR_x (xs (Int.toNat ((4 * (j : Int)) + (1 : Int))))
  have hy := gR_x (xs (Int.toNat ((4 * (j : Int)) + (2 : Int))))
  generalize (xs (Int.toNat ((4 * (j : Int)) + (1 : Int)))).toInt = v at hx ⊢
  generalize (xs (Int.toNat ((4 * (j : Int)) + (2 : Int)))).toInt = w at hy ⊢
  have hR := hI.1.rows
  have hb := puBands_le (R := (σ 137 0).toNat) hI.1 (by omega)
  obtain ⟨σ1, e1, h1, h2⟩ := pu_bandsR (σ := σ) hI.1
  unfold DX8_row DX9_row DX9_row_J40
  rw [pu_reqBand hI.1 hI.2.1 hx, pu_gat (by decide) (by decide), show Int.toNat (0 : Int) = 0 from rfl, e1, Option.bind_some, h1.1, pu_in hx (by decide) ⟨by omega, by omega⟩, Option.bind_some]
  by_cases c : 0 ≤ v ∧ v < (puBands (σ 137) (σ 137 0).toNat : Int)
  · rw [if_pos c, if_pos (by omega), pu_ifF (by decide) (by decide) (by decide), pu_xbR, pu_gat (by decide) (by decide), h2.s, pu_reqRow hI.1 hI.2.1.1 hy, pu_in hy (by decide) ⟨by omega, by omega⟩, Option.bind_some]
    by_cases c2 : 0 ≤ w ∧ w < σ 137 0
    · obtain ⟨t, rfl⟩ : ∃ t : Nat, v = (t : Int) := ⟨v.toNat, by omega⟩
      obtain ⟨u, rfl⟩ : ∃ u : Nat, w = (u : Int) := ⟨w.toNat, by omega⟩
      refine puAns.ok (v := puRow (σ 137) (σ 137 0).toNat (20 * t + u)) (hI.pf h2.pf 0) ?_ ?_
      · rw [if_pos c2, pu_xbR]
        unfold DX0_content
        rw [show ((t : Int) * 20 + (u : Int)) = ((20 * t + u : Nat) : Int) by omega, pu_atN (by omega) (by decide)]
        exact congrArg (fun z => some (Sum.inr z)) (hI.2.1.2.1.2.1 _ (by omega))
      · rw [if_pos (by omega), pu_ifF (by decide) (by decide) (by decide), pu_gat (by omega) (by omega), show Int.toNat ((20 : Int) * (t : Int) + (u : Int)) = 20 * t + u by omega, h1.2.1 _ (by omega)]; rfl
    · rw [if_neg c2, if_neg (by omega), pu_ifT (by decide) (by decide) rfl, pu_xbL]
      exact puAns.no (hI.pf h2.pf 1) rfl rfl (Or.inl rfl) rfl
  · rw [if_neg c, if_neg (by omega), pu_ifT (by decide) (by decide) rfl, pu_xbL]
    exact puAns.no (hI.pf h2.pf 1) rfl rfl (Or.inl rfl) rfl
theorem pu_10 {σ : gSt} {μ : gLg} (xs : Nat → Int32) (j : Nat) (hI : puInv σ) : puP (DL_c10 xs j σ μ) (fun r => puInv r.1) := by
  have hD := hI.1.days
  have hb := puSheets_le (R := (σ 137 0).toNat) hI.1 hD
  obtain ⟨σ1, e1, h1, h2⟩ := pu_prints (σ := σ) hI.1
  unfold DL_c10 DX8_sheets DX6_count DX9_sheets
  rw [Option.bind_some, Option.bind_some, e1, Option.bind_some, pu_tellsB, Option.bind_some, hI.2.1.2.2.1.1, h1.2.2.1, pu_ifT ⟨by omega, by omega⟩ ⟨by omega, by omega⟩ rfl]
  exact pu_some (hI.pf h2 0)
theorem pu_11 {σ : gSt} {μ : gLg} (xs : Nat → Int32) (j : Nat) (hI : puInv σ) : puP (DL_c11 xs j σ μ) (fun r => puInv r.1) := by
  unfold DL_c11
  refine pu_stepP ?_
  have hx := gR_x (xs (Int.toNat ((4 * (j : Int)) + (1 : Int))))
  have hy := gR_x (xs (Int.toNat ((4 * (j : Int)) + (2 : Int))))
  generalize (xs (Int.toNat ((4 * (j : Int)) + (1 : Int)))).toInt = v at hx ⊢
  generalize (xs (Int.toNat ((4 * (j : Int)) + (2 : Int)))).toInt = w at hy ⊢
  have hD := hI.1.days
  have hb := puSheets_le (R := (σ 137 0).toNat) hI.1 hD
  obtain ⟨σ1, e1, h1, h2⟩ := pu_prints (σ := σ) hI.1
  unfold DX8_sheet DX8_sheet_J14 DX9_sheet
  rw [pu_reqSheet hI.1 hI.2.1 hx, e1, Option.bind_some, h1.2.2.1, pu_in hx (by decide) ⟨by omega, by omega⟩, Option.bind_some]
  by_cases c : 0 ≤ v ∧ v < (puSheets (σ 137) (σ 137 0).toNat (σ 137 1) : Int)
  · rw [if_pos c, if_pos (by omega), pu_xbR]
    by_cases c2 : 0 ≤ w ∧ w ≤ 4
    · obtain ⟨u, rfl⟩ : ∃ u : Nat, w = (u : Int) := ⟨w.toNat, by omega⟩
      obtain ⟨i, i1, i2, i3⟩ := puSheet_at (s := σ 137) (R := (σ 137 0).toNat) (D := σ 137 1) (i := v.toNat) (by omega)
      have ev : v = (puRk (σ 137) (σ 137 0).toNat (σ 137 1) i : Int) := by omega
      refine puAns.ok (v := puSA (σ 137) i u) (hI.pf h2 0) ?_ ?_
      · rw [pu_ifF hy (by decide) (by omega), pu_ifT hy (by decide) (by omega), ev, pu_sA_C hI.1 hI.2.1 i1 i2 (by omega)]; rfl
      · rw [pu_ifF (by decide) (by decide) (by decide), pu_in hy (by decide) (by decide), Option.bind_some, if_pos c2, pu_ifF (by decide) (by decide) (by decide), ev, pu_sA_R hI.1 h1 i1 i2 (by omega)]; rfl
    · refine puAns.no (hI.pf h2 2) (k := 1) (r := 0) ?_ rfl (Or.inr (Or.inl rfl)) ?_
      · by_cases c1 : w < 0
        · rw [pu_ifT hy (by decide) c1]
        · rw [pu_ifF hy (by decide) c1, pu_ifF hy (by decide) (by omega)]
      · rw [pu_ifF (by decide) (by decide) (by decide), pu_in hy (by decide) (by decide), Option.bind_some, if_neg c2, pu_ifT (by decide) (by decide) rfl]; rfl
  · rw [if_neg c, if_neg (by omega), pu_ifT (by decide) (by decide) rfl, pu_xbL]
    exact puAns.no (hI.pf h2 1) rfl rfl (Or.inl rfl) rfl
theorem pu_12 {σ : gSt} {μ : gLg} (xs : Nat → Int32) (j : Nat) (hI : puInv σ) : puP (DL_c12 xs j σ μ) (fun r => puInv r.1) := by
  unfold DL_c12
  refine pu_stepP ?_
  have hx := gR_x (xs (Int.toNat ((4 * (j : Int)) + (1 : Int))))
  have hy := gR_x (xs (Int.toNat ((4 * (j : Int)) + (2 : Int))))
  generalize (xs (Int.toNat ((4 * (j : Int)) + (1 : Int)))).toInt = v at hx ⊢
  generalize (xs (Int.toNat ((4 * (j : Int)) + (2 : Int)))).toInt = w at hy ⊢
  have hR := hI.1.rows
  have hb := puBands_le (R := (σ 137 0).toNat) hI.1 (by omega)
  obtain ⟨σ1, e1, h1, h2⟩ := pu_prints (σ := σ) hI.1
  unfold DX8_sheetAt DX9_sheetAt DX9_sheetAt_J56
  rw [pu_reqBand hI.1 hI.2.1 hx, e1, Option.bind_some, h1.2.1.1, pu_in hx (by decide) ⟨by omega, by omega⟩, Option.bind_some]
  by_cases c : 0 ≤ v ∧ v < (puBands (σ 137) (σ 137 0).toNat : Int)
  · rw [if_pos c, if_pos (by omega), pu_xbR]
    by_cases c2 : w < 0
    · refine puAns.no (hI.pf h2 2) (r := 0) (pu_ifT hy (by decide) c2) rfl (Or.inr (Or.inl rfl)) ?_
      rw [pu_ifF (by decide) (by decide) (by decide), pu_ifT hy (by decide) c2]; rfl
    · obtain ⟨t, rfl⟩ : ∃ t : Nat, v = (t : Int) := ⟨v.toNat, by omega⟩
      by_cases c3 : w < 52
      · obtain ⟨u, rfl⟩ : ∃ u : Nat, w = (u : Int) := ⟨w.toNat, by omega⟩
        refine puAns.ok (v := puNo (σ 137) (σ 137 0).toNat (σ 137 1) (52 * t + u)) (hI.pf h2 0) ?_ ?_
        · rw [pu_ifF hy (by decide) c2, pu_numberAt hI.1 (by omega) hI.2.1.2.2.1 (by omega) (by omega)]; rfl
        · rw [pu_ifF (by decide) (by decide) (by decide), pu_ifF hy (by decide) c2, pu_ifT hy (by decide) c3, pu_gat (by omega) (by omega), show Int.toNat ((52 : Int) * (t : Int) + (u : Int)) = 52 * t + u by omega, h1.2.2.2.1 _ (by omega)]; rfl
      · refine puAns.ok (v := -1) (hI.pf h2 0) ?_ ?_
        · rw [pu_ifF hy (by decide) c2]
          unfold DX6_numberAt
          rw [pu_spotG (by omega) (by omega) hy.2, if_neg c3, Option.bind_some, pu_at (by decide) (by decide) (by decide), if_neg (by decide)]; rfl
        · rw [pu_ifF (by decide) (by decide) (by decide), pu_ifF hy (by decide) c2, pu_ifF hy (by decide) c3]; rfl
  · rw [if_neg c, if_neg (by omega), pu_ifT (by decide) (by decide) rfl, pu_xbL]
    exact puAns.no (hI.pf h2 1) rfl rfl (Or.inl rfl) rfl
