/-! the text; the saved states -/
theorem puInv.tx {σ σ' : gSt} (h : puInv σ) (hk : ∀ k, (1 ≤ k ∧ k ≤ 80) ∨ (87 ≤ k ∧ k ≤ 117) ∨ k = 137 ∨ k = 138 → σ' k = σ k) (h3 : σ' 136 3 = σ 136 3) (ht : puTx σ') : puInv σ' := by
  obtain ⟨g1, g2, g3, g4⟩ := h
  have e : σ' 137 = σ 137 := hk 137 (by omega)
  refine ⟨by rw [e]; exact g1, ?_, g3.same (fun k q => hk k (by omega)) h3, ht⟩
  rw [e]
  exact g2.same (fun k q => hk k (by omega))
/-! the class copies plans -/
theorem puPl.congr {σ : gSt} {b : Nat} {s s' : Nat → Int} (ho : puOk s) (h : puPl σ b s) (he : ∀ i, i < 138 → s' i = s i) : puPl σ b s' := by
  obtain ⟨h1, h2, h3, h4, h5⟩ := h
  have h77 := ho.arrows
  have e4 := he 4 (by decide)
  have e77 := he 77 (by decide)
  refine ⟨by rw [e4, h1], by rw [e77, h2], fun i hi => by rw [he i (by omega)]; exact h3 i hi, fun t ht => ?_, fun a ha => ?_⟩
  · have ht : (t : Int) < s 4 := by rw [← e4]; exact ht
    have := ho.t24 ht
    rw [he _ (by omega), he _ (by omega), he _ (by omega)]
    exact h4 t ht
  · have ha : (a : Int) < s 77 := by rw [← e77]; exact ha
    have := ho.a30 ha
    rw [he _ (by omega), he _ (by omega)]
    exact h5 a ha
theorem puOk.congr {s s' : Nat → Int} (ho : puOk s) (he : ∀ i, i < 138 → s' i = s i) : puOk s' := by
  have e4 := he 4 (by decide)
  have e77 := he 77 (by decide)
  refine ⟨by rw [he 0 (by decide)]; exact ho.rows, by rw [he 1 (by decide)]; exact ho.days, by rw [he 2 (by decide)]; exact ho.keep, by rw [he 3 (by decide)]; exact ho.order, by rw [e4]; exact ho.tasks, by rw [e77]; exact ho.arrows, fun t ht => ?_, fun a ha => ?_⟩
  · have ht : (t : Int) < s 4 := by rw [← e4]; exact ht
    have := ho.t24 ht
    rw [he _ (by omega), he _ (by omega), he _ (by omega)]
    exact ⟨ho.g ht, ho.f ht, ho.l ht⟩
  · have ha : (a : Int) < s 77 := by rw [← e77]; exact ha
    have := ho.a30 ha
    rw [he (78 + 2 * a) (by omega), he (79 + 2 * a) (by omega), e4]
    exact ⟨ho.fr ha, ho.to ha⟩
theorem pu_cta {σ : gSt} {b p : Nat} (hd : p + 12 < b ∨ b + 12 < p) : puP (DX5_copyTasksAndArrows b p σ) (fun σ' => (∀ i, i < 24 → σ' (b + 4) i = σ (p + 4) i ∧ σ' (b + 6) i = σ (p + 6) i ∧ σ' (b + 8) i = σ (p + 8) i) ∧ (∀ i, i < 30 → σ' (b + 10) i = σ (p + 10) i ∧ σ' (b + 12) i = σ (p + 12) i) ∧ σ' b 6 = σ p 6 ∧ σ' b 7 = σ p 7 ∧ (∀ k, k ≠ b → k ≠ b + 4 → k ≠ b + 6 → k ≠ b + 8 → k ≠ b + 10 → k ≠ b + 12 → σ' k = σ k)) := by
  unfold DX5_copyTasksAndArrows
  rw [pu_copy (by decide) (by omega), Option.bind_some, pu_copy (by decide) (by omega), Option.bind_some, pu_copy (by decide) (by omega), Option.bind_some, pu_copy (by decide) (by omega), Option.bind_some, pu_copy (by decide) (by omega), Option.bind_some]
  refine pu_some ⟨fun i hi => ⟨?_, ?_, ?_⟩, fun i hi => ⟨?_, ?_⟩, ?_, ?_, fun k k1 k2 k3 k4 k5 k6 => ?_⟩
  · rw [pu_upK (by omega), pu_upK (by omega), puCopy_K (by omega), puCopy_K (by omega), puCopy_K (by omega), puCopy_K (by omega)]
    exact puCopy_I hi
  · rw [pu_upK (by omega), pu_upK (by omega), puCopy_K (by omega), puCopy_K (by omega), puCopy_K (by omega)]
    refine (puCopy_I hi).trans ?_
    rw [puCopy_K (by omega)]
  · rw [pu_upK (by omega), pu_upK (by omega), puCopy_K (by omega), puCopy_K (by omega)]
    refine (puCopy_I hi).trans ?_
    rw [puCopy_K (by omega), puCopy_K (by omega)]
  · rw [pu_upK (by omega), pu_upK (by omega), puCopy_K (by omega)]
    refine (puCopy_I hi).trans ?_
    rw [puCopy_K (by omega), puCopy_K (by omega), puCopy_K (by omega)]
  · rw [pu_upK (by omega), pu_upK (by omega)]
    refine (puCopy_I hi).trans ?_
    rw [puCopy_K (by omega), puCopy_K (by omega), puCopy_K (by omega), puCopy_K (by omega)]
  · rw [pu_upI (by decide), pu_upE, puCopy_K (by omega), puCopy_K (by omega), puCopy_K (by omega), puCopy_K (by omega), puCopy_K (by omega)]
  · rw [pu_upE, pu_upK (k' := p) (by omega), puCopy_K (by omega), puCopy_K (by omega), puCopy_K (by omega), puCopy_K (by omega), puCopy_K (by omega)]
  · rw [pu_upK k1, pu_upK k1, puCopy_K k6, puCopy_K k5, puCopy_K k4, puCopy_K k3, puCopy_K k2]
theorem pu_copyAll {σ : gSt} {b p : Nat} {s : Nat → Int} (ho : puOk s) (hp : puPl σ p s) (hd : p + 12 < b ∨ b + 12 < p) : puP (DX5_copyAll b p σ) (fun σ' => puPl σ' b s ∧ (∀ k, k < b ∨ b + 12 < k → σ' k = σ k)) := by
  unfold DX5_copyAll
  rw [pu_copy (by decide) (by omega), Option.bind_some]
  refine pu_b (pu_cta hd) (fun σ1 q => pu_some ?_)
  obtain ⟨q1, q2, q3, q4, q5⟩ := q
  have hK : ∀ k, k ≠ b + 2 → puCopy σ (b + 1 + 1) (p + 1 + 1) 0 4 k = σ k := fun k hk => puCopy_K hk
  refine ⟨⟨?_, ?_, fun i hi => ?_, fun t ht => ?_, fun a ha => ?_⟩, fun k hk => ?_⟩
  · rw [q3, hK p (by omega), hp.1]
  · rw [q4, hK p (by omega), hp.2.1]
  · rw [q5 (b + 2) (by omega) (by omega) (by omega) (by omega) (by omega) (by omega)]
    exact (puCopy_I hi).trans (hp.2.2.1 i hi)
  · obtain ⟨g1, g2, g3⟩ := q1 t (ho.t24 ht)
    rw [g1, g2, g3, hK _ (by omega), hK _ (by omega), hK _ (by omega)]
    exact hp.2.2.2.1 t ht
  · obtain ⟨g1, g2⟩ := q2 a (ho.a30 ha)
    rw [g1, g2, hK _ (by omega), hK _ (by omega)]
    exact hp.2.2.2.2 a ha
  · rw [q5 k (by omega) (by omega) (by omega) (by omega) (by omega) (by omega), hK k (by omega)]
/-! saved states: the class's ring, the reference's row -/
def puHC (σ : gSt) (nx c : Nat) (p : Nat → Nat → Int) : Prop := nx < 4 ∧ c ≤ 4 ∧ σ 27 1 = (nx : Int) ∧ σ 27 2 = (c : Int) ∧ ∀ k : Nat, k < c → puOk (p k) ∧ puPl σ (29 + 13 * ((nx + 4 - c + k) % 4)) (p k)
def puHR (σ : gSt) (c : Nat) (p : Nat → Nat → Int) : Prop := σ 136 3 = (c : Int) ∧ ∀ k : Nat, k < c → ∀ i : Nat, i < 138 → σ 138 (138 * k + i) = p k i
theorem puHis_of {σ : gSt} {nx c : Nat} {p : Nat → Nat → Int} (h1 : puHC σ nx c p) (h2 : puHR σ c p) : puHis σ :=
  ⟨nx, c, p, h1.1, h1.2.1, h1.2.2.1, h1.2.2.2.1, h2.1, fun k hk => ⟨(h1.2.2.2.2 k hk).1, (h1.2.2.2.2 k hk).2, h2.2 k hk⟩⟩
theorem puHis_to {σ : gSt} (h : puHis σ) : ∃ (nx c : Nat) (p : Nat → Nat → Int), puHC σ nx c p ∧ puHR σ c p := by
  obtain ⟨nx, c, p, h1, h2, h3, h4, h5, h6⟩ := h
  exact ⟨nx, c, p, ⟨h1, h2, h3, h4, fun k hk => ⟨(h6 k hk).1, (h6 k hk).2.1⟩⟩, ⟨h5, fun k hk => (h6 k hk).2.2⟩⟩
theorem puHC.same {σ σ' : gSt} {nx c : Nat} {p : Nat → Nat → Int} (h : puHC σ nx c p) (hk : ∀ k, 27 ≤ k → k ≤ 80 → σ' k = σ k) : puHC σ' nx c p := by
  obtain ⟨h1, h2, h3, h4, h5⟩ := h
  refine ⟨h1, h2, by rw [hk 27 (by omega) (by omega), h3], by rw [hk 27 (by omega) (by omega), h4], fun k hkc => ⟨(h5 k hkc).1, (h5 k hkc).2.same (fun q q1 q2 => hk q (by omega) (by omega))⟩⟩
def puCt (c : Nat) : Nat := if c = 4 then 4 else c + 1
def puPush (c : Nat) (s : Nat → Int) (p : Nat → Nat → Int) : Nat → Nat → Int := fun k => if c = 4 then (if k = 3 then s else p (k + 1)) else (if k = c then s else p k)
theorem pu_slot {σ : gSt} {nx : Nat} (h : nx < 4) : DX3_slot σ (nx : Int) = some (some (29 + 13 * nx)) := by
  unfold DX3_slot
  rw [pu_ifF ⟨by omega, by omega⟩ (by decide) (by omega), pu_ifT ⟨by omega, by omega⟩ (by decide) (by omega), pu_gat (by omega) (by omega)]
  rcases (show nx = 0 ∨ nx = 1 ∨ nx = 2 ∨ nx = 3 by omega) with rfl | rfl | rfl | rfl <;> rfl
theorem pu_qs {α : Type} {nx : Nat} (h : nx < 4) (f : Nat → Option α) : gQs (some (29 + 13 * nx)) f = f (29 + 13 * nx) := by
  show (if 29 + 13 * nx = 29 ∨ 29 + 13 * nx = 42 ∨ 29 + 13 * nx = 55 ∨ 29 + 13 * nx = 68 then f (29 + 13 * nx) else none) = _
  rw [if_pos (by omega)]
theorem pu_save {σ : gSt} {nx c : Nat} {p : Nat → Nat → Int} {s : Nat → Int} (ho : puOk s) (hp : puPl σ 1 s) (h : puHC σ nx c p) : puP (DX3_save 1 σ) (fun σ' => puHC σ' ((nx + 1) % 4) (puCt c) (puPush c s p) ∧ (∀ k, k < 27 ∨ 80 < k → σ' k = σ k)) := by
  obtain ⟨h1, h2, h3, h4, h5⟩ := h
  unfold DX3_save
  rw [h3, pu_slot h1, Option.bind_some, pu_qs h1]
  refine pu_b (pu_copyAll ho hp (by omega)) (fun σ1 q => ?_)
  obtain ⟨q1, q2⟩ := q
  have e27 : σ1 27 = σ 27 := q2 27 (by omega)
  have hfin : ∀ σ2 : gSt, (∀ k, k ≠ 27 → σ2 k = σ1 k) → σ2 27 1 = (((nx + 1) % 4 : Nat) : Int) → σ2 27 2 = (puCt c : Int) → puHC σ2 ((nx + 1) % 4) (puCt c) (puPush c s p) ∧ (∀ k, k < 27 ∨ 80 < k → σ2 k = σ k) := by
    intro σ2 k2 a1 a2
    refine ⟨⟨by omega, by unfold puCt; split <;> omega, a1, a2, fun k hk => ?_⟩, fun k hk => by rw [k2 k (by omega), q2 k (by omega)]⟩
    unfold puCt at hk
    by_cases e4 : c = 4
    · rw [if_pos e4] at hk
      unfold puPush puCt
      rw [if_pos e4, if_pos e4]
      by_cases e : k = 3
      · rw [if_pos e]
        refine ⟨ho, ?_⟩
        rw [show ((nx + 1) % 4 + 4 - 4 + k) % 4 = nx by omega]
        exact q1.same (fun z z1 z2 => k2 z (by omega))
      · rw [if_neg e]
        obtain ⟨g1, g2⟩ := h5 (k + 1) (by omega)
        refine ⟨g1, ?_⟩
        rw [show ((nx + 1) % 4 + 4 - 4 + k) % 4 = (nx + 4 - c + (k + 1)) % 4 by omega]
        exact g2.same (fun z z1 z2 => by rw [k2 z (by omega), q2 z (by omega)])
    · rw [if_neg e4] at hk
      unfold puPush puCt
      rw [if_neg e4, if_neg e4]
      by_cases e : k = c
      · rw [if_pos e]
        refine ⟨ho, ?_⟩
        rw [show ((nx + 1) % 4 + 4 - (c + 1) + k) % 4 = nx by omega]
        exact q1.same (fun z z1 z2 => k2 z (by omega))
      · rw [if_neg e]
        obtain ⟨g1, g2⟩ := h5 k (by omega)
        refine ⟨g1, ?_⟩
        rw [show ((nx + 1) % 4 + 4 - (c + 1) + k) % 4 = (nx + 4 - c + k) % 4 by omega]
        exact g2.same (fun z z1 z2 => by rw [k2 z (by omega), q2 z (by omega)])
  have hJ : ∀ t : Int, t = (((nx + 1) % 4 : Nat) : Int) → puP (DX3_save_J39 σ1 t) (fun σ' => puHC σ' ((nx + 1) % 4) (puCt c) (puPush c s p) ∧ (∀ k, k < 27 ∨ 80 < k → σ' k = σ k)) := by
    intro t ht
    unfold DX3_save_J39
    rw [pu_upI (by decide), e27, h4]
    refine pu_if ⟨by omega, by omega⟩ (by decide) (fun c1 => ?_) (fun c1 => ?_)
    · refine pu_some (hfin _ (fun k hk => by rw [pu_upK hk, pu_upK hk]) (by rw [pu_upI (by decide), pu_upE, ht]) ?_)
      rw [pu_upE]
      unfold puCt
      rw [if_neg (by omega)]
      omega
    · refine pu_some (hfin _ (fun k hk => by rw [pu_upK hk, pu_upK hk]) (by rw [pu_upI (by decide), pu_upE, ht]) ?_)
      rw [pu_upE]
      unfold puCt
      rw [if_pos (by omega)]
      rfl
  rw [e27, h3]
  refine pu_if ⟨by omega, by omega⟩ (by decide) (fun c1 => hJ _ (by omega)) (fun c1 => hJ _ (by omega))
/-! the reference: hold, ends -/
/-- after a call that changes the plan -/
theorem puInv_op {σ1 σ3 : gSt} {s' : Nat → Int} {nx c : Nat} {p : Nat → Nat → Int} (ho : puOk s') (hc : puCV σ1 s') (hC : puHC σ1 nx c p) (ht : puTx σ1) (h137 : σ3 137 = s') (hR : puHR σ3 c p) (hK : ∀ k, k ≠ 136 → k ≠ 137 → k ≠ 138 → k ≠ 139 → σ3 k = σ1 k) (hI : ∀ i, i ≠ 3 → σ3 136 i = σ1 136 i) : puInv (gUp σ3 136 6 0) := by
  have h : puInv σ3 := by
    refine ⟨by rw [h137]; exact ho, ?_, puHis_of (hC.same (fun k k1 k2 => hK k (by omega) (by omega) (by omega) (by omega))) hR, ht.same (fun k q => hK k (by omega) (by omega) (by omega) (by omega)) (hI 5 (by decide))⟩
    rw [h137]
    exact hc.same (fun k q => hK k (by omega) (by omega) (by omega) (by omega))
  exact h.six 0
