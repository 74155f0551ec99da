/-! the text; the saved states -/
theorem puInv.tx {σ σ' : gSt} (h : puInv σ) (hk : ∀ k, (1 ≤ k ∧ k ≤ 80) ∨ (87 ≤ k ∧ k ≤ 117) ∨ k = 137 ∨ k = 138 → σ' k = σ k) (h3 : σ' 136 3 = σ 136 3) (ht : puTx σ') : puInv σ' := by
  obtain ⟨g1, g2, g3, g4⟩ := h
  have e : σ' 137 = σ 137 := hk 137 (by omega)
  refine ⟨by rw [e]; exact g1, ?_, g3.same (fun k q => hk k (by omega)) h3, ht⟩
  rw [e]
  exact g2.same (fun k q => hk k (by omega))
theorem pu_22 {σ : gSt} {μ : gLg} (xs : Nat → Int32) (j : Nat) (hI : puInv σ) : puP (DL_c22 xs j σ μ) (fun r => puInv r.1) := by
  unfold DL_c22
  have hx := gR_x (xs (Int.toNat ((4 * (j : Int)) + (1 : Int))))
  generalize (xs (Int.toNat ((4 * (j : Int)) + (1 : Int)))).toInt = v at hx ⊢
  refine pu_stepS (y := fun τ => DX9_append τ v) ?_
  obtain ⟨n, n1, n2, n3, n4⟩ := hI.2.2.2
  unfold DX8_append DX8_append_J10 DX7_length
  by_cases c : 0 ≤ v ∧ v ≤ 127
  · by_cases c2 : n < 150
    · have hadd : DX7_add 81 σ v = some (gUp (gUp σ 83 n v) 81 1 ((n : Int) + 1)) := by
        unfold DX7_add
        rw [n2, pu_ifT ⟨by omega, by omega⟩ (by decide) (by omega), pu_putN c2 (by decide), Option.bind_some]
        show some (gUp (gUp σ 83 n v) 81 1 (gUp σ 83 n v 81 1 + 1)) = _
        rw [pu_upK (k' := 81) (by decide), n2]
      have e136 : gUp (gUp σ 83 n v) 81 1 ((n : Int) + 1) 136 = σ 136 := by rw [pu_upK (by decide), pu_upK (by decide)]
      have e140 : ∀ i, i < n → gUp (gUp (gUp (gUp σ 83 n v) 81 1 ((n : Int) + 1)) 140 n v) 136 5 ((n : Int) + 1) 140 i = σ 140 i := fun i hi => by rw [pu_upK (by decide), pu_upI (by omega), pu_upK (by decide), pu_upK (by decide)]
      refine puAnsS.ok (v := (n : Int) + 1) (σ1 := gUp (gUp σ 83 n v) 81 1 ((n : Int) + 1)) (σ2 := gUp (gUp (gUp (gUp σ 83 n v) 81 1 ((n : Int) + 1)) 140 n v) 136 5 ((n : Int) + 1)) ?_ ?_ ?_
      · refine (hI.tx (σ' := gUp (gUp (gUp (gUp σ 83 n v) 81 1 ((n : Int) + 1)) 140 n v) 136 5 ((n : Int) + 1)) (fun k hk => ?_) ?_ ⟨n + 1, by omega, ?_, ?_, fun i hi => ?_⟩).six 0
        · rw [pu_upK (by omega), pu_upK (by omega), pu_upK (by omega), pu_upK (by omega)]
        · rw [pu_upI (by decide), pu_upK (by decide), e136]
        · rw [pu_upK (by decide), pu_upK (by decide), pu_upE]
          omega
        · rw [pu_upE]
          omega
        · by_cases e : i = n
          · subst e
            rw [pu_upK (k' := 83) (by decide), pu_upK (k' := 83) (by decide), pu_upK (k' := 83) (by decide), pu_upE, pu_upK (k' := 140) (by decide), pu_upE]
            exact ⟨rfl, c⟩
          · rw [e140 i (by omega), pu_upK (k' := 83) (by decide), pu_upK (k' := 83) (by decide), pu_upK (k' := 83) (by decide), pu_upI e]
            exact n4 i (by omega)
      · rw [pu_ifF hx (by decide) (by omega), pu_ifF hx (by decide) (by omega), Option.bind_some, n2, pu_ifT ⟨by omega, by omega⟩ (by decide) (by omega), hadd, Option.bind_some, Option.bind_some, pu_upE]
      · show DX9_append _ v = _
        unfold DX9_append
        rw [pu_in hx (by decide) (by decide), Option.bind_some, if_pos c, pu_ifF (by decide) (by decide) (by decide), e136, n3, pu_ifF ⟨by omega, by omega⟩ (by decide) (by omega), pu_gat (by omega) (by omega), Int.toNat_natCast, show gUp (gUp (gUp σ 83 n v) 81 1 ((n : Int) + 1)) 140 n v 136 5 = (n : Int) by rw [pu_upK (by decide), e136, n3], pu_upE]; rfl
    · refine puAnsS.no (hI.six 2) (k := 2) (r := 0) ?_ rfl (Or.inr (Or.inl rfl)) ?_
      · rw [pu_ifF hx (by decide) (by omega), pu_ifF hx (by decide) (by omega), Option.bind_some, n2, pu_ifF ⟨by omega, by omega⟩ (by decide) (by omega)]
      · show DX9_append σ v = _
        unfold DX9_append
        rw [pu_in hx (by decide) (by decide), Option.bind_some, if_pos c, pu_ifF (by decide) (by decide) (by decide), n3, pu_ifT ⟨by omega, by omega⟩ (by decide) (by omega)]; rfl
  · refine puAnsS.no (hI.six 1) (k := 1) (r := 0) ?_ rfl (Or.inl rfl) ?_
    · by_cases c1 : v < 0
      · rw [pu_ifT hx (by decide) c1]
      · rw [pu_ifF hx (by decide) c1, pu_ifT hx (by decide) (by omega)]
    · show DX9_append σ v = _
      unfold DX9_append
      rw [pu_in hx (by decide) (by decide), Option.bind_some, if_neg c, pu_ifT (by decide) (by decide) rfl]; rfl
theorem pu_23 {σ : gSt} {μ : gLg} (xs : Nat → Int32) (j : Nat) (hI : puInv σ) : puP (DL_c23 xs j σ μ) (fun r => puInv r.1) := by
  obtain ⟨n, n1, n2, n3, n4⟩ := hI.2.2.2
  have e1 : DX8_clearText σ = some ((n : Int), gUp σ 81 1 0) := by
    unfold DX8_clearText DX7_length DX7_empty
    rw [Option.bind_some, Option.bind_some, n2]
  have e2 : DX9_clearText (gUp σ 81 1 0) = some ((n : Int), gUp (gUp (gUp σ 81 1 0) 136 5 0) 136 6 0) := by
    unfold DX9_clearText
    rw [pu_upK (k' := 136) (by decide), n3]; rfl
  unfold DL_c23
  rw [e1, Option.bind_some, e2, Option.bind_some, pu_ifT ⟨by show -2147483648 ≤ (n : Int); omega, by show (n : Int) ≤ 2147483647; omega⟩ ⟨by show -2147483648 ≤ (n : Int); omega, by show (n : Int) ≤ 2147483647; omega⟩ rfl]
  refine pu_some ((hI.tx (σ' := gUp (gUp σ 81 1 0) 136 5 0) (fun k hk => ?_) ?_ ⟨0, by omega, ?_, ?_, fun i hi => absurd hi (Nat.not_lt_zero _)⟩).six 0)
  · rw [pu_upK (by omega), pu_upK (by omega)]
  · rw [pu_upI (by decide), pu_upK (by decide)]
  · rw [pu_upK (by decide), pu_upE]
    rfl
  · rw [pu_upE]
    rfl
/-! the class copies plans -/
theorem puPl.congr {σ : gSt} {b : Nat} {s s' : Nat → Int} (ho : puOk s) (h : puPl σ b s) (he : ∀ i, i < 138 → s' i = s i) : puPl σ b s' := by
  obtain ⟨h1, h2, h3, h4, h5⟩ := h
  have h77 := ho.arrows
  have e4 := he 4 (by decide)
  have e77 := he 77 (by decide)
  refine ⟨by rw [e4, h1], by rw [e77, h2], fun i hi => by rw [he i (by omega)]; exact h3 i hi, fun t ht => ?_, fun a ha => ?_⟩
  · have ht : (t : Int) < s 4 := by rw [← e4]; exact ht
    have := ho.t24 ht
    rw [he _ (by omega), he _ (by omega), he _ (by omega)]
    exact h4 t ht
  · have ha : (a : Int) < s 77 := by rw [← e77]; exact ha
    have := ho.a30 ha
    rw [he _ (by omega), he _ (by omega)]
    exact h5 a ha
theorem puOk.congr {s s' : Nat → Int} (ho : puOk s) (he : ∀ i, i < 138 → s' i = s i) : puOk s' := by
  have e4 := he 4 (by decide)
  have e77 := he 77 (by decide)
  refine ⟨by rw [he 0 (by decide)]; exact ho.rows, by rw [he 1 (by decide)]; exact ho.days, by rw [he 2 (by decide)]; exact ho.keep, by rw [he 3 (by decide)]; exact ho.order, by rw [e4]; exact ho.tasks, by rw [e77]; exact ho.arrows, fun t ht => ?_, fun a ha => ?_⟩
  · have ht : (t : Int) < s 4 := by rw [← e4]; exact ht
    have := ho.t24 ht
    rw [he _ (by omega), he _ (by omega), he _ (by omega)]
    exact ⟨ho.g ht, ho.f ht, ho.l ht⟩
  · have ha : (a : Int) < s 77 := by rw [← e77]; exact ha
    have := ho.a30 ha
    rw [he (78 + 2 * a) (by omega), he (79 + 2 * a) (by omega), e4]
    exact ⟨ho.fr ha, ho.to ha⟩
theorem pu_cta {σ : gSt} {b p : Nat} (hd : p + 12 < b ∨ b + 12 < p) : puP (DX5_copyTasksAndArrows b p σ) (fun σ' => (∀ i, i < 24 → σ' (b + 4) i = σ (p + 4) i ∧ σ' (b + 6) i = σ (p + 6) i ∧ σ' (b + 8) i = σ (p + 8) i) ∧ (∀ i, i < 30 → σ' (b + 10) i = σ (p + 10) i ∧ σ' (b + 12) i = σ (p + 12) i) ∧ σ' b 6 = σ p 6 ∧ σ' b 7 = σ p 7 ∧ (∀ k, k ≠ b → k ≠ b + 4 → k ≠ b + 6 → k ≠ b + 8 → k ≠ b + 10 → k ≠ b + 12 → σ' k = σ k)) := by
  unfold DX5_copyTasksAndArrows
  rw [pu_copy (by decide) (by omega), Option.bind_some, pu_copy (by decide) (by omega), Option.bind_some, pu_copy (by decide) (by omega), Option.bind_some, pu_copy (by decide) (by omega), Option.bind_some, pu_copy (by decide) (by omega), Option.bind_some]
  refine pu_some ⟨fun i hi => ⟨?_, ?_, ?_⟩, fun i hi => ⟨?_, ?_⟩, ?_, ?_, fun k k1 k2 k3 k4 k5 k6 => ?_⟩
  · rw [pu_upK (by omega), pu_upK (by omega), puCopy_K (by omega), puCopy_K (by omega), puCopy_K (by omega), puCopy_K (by omega)]
    exact puCopy_I hi
  · rw [pu_upK (by omega), pu_upK (by omega), puCopy_K (by omega), puCopy_K (by omega), puCopy_K (by omega)]
    refine (puCopy_I hi).trans ?_
    rw [puCopy_K (by omega)]
  · rw [pu_upK (by omega), pu_upK (by omega), puCopy_K (by omega), puCopy_K (by omega)]
    refine (puCopy_I hi).trans ?_
    rw [puCopy_K (by omega), puCopy_K (by omega)]
  · rw [pu_upK (by omega), pu_upK (by omega), puCopy_K (by omega)]
    refine (puCopy_I hi).trans ?_
    rw [puCopy_K (by omega), puCopy_K (by omega), puCopy_K (by omega)]
  · rw [pu_upK (by omega), pu_upK (by omega)]
    refine (puCopy_I hi).trans ?_
    rw [puCopy_K (by omega), puCopy_K (by omega), puCopy_K (by omega), puCopy_K (by omega)]
  · rw [pu_upI (by decide), pu_upE, puCopy_K (by omega), puCopy_K (by omega), puCopy_K (by omega), puCopy_K (by omega), puCopy_K (by omega)]
  · rw [pu_upE, pu_upK (k' := p) (by omega), puCopy_K (by omega), puCopy_K (by omega), puCopy_K (by omega), puCopy_K (by omega), puCopy_K (by omega)]
  · rw [pu_upK k1, pu_upK k1, puCopy_K k6, puCopy_K k5, puCopy_K k4, puCopy_K k3, puCopy_K k2]
theorem pu_copyAll {σ : gSt} {b p : Nat} {s : Nat → Int} (ho : puOk s) (hp : puPl σ p s) (hd : p + 12 < b ∨ b + 12 < p) : puP (DX5_copyAll b p σ) (fun σ' => puPl σ' b s ∧ (∀ k, k < b ∨ b + 12 < k → σ' k = σ k)) := by
  unfold DX5_copyAll
  rw [pu_copy (by decide) (by omega), Option.bind_some]
  refine pu_b (pu_cta hd) (fun σ1 q => pu_some ?_)
  obtain ⟨q1, q2, q3, q4, q5⟩ := q
  have hK : ∀ k, k ≠ b + 2 → puCopy σ (b + 1 + 1) (p + 1 + 1) 0 4 k = σ k := fun k hk => puCopy_K hk
  refine ⟨⟨?_, ?_, fun i hi => ?_, fun t ht => ?_, fun a ha => ?_⟩, fun k hk => ?_⟩
  · rw [q3, hK p (by omega), hp.1]
  · rw [q4, hK p (by omega), hp.2.1]
  · rw [q5 (b + 2) (by omega) (by omega) (by omega) (by omega) (by omega) (by omega)]
    exact (puCopy_I hi).trans (hp.2.2.1 i hi)
  · obtain ⟨g1, g2, g3⟩ := q1 t (ho.t24 ht)
    rw [g1, g2, g3, hK _ (by omega), hK _ (by omega), hK _ (by omega)]
    exact hp.2.2.2.1 t ht
  · obtain ⟨g1, g2⟩ := q2 a (ho.a30 ha)
    rw [g1, g2, hK _ (by omega), hK _ (by omega)]
    exact hp.2.2.2.2 a ha
  · rw [q5 k (by omega) (by omega) (by omega) (by omega) (by omega) (by omega), hK k (by omega)]
/-! saved states: the class's ring, the reference's row -/
def puHC (σ : gSt) (nx c : Nat) (p : Nat → Nat → Int) : Prop := nx < 4 ∧ c ≤ 4 ∧ σ 27 1 = (nx : Int) ∧ σ 27 2 = (c : Int) ∧ ∀ k : Nat, k < c → puOk (p k) ∧ puPl σ (29 + 13 * ((nx + 4 - c + k) % 4)) (p k)
def puHR (σ : gSt) (c : Nat) (p : Nat → Nat → Int) : Prop := σ 136 3 = (c : Int) ∧ ∀ k : Nat, k < c → ∀ i : Nat, i < 138 → σ 138 (138 * k + i) = p k i
theorem puHis_of {σ : gSt} {nx c : Nat} {p : Nat → Nat → Int} (h1 : puHC σ nx c p) (h2 : puHR σ c p) : puHis σ :=
  ⟨nx, c, p, h1.1, h1.2.1, h1.2.2.1, h1.2.2.2.1, h2.1, fun k hk => ⟨(h1.2.2.2.2 k hk).1, (h1.2.2.2.2 k hk).2, h2.2 k hk⟩⟩
theorem puHis_to {σ : gSt} (h : puHis σ) : ∃ (nx c : Nat) (p : Nat → Nat → Int), puHC σ nx c p ∧ puHR σ c p := by
  obtain ⟨nx, c, p, h1, h2, h3, h4, h5, h6⟩ := h
  exact ⟨nx, c, p, ⟨h1, h2, h3, h4, fun k hk => ⟨(h6 k hk).1, (h6 k hk).2.1⟩⟩, ⟨h5, fun k hk => (h6 k hk).2.2⟩⟩
theorem puHC.same {σ σ' : gSt} {nx c : Nat} {p : Nat → Nat → Int} (h : puHC σ nx c p) (hk : ∀ k, 27 ≤ k → k ≤ 80 → σ' k = σ k) : puHC σ' nx c p := by
  obtain ⟨h1, h2, h3, h4, h5⟩ := h
  refine ⟨h1, h2, by rw [hk 27 (by omega) (by omega), h3], by rw [hk 27 (by omega) (by omega), h4], fun k hkc => ⟨(h5 k hkc).1, (h5 k hkc).2.same (fun q q1 q2 => hk q (by omega) (by omega))⟩⟩
def puCt (c : Nat) : Nat := if c = 4 then 4 else c + 1
def puPush (c : Nat) (s : Nat → Int) (p : Nat → Nat → Int) : Nat → Nat → Int := fun k => if c = 4 then (if k = 3 then s else p (k + 1)) else (if k = c then s else p k)
theorem pu_slot {σ : gSt} {nx : Nat} (h : nx < 4) : DX3_slot σ (nx : Int) = some (some (29 + 13 * nx)) := by
  unfold DX3_slot
  rw [pu_ifF ⟨by omega, by omega⟩ (by decide) (by omega), pu_ifT ⟨by omega, by omega⟩ (by decide) (by omega), pu_gat (by omega) (by omega)]
  rcases (show nx = 0 ∨ nx = 1 ∨ nx = 2 ∨ nx = 3 by omega) with rfl | rfl | rfl | rfl <;> rfl
theorem pu_qs {α : Type} {nx : Nat} (h : nx < 4) (f : Nat → Option α) : gQs (some (29 + 13 * nx)) f = f (29 + 13 * nx) := by
  show (if 29 + 13 * nx = 29 ∨ 29 + 13 * nx = 42 ∨ 29 + 13 * nx = 55 ∨ 29 + 13 * nx = 68 then f (29 + 13 * nx) else none) = _
  rw [if_pos (by omega)]
theorem pu_save {σ : gSt} {nx c : Nat} {p : Nat → Nat → Int} {s : Nat → Int} (ho : puOk s) (hp : puPl σ 1 s) (h : puHC σ nx c p) : puP (DX3_save 1 σ) (fun σ' => puHC σ' ((nx + 1) % 4) (puCt c) (puPush c s p) ∧ (∀ k, k < 27 ∨ 80 < k → σ' k = σ k)) := by
  obtain ⟨h1, h2, h3, h4, h5⟩ := h
  unfold DX3_save
  rw [h3, pu_slot h1, Option.bind_some, pu_qs h1]
  refine pu_b (pu_copyAll ho hp (by omega)) (fun σ1 q => ?_)
  obtain ⟨q1, q2⟩ := q
  have e27 : σ1 27 = σ 27 := q2 27 (by omega)
  have hfin : ∀ σ2 : gSt, (∀ k, k ≠ 27 → σ2 k = σ1 k) → σ2 27 1 = (((nx + 1) % 4 : Nat) : Int) → σ2 27 2 = (puCt c : Int) → puHC σ2 ((nx + 1) % 4) (puCt c) (puPush c s p) ∧ (∀ k, k < 27 ∨ 80 < k → σ2 k = σ k) := by
    intro σ2 k2 a1 a2
    refine ⟨⟨by omega, by unfold puCt; split <;> omega, a1, a2, fun k hk => ?_⟩, fun k hk => by rw [k2 k (by omega), q2 k (by omega)]⟩
    unfold puCt at hk
    by_cases e4 : c = 4
    · rw [if_pos e4] at hk
      unfold puPush puCt
      rw [if_pos e4, if_pos e4]
      by_cases e : k = 3
      · rw [if_pos e]
        refine ⟨ho, ?_⟩
        rw [show ((nx + 1) % 4 + 4 - 4 + k) % 4 = nx by omega]
        exact q1.same (fun z z1 z2 => k2 z (by omega))
      · rw [if_neg e]
        obtain ⟨g1, g2⟩ := h5 (k + 1) (by omega)
        refine ⟨g1, ?_⟩
        rw [show ((nx + 1) % 4 + 4 - 4 + k) % 4 = (nx + 4 - c + (k + 1)) % 4 by omega]
        exact g2.same (fun z z1 z2 => by rw [k2 z (by omega), q2 z (by omega)])
    · rw [if_neg e4] at hk
      unfold puPush puCt
      rw [if_neg e4, if_neg e4]
      by_cases e : k = c
      · rw [if_pos e]
        refine ⟨ho, ?_⟩
        rw [show ((nx + 1) % 4 + 4 - (c + 1) + k) % 4 = nx by omega]
        exact q1.same (fun z z1 z2 => k2 z (by omega))
      · rw [if_neg e]
        obtain ⟨g1, g2⟩ := h5 k (by omega)
        refine ⟨g1, ?_⟩
        rw [show ((nx + 1) % 4 + 4 - (c + 1) + k) % 4 = (nx + 4 - c + k) % 4 by omega]
        exact g2.same (fun z z1 z2 => by rw [k2 z (by omega), q2 z (by omega)])
  have hJ : ∀ t : Int, t = (((nx + 1) % 4 : Nat) : Int) → puP (DX3_save_J39 σ1 t) (fun σ' => puHC σ' ((nx + 1) % 4) (puCt c) (puPush c s p) ∧ (∀ k, k < 27 ∨ 80 < k → σ' k = σ k)) := by
    intro t ht
    unfold DX3_save_J39
    rw [pu_upI (by decide), e27, h4]
    refine pu_if ⟨by omega, by omega⟩ (by decide) (fun c1 => ?_) (fun c1 => ?_)
    · refine pu_some (hfin _ (fun k hk => by rw [pu_upK hk, pu_upK hk]) (by rw [pu_upI (by decide), pu_upE, ht]) ?_)
      rw [pu_upE]
      unfold puCt
      rw [if_neg (by omega)]
      omega
    · refine pu_some (hfin _ (fun k hk => by rw [pu_upK hk, pu_upK hk]) (by rw [pu_upI (by decide), pu_upE, ht]) ?_)
      rw [pu_upE]
      unfold puCt
      rw [if_pos (by omega)]
      rfl
  rw [e27, h3]
  refine pu_if ⟨by omega, by omega⟩ (by decide) (fun c1 => hJ _ (by omega)) (fun c1 => hJ _ (by omega))
/-! the reference: hold, ends -/
theorem pu_hold_L {σ0 : gSt} : ∀ (f x : Nat) (σ : gSt), 138 - x < f → x ≤ 138 → (∀ k, k ≠ 139 → σ k = σ0 k) → (∀ i : Nat, i < x → σ 139 i = σ0 137 i) → puP (DX9_hold_L2 f (x : Int) σ) (fun σ' => (∀ k, k ≠ 139 → σ' k = σ0 k) ∧ (∀ i : Nat, i < 138 → σ' 139 i = σ0 137 i)) := by
  intro f
  induction f with
  | zero => intro x σ h; omega
  | succ f ih =>
    intro x σ hf hx hK hA
    rw [DX9_hold_L2]
    refine pu_if ⟨by omega, by omega⟩ (by decide) (fun c => ?_) (fun c => pu_some ⟨hK, fun i hi => hA i (by omega)⟩)
    rw [pu_gat (by omega) (by omega), pu_gat (by omega) (by omega), Int.toNat_natCast, show ((x : Int) + 1) = ((x + 1 : Nat) : Int) by omega, hK 137 (by decide)]
    refine ih (x + 1) _ (by omega) (by omega) (fun k hk => by rw [pu_upK hk, hK k hk]) (fun i hi => ?_)
    by_cases e : i = x
    · rw [e, pu_upE]
    · rw [pu_upI e]
      exact hA i (by omega)
theorem pu_hold (σ : gSt) : puP (DX9_hold σ) (fun σ' => (∀ k, k ≠ 139 → σ' k = σ k) ∧ (∀ i : Nat, i < 138 → σ' 139 i = σ 137 i)) :=
  pu_hold_L gFuel 0 σ (by rw [gFuel_eq]; omega) (Nat.zero_le _) (fun _ _ => rfl) (fun i hi => absurd hi (Nat.not_lt_zero _))
theorem pu_ends_L51 {σ0 : gSt} {c : Nat} (hc : c < 4) (h3 : σ0 136 3 = (c : Int)) {K : gSt → Option (Int × gSt)} {Q : Int × gSt → Prop} : ∀ (f x : Nat) (σ : gSt), 138 - x < f → x ≤ 138 → (∀ k, k ≠ 138 → σ k = σ0 k) → (∀ i : Nat, i < x → σ 138 (138 * c + i) = σ0 139 i) → (∀ i : Nat, i < 138 * c → σ 138 i = σ0 138 i) → (∀ σ' : gSt, (∀ k, k ≠ 138 → σ' k = σ0 k) → (∀ i : Nat, i < 138 → σ' 138 (138 * c + i) = σ0 139 i) → (∀ i : Nat, i < 138 * c → σ' 138 i = σ0 138 i) → puP (K σ') Q) → puP (DX9_ends_L51 K f (x : Int) σ) Q := by
  intro f
  induction f with
  | zero => intro x σ h; omega
  | succ f ih =>
    intro x σ hf hx hK hA hB kk
    rw [DX9_ends_L51]
    refine pu_if ⟨by omega, by omega⟩ (by decide) (fun c1 => ?_) (fun c1 => kk σ hK (fun i hi => hA i (by omega)) hB)
    rw [pu_gat (by omega) (by omega), hK 136 (by decide), h3, pu_gat (by omega) (by omega), Int.toNat_natCast, show Int.toNat ((138 : Int) * (c : Int) + (x : Int)) = 138 * c + x by omega, show ((x : Int) + 1) = ((x + 1 : Nat) : Int) by omega, hK 139 (by decide)]
    refine ih (x + 1) _ (by omega) (by omega) (fun k hk => by rw [pu_upK hk, hK k hk]) (fun i hi => ?_) (fun i hi => ?_) kk
    · by_cases e : i = x
      · rw [e, pu_upE]
      · rw [pu_upI (by omega)]
        exact hA i (by omega)
    · rw [pu_upI (by omega)]
      exact hB i hi
theorem pu_ends_L10 {σ0 : gSt} {K : gSt → Option (Int × gSt)} {Q : Int × gSt → Prop} : ∀ (f x : Nat) (σ : gSt), 414 - x < f → x ≤ 414 → (∀ k, k ≠ 138 → σ k = σ0 k) → (∀ i : Nat, σ 138 i = if i < x then σ0 138 (i + 138) else σ0 138 i) → (∀ σ' : gSt, (∀ k, k ≠ 138 → σ' k = σ0 k) → (∀ i : Nat, i < 414 → σ' 138 i = σ0 138 (i + 138)) → puP (K σ') Q) → puP (DX9_ends_L10 K f (x : Int) σ) Q := by
  intro f
  induction f with
  | zero => intro x σ h; omega
  | succ f ih =>
    intro x σ hf hx hK hA kk
    rw [DX9_ends_L10]
    refine pu_if ⟨by omega, by omega⟩ (by decide) (fun c1 => ?_) (fun c1 => kk σ hK (fun i hi => by rw [hA i, if_pos (by omega)]))
    rw [pu_gat (by omega) (by omega), pu_gat (by omega) (by omega), Int.toNat_natCast, show Int.toNat ((x : Int) + 138) = x + 138 by omega, show ((x : Int) + 1) = ((x + 1 : Nat) : Int) by omega, hA (x + 138), if_neg (by omega)]
    refine ih (x + 1) _ (by omega) (by omega) (fun k hk => by rw [pu_upK hk, hK k hk]) (fun i => ?_) kk
    show (if (138 : Nat) = 138 ∧ i = x then σ0 138 (x + 138) else σ 138 i) = _
    by_cases e : i = x
    · rw [if_pos ⟨rfl, e⟩, if_pos (by omega), e]
    · rw [if_neg (fun q => e q.2), hA i]
      by_cases e2 : i < x
      · rw [if_pos e2, if_pos (by omega)]
      · rw [if_neg e2, if_neg (by omega)]
theorem pu_ends {σ : gSt} {c : Nat} {p : Nat → Nat → Int} {s : Nat → Int} (hc : c ≤ 4) (h : puHR σ c p) (hs : ∀ i : Nat, i < 138 → σ 139 i = s i) (v : Int) : ∃ σ', DX9_ends σ v = some (v, gUp σ' 136 6 0) ∧ puHR σ' (puCt c) (puPush c s p) ∧ (∀ k, k ≠ 136 → k ≠ 138 → σ' k = σ k) ∧ (∀ i, i ≠ 3 → σ' 136 i = σ 136 i) := by
  have hK85 : ∀ (c1 : Nat) (σ1 σ2 : gSt), c1 < 4 → σ1 136 3 = (c1 : Int) → (∀ k, k ≠ 138 → σ2 k = σ1 k) → DX9_ends_K85 v σ2 = some (v, gUp (gUp σ2 136 3 ((c1 : Int) + 1)) 136 6 0) := by
    intro c1 σ1 σ2 _ e1 k2
    unfold DX9_ends_K85
    rw [k2 136 (by decide), e1]; rfl
  obtain ⟨h1, h2⟩ := h
  -- both ways end in the storing loop
  have hJ : ∀ (c1 : Nat) (σ1 : gSt) (pp : Nat → Nat → Int), c1 < 4 → σ1 136 3 = (c1 : Int) → (∀ k : Nat, k < c1 → ∀ i : Nat, i < 138 → σ1 138 (138 * k + i) = pp k i) → (∀ k, k ≠ 136 → k ≠ 138 → σ1 k = σ k) → (∀ i, i ≠ 3 → σ1 136 i = σ 136 i) → ∃ σ', DX9_ends_J49 v σ1 = some (v, gUp σ' 136 6 0) ∧ puHR σ' (c1 + 1) (fun k => if k = c1 then s else pp k) ∧ (∀ k, k ≠ 136 → k ≠ 138 → σ' k = σ k) ∧ (∀ i, i ≠ 3 → σ' 136 i = σ 136 i) := by
    intro c1 σ1 pp hc1 e1 hp hK hI
    have := pu_ends_L51 (σ0 := σ1) hc1 e1 (K := DX9_ends_K85 v) (Q := fun r => ∃ σ', r = (v, gUp σ' 136 6 0) ∧ puHR σ' (c1 + 1) (fun k => if k = c1 then s else pp k) ∧ (∀ k, k ≠ 136 → k ≠ 138 → σ' k = σ k) ∧ (∀ i, i ≠ 3 → σ' 136 i = σ 136 i)) gFuel 0 σ1 (by rw [gFuel_eq]; omega) (Nat.zero_le _) (fun _ _ => rfl) (fun i hi => absurd hi (Nat.not_lt_zero _)) (fun _ _ => rfl) (fun σ2 k2 a2 b2 => by
      rw [hK85 c1 σ1 σ2 hc1 e1 k2]
      refine pu_some ⟨gUp σ2 136 3 ((c1 : Int) + 1), rfl, ⟨?_, fun k hk i hi => ?_⟩, fun k k1 k3 => ?_, fun i hi => ?_⟩
      · rw [pu_upE]
        omega
      · rw [pu_upK (by decide)]
        show _ = (if k = c1 then s else pp k) i
        by_cases e : k = c1
        · rw [if_pos e, e, a2 i hi, hK 139 (by decide) (by decide)]
          exact hs i hi
        · rw [if_neg e, b2 _ (by omega)]
          exact hp k (by omega) i hi
      · rw [pu_upK k1, k2 k k3, hK k k1 k3]
      · rw [pu_upI hi, k2 136 (by decide), hI i hi])
    obtain ⟨r, er, σ', e2, e3⟩ := this
    exact ⟨σ', by rw [← e2]; exact er, e3⟩
  unfold DX9_ends puCt
  by_cases e4 : c = 4
  · rw [h1, pu_ifT ⟨by omega, by omega⟩ (by decide) (by omega), if_pos e4]
    have := pu_ends_L10 (σ0 := σ) (K := DX9_ends_K39 v) (Q := fun r => ∃ σ', r = (v, gUp σ' 136 6 0) ∧ puHR σ' 4 (puPush c s p) ∧ (∀ k, k ≠ 136 → k ≠ 138 → σ' k = σ k) ∧ (∀ i, i ≠ 3 → σ' 136 i = σ 136 i)) gFuel 0 σ (by rw [gFuel_eq]; omega) (Nat.zero_le _) (fun _ _ => rfl) (fun i => by rw [if_neg (Nat.not_lt_zero _)]) (fun σ2 k2 a2 => by
      unfold DX9_ends_K39
      rw [k2 136 (by decide), h1]
      obtain ⟨σ', e1, e2, e3, e5⟩ := hJ 3 (gUp σ2 136 3 ((c : Int) - 1)) (fun k => p (k + 1)) (by decide) (by rw [pu_upE]; omega) (fun k hk i hi => by
        rw [pu_upK (by decide), a2 _ (by omega), show 138 * k + i + 138 = 138 * (k + 1) + i by omega]
        exact h2 (k + 1) (by omega) i hi) (fun k k1 k3 => by rw [pu_upK k1, k2 k k3]) (fun i hi => by rw [pu_upI hi, k2 136 (by decide)])
      rw [e1]
      refine pu_some ⟨σ', rfl, ?_, e3, e5⟩
      have ep : puPush c s p = fun k => if k = 3 then s else p (k + 1) := by
        funext k
        show (if c = 4 then (if k = 3 then s else p (k + 1)) else (if k = c then s else p k)) = _
        rw [if_pos e4]
      rw [ep]
      exact e2)
    obtain ⟨r, er, σ', e2, e3⟩ := this
    exact ⟨σ', by rw [← e2]; exact er, e3⟩
  · rw [h1, pu_ifF ⟨by omega, by omega⟩ (by decide) (by omega), if_neg e4]
    obtain ⟨σ', e1, e2, e3, e5⟩ := hJ c σ p (by omega) h1 h2 (fun _ _ _ => rfl) (fun _ _ => rfl)
    refine ⟨σ', e1, ?_, e3, e5⟩
    have ep : puPush c s p = fun k => if k = c then s else p k := by
      funext k
      show (if c = 4 then (if k = 3 then s else p (k + 1)) else (if k = c then s else p k)) = _
      rw [if_neg e4]
    rw [ep]
    exact e2
/-- after a call that changes the plan -/
theorem puInv_op {σ1 σ3 : gSt} {s' : Nat → Int} {nx c : Nat} {p : Nat → Nat → Int} (ho : puOk s') (hc : puCV σ1 s') (hC : puHC σ1 nx c p) (ht : puTx σ1) (h137 : σ3 137 = s') (hR : puHR σ3 c p) (hK : ∀ k, k ≠ 136 → k ≠ 137 → k ≠ 138 → k ≠ 139 → σ3 k = σ1 k) (hI : ∀ i, i ≠ 3 → σ3 136 i = σ1 136 i) : puInv (gUp σ3 136 6 0) := by
  have h : puInv σ3 := by
    refine ⟨by rw [h137]; exact ho, ?_, puHis_of (hC.same (fun k k1 k2 => hK k (by omega) (by omega) (by omega) (by omega))) hR, ht.same (fun k q => hK k (by omega) (by omega) (by omega) (by omega)) (hI 5 (by decide))⟩
    rw [h137]
    exact hc.same (fun k q => hK k (by omega) (by omega) (by omega) (by omega))
  exact h.six 0
