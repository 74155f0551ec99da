/-! the class's lay, whole -/
theorem pu_lay_L {σ0 : gSt} {b p1 R : Nat} {s : Nat → Int} {a0 : puA} (ho : puOk s) (hb : p1 + 12 < b) (hR : 3 ≤ R ∧ R ≤ 20) (ha : puWf R 0 a0) : ∀ (f g : Nat) (σ : gSt), 6 - g < f → g ≤ 6 → puPl σ p1 s → puCB σ b R (puLayN s R a0 g) → (∀ k, k ≠ b → k ≠ b + 2 → k ≠ b + 4 → k ≠ b + 6 → k ≠ b + 8 → σ k = σ0 k) → puP (DX0_lay_L17 b p1 f (g : Int) σ) (fun σ' => puCB σ' b R (puLayN s R a0 6) ∧ (∀ k, k ≠ b → k ≠ b + 2 → k ≠ b + 4 → k ≠ b + 6 → k ≠ b + 8 → σ' k = σ0 k)) := by
  intro f
  induction f with
  | zero => intro g σ h; omega
  | succ f ih =>
    intro g σ hf hg hp hB hK
    rw [DX0_lay_L17]
    refine pu_if ⟨by omega, by omega⟩ (by decide) (fun hc => ?_) (fun hc => ?_)
    · have hgg : 0 ≤ (g : Int) ∧ (g : Int) ≤ 5 := by omega
      refine pu_b (pu_gather ho hb hgg hp) (fun σ1 q => ?_)
      obtain ⟨q1, q2, q3, q4⟩ := q
      have hB1 : puCB σ1 b R (puLayN s R a0 g) := by
        obtain ⟨h1, h2, h3, h4, h5, h6⟩ := hB
        refine ⟨?_, ?_, ?_, ?_, ?_, ?_⟩
        · rw [q4 6 (by decide), h1]
        · rw [q4 5 (by decide), h2]
        · rw [q4 7 (by decide), h3]
        · rw [q3 (b + 2) (by omega) (by omega), h4]
        · rw [q3 (b + 4) (by omega) (by omega), h5]
        · rw [q3 (b + 6) (by omega) (by omega), h6]
      have hp1 : puPl σ1 p1 s := hp.same (fun k h1 h2 => q3 k (by omega) (by omega))
      have hle := puCum_le ho (g := g) (by omega)
      have hK1 : ∀ k, k ≠ b → k ≠ b + 2 → k ≠ b + 4 → k ≠ b + 6 → k ≠ b + 8 → σ1 k = σ0 k := fun k k1 k2 k3 k4 k5 => by rw [q3 k k1 k5, hK k k1 k2 k3 k4 k5]
      refine pu_if ⟨by omega, by omega⟩ (by decide) (fun hc1 => ?_) (fun hc1 => ?_)
      · have hlay := pu_layGroup (k := puCum s g) ho hR hgg hle (puLayN_wf hR.1 ha g) q2 (by omega) q1 hB1
        have hk := ho.keep
        rw [pu_set2 hp1, Option.bind_some]
        have hgo : ∀ σ2, puCB σ2 b R (puGrp s R (g : Int) (puLayN s R a0 g)) ∧ puFr b σ1 σ2 → puP (DX0_lay_J55 (DX0_lay_L17 b p1 f) (g : Int) σ2) (fun σ' => puCB σ' b R (puLayN s R a0 6) ∧ (∀ k, k ≠ b → k ≠ b + 2 → k ≠ b + 4 → k ≠ b + 6 → k ≠ b + 8 → σ' k = σ0 k)) := by
          intro σ2 w
          unfold DX0_lay_J55
          rw [show ((g : Int) + 1) = ((g + 1 : Nat) : Int) by omega]
          refine ih (g + 1) σ2 (by omega) (by omega) (hp1.same (fun k h1 h2 => w.2.1 k (by omega) (by omega) (by omega) (by omega))) w.1 (fun k k1 k2 k3 k4 k5 => ?_)
          rw [w.2.1 k k1 k2 k3 k4, hK1 k k1 k2 k3 k4 k5]
        refine pu_if ⟨by omega, by omega⟩ (by decide) (fun hk1 => ?_) (fun hk1 => ?_)
        · rw [if_pos hk1] at hlay
          exact pu_b hlay hgo
        · rw [if_neg hk1] at hlay
          exact pu_b hlay hgo
      · unfold DX0_lay_J55
        rw [show ((g : Int) + 1) = ((g + 1 : Nat) : Int) by omega]
        refine ih (g + 1) σ1 (by omega) (by omega) hp1 ?_ hK1
        have e : puLayN s R a0 (g + 1) = puLayN s R a0 g := by
          show puGrp s R (g : Int) (puLayN s R a0 g) = _
          unfold puGrp
          rw [if_pos (by omega)]
        rw [e]
        exact hB1
    · have e : g = 6 := by omega
      subst e
      exact pu_some ⟨hB, hK⟩
def puStart (r w v : Nat → Int) : puA := (0, 0, r, w, v)
theorem puStart_wf {R : Nat} {r w v : Nat → Int} : puWf R 0 (puStart r w v) := ⟨Nat.zero_le _, Nat.le_refl _, Or.inl rfl⟩
theorem pu_lay {σ : gSt} {b p1 R : Nat} {s : Nat → Int} (ho : puOk s) (hb : p1 + 12 < b) (hR : 3 ≤ R ∧ R ≤ 20) (hp : puPl σ p1 s) : puP (DX0_lay b p1 σ (R : Int)) (fun σ' => puCB σ' b R (puLayN s R (puStart (σ (b + 2)) (σ (b + 4)) (σ (b + 6))) 6) ∧ (∀ k, k ≠ b → k ≠ b + 2 → k ≠ b + 4 → k ≠ b + 6 → k ≠ b + 8 → σ' k = σ k)) := by
  unfold DX0_lay
  refine pu_lay_L ho hb hR puStart_wf gFuel 0 _ (by rw [gFuel_eq]; omega) (by omega) (hp.same (fun k h1 h2 => ?_)) ⟨?_, ?_, ?_, ?_, ?_, ?_⟩ (fun k k1 k2 k3 k4 k5 => ?_)
  · rw [pu_upK (by omega), pu_upK (by omega), pu_upK (by omega)]
  · rw [pu_upI (by decide), pu_upE]
    rfl
  · rw [pu_upI (by decide), pu_upI (by decide), pu_upE]
  · rw [pu_upE]
    rfl
  · rw [pu_upK (by omega), pu_upK (by omega), pu_upK (by omega)]
    rfl
  · rw [pu_upK (by omega), pu_upK (by omega), pu_upK (by omega)]
    rfl
  · rw [pu_upK (by omega), pu_upK (by omega), pu_upK (by omega)]
    rfl
  · rw [pu_upK k1, pu_upK k1, pu_upK k1]
/-! the reference's way -/
def puRB (σ : gSt) (a : puA) : Prop := σ 136 7 = (a.1 : Int) ∧ σ 136 8 = (a.2.1 : Int) ∧ σ 141 = a.2.2.1 ∧ σ 142 = a.2.2.2.1 ∧ σ 143 = a.2.2.2.2
def puRF (σ σ' : gSt) : Prop := (∀ k, k ≠ 136 → k ≠ 141 → k ≠ 142 → k ≠ 143 → σ' k = σ k) ∧ (∀ i, i ≠ 7 → i ≠ 8 → σ' 136 i = σ 136 i)
theorem puRF.trans {σ σ1 σ2 : gSt} (h1 : puRF σ σ1) (h2 : puRF σ1 σ2) : puRF σ σ2 := ⟨fun k a1 a2 a3 a4 => by rw [h2.1 k a1 a2 a3 a4, h1.1 k a1 a2 a3 a4], fun i a1 a2 => by rw [h2.2 i a1 a2, h1.2 i a1 a2]⟩
theorem puRF.rf {σ : gSt} : puRF σ σ := ⟨fun _ _ _ _ _ => rfl, fun _ _ _ => rfl⟩
theorem puRF.s {σ σ' : gSt} (h : puRF σ σ') : σ' 137 = σ 137 := h.1 137 (by decide) (by decide) (by decide) (by decide)
