/-! the reference prints -/
def puRS (σ : gSt) (s : Nat → Int) (R : Nat) (D : Int) : Prop := σ 136 12 = (puSheets s R D : Int) ∧ (∀ k : Nat, k < 1248 → σ 144 k = puNo s R D k) ∧ (∀ i : Nat, i < 1248 → puPr s R D (puOrd s i) = true → σ 145 (puRk s R D i) = (puOrd s i : Int))
def puPF (σ σ' : gSt) : Prop := (∀ k, k ≠ 136 → k ≠ 141 → k ≠ 142 → k ≠ 143 → k ≠ 144 → k ≠ 145 → σ' k = σ k) ∧ (∀ i, i ≠ 7 → i ≠ 8 → i ≠ 12 → σ' 136 i = σ 136 i)
theorem puPF.trans {σ σ1 σ2 : gSt} (h1 : puPF σ σ1) (h2 : puPF σ1 σ2) : puPF σ σ2 := ⟨fun k a1 a2 a3 a4 a5 a6 => by rw [h2.1 k a1 a2 a3 a4 a5 a6, h1.1 k a1 a2 a3 a4 a5 a6], fun i a1 a2 a3 => by rw [h2.2 i a1 a2 a3, h1.2 i a1 a2 a3]⟩
theorem puPF.s {σ σ' : gSt} (h : puPF σ σ') : σ' 137 = σ 137 := h.1 137 (by decide) (by decide) (by decide) (by decide) (by decide) (by decide)
theorem puRF.pf {σ σ' : gSt} (h : puRF σ σ') : puPF σ σ' := ⟨fun k a1 a2 a3 a4 _ _ => h.1 k a1 a2 a3 a4, fun i a1 a2 _ => h.2 i a1 a2⟩
theorem puRR.same {σ σ' : gSt} {s : Nat → Int} {R : Nat} (h : puRR σ s R) (h7 : σ' 136 7 = σ 136 7) (h1 : σ' 141 = σ 141) (h2 : σ' 142 = σ 142) (h3 : σ' 143 = σ 143) : puRR σ' s R := by
  unfold puRR at h ⊢
  rw [h7, h1, h2, h3]
  exact h
