/-! gather (the class), sizeOf and next (the reference) over one list -/
theorem pu_gather_L {σ0 : gSt} {b p1 : Nat} {s : Nat → Int} (ho : puOk s) (hb : p1 + 12 < b) (g : Int) (hg : 0 ≤ g ∧ g ≤ 5) : ∀ (f t : Nat) (σ : gSt), (s 4).toNat - t < f → (t : Int) ≤ s 4 → puPl σ p1 s → puHold σ (b + 8) (puSrt s g t) → σ b 4 = ((puSrt s g t).length : Int) → (∀ k, k ≠ b → k ≠ b + 8 → σ k = σ0 k) → (∀ i, i ≠ 4 → σ b i = σ0 b i) → puP (DX0_gather_L7 b p1 g f (t : Int) σ) (fun σ' => puHold σ' (b + 8) (puSort s g) ∧ σ' b 4 = ((puSort s g).length : Int) ∧ (∀ k, k ≠ b → k ≠ b + 8 → σ' k = σ0 k) ∧ (∀ i, i ≠ 4 → σ' b i = σ0 b i)) := by
  have hn := ho.tasks
  intro f
  induction f with
  | zero => intro t σ h; omega
  | succ f ih =>
    intro t σ hf htn hp hh hc hK hI
    rw [DX0_gather_L7, pu_tasks hp, Option.bind_some]
    refine pu_if ⟨by omega, by omega⟩ ⟨by omega, by omega⟩ (fun ht => ?_) (fun ht => ?_)
    · have hgt := ho.g ht
      rw [pu_group ho hp ht, Option.bind_some]
      have e1 : ((t : Int) + 1) = ((t + 1 : Nat) : Int) := by omega
      refine pu_if ⟨by omega, by omega⟩ ⟨by omega, by omega⟩ (fun hc1 => ?_) (fun hc1 => ?_)
      · have hlen := puSrt_len (s := s) (g := g) t
        have h24 := ho.t24 ht
        refine pu_b (pu_insert ho hb ht (l := puSrt s g t) (by omega) (puSrt_pw t) (fun u hu => by
          have := ((puSrt_mem t u).mp hu).1
          omega) hp hh hc) (fun σ1 h1 => ?_)
        obtain ⟨a1, a2, a3⟩ := h1
        unfold DX0_gather_J30
        rw [e1]
        have eS : puSrt s g (t + 1) = puIns s t (puSrt s g t) := by
          show (if s (5 + 3 * t) = g then _ else _) = _
          rw [if_pos hc1]
        refine ih (t + 1) σ1 (by omega) (by omega) (hp.same (fun k h1 h2 => a2 k (by omega) (by omega))) (by rw [eS]; exact a1) ?_ (fun k h1 h2 => by rw [a2 k h1 h2, hK k h1 h2]) (fun i hi => by rw [a3, pu_upI hi, hI i hi])
        rw [eS, puIns_len, a3, pu_upE, hc]
        omega
      · unfold DX0_gather_J30
        rw [e1]
        have eS : puSrt s g (t + 1) = puSrt s g t := by
          show (if s (5 + 3 * t) = g then _ else _) = _
          rw [if_neg hc1]
        exact ih (t + 1) σ (by omega) (by omega) hp (by rw [eS]; exact hh) (by rw [eS]; exact hc) hK hI
    · have e : t = (s 4).toNat := by omega
      subst e
      exact pu_some ⟨hh, hc, hK, hI⟩
theorem pu_gather {σ : gSt} {b p1 : Nat} {s : Nat → Int} (ho : puOk s) (hb : p1 + 12 < b) {g : Int} (hg : 0 ≤ g ∧ g ≤ 5) (hp : puPl σ p1 s) : puP (DX0_gather b p1 σ g) (fun σ' => puHold σ' (b + 8) (puSort s g) ∧ σ' b 4 = ((puSort s g).length : Int) ∧ (∀ k, k ≠ b → k ≠ b + 8 → σ' k = σ k) ∧ (∀ i, i ≠ 4 → σ' b i = σ b i)) := by
  have hn := ho.tasks
  unfold DX0_gather
  refine pu_gather_L ho hb g hg gFuel 0 _ (by rw [gFuel_eq]; omega) (by omega) (hp.same (fun k h1 h2 => pu_upK (by omega))) (fun i u hi => by cases hi) (pu_upE _ _ _ _) (fun k h1 h2 => pu_upK h1) (fun i hi => pu_upI hi)
/-- what next looks for -/
def puLater (s : Nat → Int) (before : Int) (t : Nat) : Prop := before = -1 ∨ ∃ u : Nat, before = (u : Int) ∧ puLt s u t
def puNx (s : Nat → Int) (g : Int) (before : Int) (t : Nat) : Prop := s (5 + 3 * t) = g ∧ puLater s before t
def puBest (s : Nat → Int) (g : Int) (before : Int) (n : Nat) (r : Int) : Prop := (r = -1 ∧ ∀ t, t < n → ¬ puNx s g before t) ∨ ∃ m : Nat, r = (m : Int) ∧ m < n ∧ puNx s g before m ∧ ∀ t, t < n → puNx s g before t → t = m ∨ puLt s m t
