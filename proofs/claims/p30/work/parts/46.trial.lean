/-! calls that change the state: a step of the law; sheetsWith and fewestExits -/
def puAnsS (hs : List (Nat × Int)) (σ : gSt) (x : Option (Nat ⊕ (Int × gSt))) (y : gSt → Option (Int × gSt)) (Q : gSt → Prop) : Prop := ∃ σ', Q σ' ∧ ((∃ v σ1, x = some (.inr (v, σ1)) ∧ y σ1 = some (v, σ') ∧ σ' 136 6 = 0) ∨ ∃ (k : Nat) (c r : Int), x = some (.inl k) ∧ gHd hs k = some c ∧ (c = 1 ∨ c = 2 ∨ c = 3) ∧ y σ = some (r, σ') ∧ σ' 136 6 = c)
theorem puAnsS.ok {hs : List (Nat × Int)} {σ : gSt} {x : Option (Nat ⊕ (Int × gSt))} {y : gSt → Option (Int × gSt)} {Q : gSt → Prop} {v : Int} {σ1 σ2 : gSt} (hQ : Q (gUp σ2 136 6 0)) (hx : x = some (.inr (v, σ1))) (hy : y σ1 = some (v, gUp σ2 136 6 0)) : puAnsS hs σ x y Q := ⟨_, hQ, Or.inl ⟨v, σ1, hx, hy, pu_upE _ _ _ _⟩⟩
theorem puAnsS.no {hs : List (Nat × Int)} {σ : gSt} {x : Option (Nat ⊕ (Int × gSt))} {y : gSt → Option (Int × gSt)} {Q : gSt → Prop} {k : Nat} {c r : Int} {σ1 : gSt} (hQ : Q (gUp σ1 136 6 c)) (hx : x = some (.inl k)) (hk : gHd hs k = some c) (hc : c = 1 ∨ c = 2 ∨ c = 3) (hy : y σ = some (r, gUp σ1 136 6 c)) : puAnsS hs σ x y Q := ⟨_, hQ, Or.inr ⟨k, c, r, hx, hk, hc, hy, pu_upE _ _ _ _⟩⟩
/-- a setting's range -/
def puRg (w v : Int) : Prop := (w = 0 ∧ 3 ≤ v ∧ v ≤ 20) ∨ (w = 1 ∧ 5 ≤ v ∧ v ≤ 60) ∨ (w = 2 ∧ 0 ≤ v ∧ v ≤ 1) ∨ (w = 3 ∧ 0 ≤ v ∧ v ≤ 1)
theorem pu_isSetC {σ : gSt} {w v : Int} (hw : gR w) (hv : gR v) : ∃ r, DX8_isSetting σ w v = some r ∧ ((puRg w v ∧ r = 1) ∨ (¬ puRg w v ∧ r = 0)) := by
  unfold DX8_isSetting puRg
  by_cases h0 : w < 0
  · rw [pu_ifT hw (by decide) h0, pu_bo (Or.inl rfl)]
    exact ⟨0, rfl, Or.inr ⟨by omega, rfl⟩⟩
  · rw [pu_ifF hw (by decide) h0]
    by_cases h4 : w < ((4 : Nat) : Int)
    · rw [pu_ifT hw (by decide) h4, pu_ifT hw (by decide) h4, pu_gat (by omega) h4, pu_gat (by omega) h4, pu_bo (Or.inl rfl), pu_bo (Or.inr rfl)]
      rcases (show w = 0 ∨ w = 1 ∨ w = 2 ∨ w = 3 by omega) with rfl | rfl | rfl | rfl
      · rw [show ([3, 5, 0, 0] : List Int).getD (Int.toNat 0) 0 = 3 from rfl, show ([20, 60, 1, 1] : List Int).getD (Int.toNat 0) 0 = 20 from rfl, pu_ite hv (by decide), pu_ite hv (by decide)]
        by_cases a : v < 3
        · rw [if_pos a]; exact ⟨0, rfl, Or.inr ⟨by omega, rfl⟩⟩
        · rw [if_neg a]
          by_cases c : 20 < v
          · rw [if_pos c]; exact ⟨0, rfl, Or.inr ⟨by omega, rfl⟩⟩
          · rw [if_neg c]; exact ⟨1, rfl, Or.inl ⟨by omega, rfl⟩⟩
      · rw [show ([3, 5, 0, 0] : List Int).getD (Int.toNat 1) 0 = 5 from rfl, show ([20, 60, 1, 1] : List Int).getD (Int.toNat 1) 0 = 60 from rfl, pu_ite hv (by decide), pu_ite hv (by decide)]
        by_cases a : v < 5
        · rw [if_pos a]; exact ⟨0, rfl, Or.inr ⟨by omega, rfl⟩⟩
        · rw [if_neg a]
          by_cases c : 60 < v
          · rw [if_pos c]; exact ⟨0, rfl, Or.inr ⟨by omega, rfl⟩⟩
          · rw [if_neg c]; exact ⟨1, rfl, Or.inl ⟨by omega, rfl⟩⟩
      · rw [show ([3, 5, 0, 0] : List Int).getD (Int.toNat 2) 0 = 0 from rfl, show ([20, 60, 1, 1] : List Int).getD (Int.toNat 2) 0 = 1 from rfl, pu_ite hv (by decide), pu_ite hv (by decide)]
        by_cases a : v < 0
        · rw [if_pos a]; exact ⟨0, rfl, Or.inr ⟨by omega, rfl⟩⟩
        · rw [if_neg a]
          by_cases c : 1 < v
          · rw [if_pos c]; exact ⟨0, rfl, Or.inr ⟨by omega, rfl⟩⟩
          · rw [if_neg c]; exact ⟨1, rfl, Or.inl ⟨by omega, rfl⟩⟩
      · rw [show ([3, 5, 0, 0] : List Int).getD (Int.toNat 3) 0 = 0 from rfl, show ([20, 60, 1, 1] : List Int).getD (Int.toNat 3) 0 = 1 from rfl, pu_ite hv (by decide), pu_ite hv (by decide)]
        by_cases a : v < 0
        · rw [if_pos a]; exact ⟨0, rfl, Or.inr ⟨by omega, rfl⟩⟩
        · rw [if_neg a]
          by_cases c : 1 < v
          · rw [if_pos c]; exact ⟨0, rfl, Or.inr ⟨by omega, rfl⟩⟩
          · rw [if_neg c]; exact ⟨1, rfl, Or.inl ⟨by omega, rfl⟩⟩
    · rw [pu_ifF hw (by decide) h4, pu_bo (Or.inl rfl)]
      exact ⟨0, rfl, Or.inr ⟨by omega, rfl⟩⟩
theorem pu_isSetC1 {σ : gSt} {w v : Int} (hw : gR w) (hv : gR v) (h : puRg w v) : DX8_isSetting σ w v = some 1 := by
  obtain ⟨r, e, ⟨_, rfl⟩ | ⟨h2, _⟩⟩ := pu_isSetC (σ := σ) hw hv
  · exact e
  · exact absurd h h2
theorem pu_isSetC0 {σ : gSt} {w v : Int} (hw : gR w) (hv : gR v) (h : ¬ puRg w v) : DX8_isSetting σ w v = some 0 := by
  obtain ⟨r, e, ⟨h2, _⟩ | ⟨_, rfl⟩⟩ := pu_isSetC (σ := σ) hw hv
  · exact absurd h2 h
  · exact e
/-! fewestExits -/
def puXc (s : Nat → Int) (D : Int) : Nat := puC (puEx s (s 0).toNat D) (s 77).toNat
def puFw (s : Nat → Int) : Nat → Int → Int → Int → Int
  | 0, _, _, best => best
  | k + 1, D, least, best => if (puXc s D : Int) < least then puFw s k (D + 1) (puXc s D : Int) D else puFw s k (D + 1) least best
theorem puXc_le {s : Nat → Int} (ho : puOk s) (D : Int) : puXc s D ≤ 30 := by
  have hn := ho.arrows
  have := puC_le (p := puEx s (s 0).toNat D) (s 77).toNat
  unfold puXc
  omega
theorem puFw_in {s : Nat → Int} : ∀ (k : Nat) (D least best : Int), 5 ≤ D → D + (k : Int) ≤ 61 → 5 ≤ best ∧ best ≤ 60 → 5 ≤ puFw s k D least best ∧ puFw s k D least best ≤ 60 := by
  intro k
  induction k with
  | zero => intro D least best _ _ h; exact h
  | succ k ih =>
    intro D least best h1 h2 h3
    unfold puFw
    split
    · exact ih _ _ _ (by omega) (by omega) (by omega)
    · exact ih _ _ _ (by omega) (by omega) h3
