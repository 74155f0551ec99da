/-! what holds between two calls -/
def puHis (σ : gSt) : Prop := ∃ (nx c : Nat) (p : Nat → Nat → Int), nx < 4 ∧ c ≤ 4 ∧ σ 27 1 = (nx : Int) ∧ σ 27 2 = (c : Int) ∧ σ 136 3 = (c : Int) ∧ ∀ k : Nat, k < c → puOk (p k) ∧ puPl σ (29 + 13 * ((nx + 4 - c + k) % 4)) (p k) ∧ ∀ i : Nat, i < 138 → σ 138 (138 * k + i) = p k i
def puTx (σ : gSt) : Prop := ∃ n : Nat, n ≤ 150 ∧ σ 81 1 = (n : Int) ∧ σ 136 5 = (n : Int) ∧ ∀ i : Nat, i < n → σ 83 i = σ 140 i ∧ 0 ≤ σ 140 i ∧ σ 140 i ≤ 127
def puInv (σ : gSt) : Prop := puOk (σ 137) ∧ puCV σ (σ 137) ∧ puHis σ ∧ puTx σ
theorem puHis.same {σ σ' : gSt} (h : puHis σ) (hk : ∀ k, (27 ≤ k ∧ k ≤ 80) ∨ k = 138 → σ' k = σ k) (h3 : σ' 136 3 = σ 136 3) : puHis σ' := by
  obtain ⟨nx, c, p, h1, h2, h4, h5, h6, h7⟩ := h
  refine ⟨nx, c, p, h1, h2, by rw [hk 27 (by omega), h4], by rw [hk 27 (by omega), h5], by rw [h3, h6], fun k hkc => ?_⟩
  obtain ⟨g1, g2, g3⟩ := h7 k hkc
  refine ⟨g1, g2.same (fun q q1 q2 => hk q (by omega)), fun i hi => ?_⟩
  rw [hk 138 (by omega)]
  exact g3 i hi
theorem puTx.same {σ σ' : gSt} (h : puTx σ) (hk : ∀ k, k = 81 ∨ k = 83 ∨ k = 140 → σ' k = σ k) (h5 : σ' 136 5 = σ 136 5) : puTx σ' := by
  obtain ⟨n, h1, h2, h3, h4⟩ := h
  refine ⟨n, h1, by rw [hk 81 (by omega), h2], by rw [h5, h3], fun i hi => ?_⟩
  rw [hk 83 (by omega), hk 140 (by omega)]
  exact h4 i hi
theorem puInv.same {σ σ' : gSt} (h : puInv σ) (hk : ∀ k, (1 ≤ k ∧ k ≤ 83) ∨ (87 ≤ k ∧ k ≤ 117) ∨ k = 137 ∨ k = 138 ∨ k = 140 → σ' k = σ k) (h3 : σ' 136 3 = σ 136 3) (h5 : σ' 136 5 = σ 136 5) : puInv σ' := by
  obtain ⟨g1, g2, g3, g4⟩ := h
  have e : σ' 137 = σ 137 := hk 137 (by omega)
  refine ⟨by rw [e]; exact g1, ?_, g3.same (fun k q => hk k (by omega)) h3, g4.same (fun k q => hk k (by omega)) h5⟩
  rw [e]
  exact g2.same (fun k q => hk k (by omega))
theorem puInv.pf {σ σ1 : gSt} (h : puInv σ) (hf : puPF σ σ1) (c : Int) : puInv (gUp σ1 136 6 c) :=
  h.same (fun k q => by rw [pu_upK (by omega)]; exact hf.1 k (by omega) (by omega) (by omega) (by omega) (by omega) (by omega)) (by rw [pu_upI (by decide)]; exact hf.2 3 (by decide) (by decide) (by decide)) (by rw [pu_upI (by decide)]; exact hf.2 5 (by decide) (by decide) (by decide))
theorem puPF.rf {σ : gSt} : puPF σ σ := ⟨fun _ _ _ _ _ _ _ => rfl, fun _ _ _ _ => rfl⟩
theorem puInv.six {σ : gSt} (h : puInv σ) (c : Int) : puInv (gUp σ 136 6 c) := h.pf puPF.rf c
/-- class and reference answer alike: both tell, or both refuse at the same place -/
def puAns (hs : List (Nat × Int)) (x : Option (Nat ⊕ Int)) (y : Option (Int × gSt)) (Q : gSt → Prop) : Prop := ∃ σ', Q σ' ∧ ((∃ v, x = some (.inr v) ∧ y = some (v, σ') ∧ σ' 136 6 = 0) ∨ ∃ (k : Nat) (c r : Int), x = some (.inl k) ∧ gHd hs k = some c ∧ (c = 1 ∨ c = 2 ∨ c = 3) ∧ y = some (r, σ') ∧ σ' 136 6 = c)
theorem puAns.ok {hs : List (Nat × Int)} {x : Option (Nat ⊕ Int)} {y : Option (Int × gSt)} {Q : gSt → Prop} {v : Int} {σ1 : gSt} (hQ : Q (gUp σ1 136 6 0)) (hx : x = some (.inr v)) (hy : y = some (v, gUp σ1 136 6 0)) : puAns hs x y Q := ⟨_, hQ, Or.inl ⟨v, hx, hy, pu_upE _ _ _ _⟩⟩
theorem puAns.no {hs : List (Nat × Int)} {x : Option (Nat ⊕ Int)} {y : Option (Int × gSt)} {Q : gSt → Prop} {k : Nat} {c r : Int} {σ1 : gSt} (hQ : Q (gUp σ1 136 6 c)) (hx : x = some (.inl k)) (hk : gHd hs k = some c) (hc : c = 1 ∨ c = 2 ∨ c = 3) (hy : y = some (r, gUp σ1 136 6 c)) : puAns hs x y Q := ⟨_, hQ, Or.inr ⟨k, c, r, hx, hk, hc, hy, pu_upE _ _ _ _⟩⟩
/-- refusals of the class -/
theorem pu_reqTask {σ : gSt} {s : Nat → Int} (ho : puOk s) (hp : puPl σ 1 s) {v : Int} (h1 : gR v) : DX8_requireTask σ v = some (if 0 ≤ v ∧ v < s 4 then .inr () else .inl 3) := by
  unfold DX8_requireTask
  rw [pu_hasTask hp ho h1, Option.bind_some]
  by_cases e : 0 ≤ v ∧ v < s 4
  · rw [if_pos e, if_pos e, pu_ifF (by decide) (by decide) (by decide)]
  · rw [if_neg e, if_neg e, pu_ifT (by decide) (by decide) rfl]
theorem pu_reqArrow {σ : gSt} {s : Nat → Int} (ho : puOk s) (hp : puPl σ 1 s) {v : Int} (h1 : gR v) : DX8_requireArrow σ v = some (if 0 ≤ v ∧ v < s 77 then .inr () else .inl 3) := by
  unfold DX8_requireArrow
  rw [pu_hasArrow hp ho h1, Option.bind_some]
  by_cases e : 0 ≤ v ∧ v < s 77
  · rw [if_pos e, if_pos e, pu_ifF (by decide) (by decide) (by decide)]
  · rw [if_neg e, if_neg e, pu_ifT (by decide) (by decide) rfl]
theorem pu_reqBand {σ : gSt} {s : Nat → Int} (ho : puOk s) (h : puCV σ s) {v : Int} (h1 : gR v) : DX8_requireBand σ v = some (if 0 ≤ v ∧ v < (puBands s (s 0).toNat : Int) then .inr () else .inl 3) := by
  have hR := ho.rows
  have hb := puBands_le (R := (s 0).toNat) ho (by omega)
  unfold DX8_requireBand DX0_count
  rw [Option.bind_some, h.2.1.1, pu_ite h1 (by decide), pu_ite h1 ⟨by omega, by omega⟩]
  unfold DX8_requireBand_J15
  by_cases a : v < 0
  · rw [if_pos a, if_neg (by omega)]
  · rw [if_neg a]
    by_cases c : v < (puBands s (s 0).toNat : Int)
    · rw [if_pos c, if_pos (by omega)]
    · rw [if_neg c, if_neg (by omega)]
theorem pu_reqRow {σ : gSt} {s : Nat → Int} (ho : puOk s) (hp : puPl σ 1 s) {v : Int} (h1 : gR v) : DX8_requireRow σ v = some (if 0 ≤ v ∧ v < s 0 then .inr () else .inl 3) := by
  have hR := ho.rows
  unfold DX8_requireRow
  rw [pu_set0 hp, Option.bind_some, pu_ite h1 (by decide), pu_ite h1 ⟨by omega, by omega⟩]
  unfold DX8_requireRow_J16
  by_cases a : v < 0
  · rw [if_pos a, if_neg (by omega)]
  · rw [if_neg a]
    by_cases c : v < s 0
    · rw [if_pos c, if_pos (by omega)]
    · rw [if_neg c, if_neg (by omega)]
theorem pu_xbR {α β : Type} (a : α) (f : α → Option (Nat ⊕ β)) : gXb (some (.inr a)) f = f a := rfl
theorem pu_xbL {α β : Type} (k : Nat) (f : α → Option (Nat ⊕ β)) : gXb (some (.inl k)) f = some (.inl k) := rfl
