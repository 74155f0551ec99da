/-! the law's cases part, arrow, arrowOf, taskAt -/
/-! part: first and last day on a strip -/
theorem puMul {S T D : Int} (h : S ≤ T) (hD : 0 ≤ D) : S * D ≤ T * D := Int.mul_le_mul_of_nonneg_right h hD
def puFrD (s : Nat → Int) (t p : Nat) : Int := if p = 0 then s (6 + 3 * t) else ((puF s (s 1) t : Int) + (p : Int)) * s 1
def puToD (s : Nat → Int) (t p : Nat) : Int := if puF s (s 1) t + p = puT s (s 1) t then puLast s t else ((puF s (s 1) t : Int) + (p : Int)) * s 1 + s 1 - 1
theorem puPart {s : Nat → Int} (ho : puOk s) {t p : Nat} (ht : (t : Int) < s 4) (hp : puF s (s 1) t + p ≤ puT s (s 1) t) : (0 ≤ ((puF s (s 1) t : Int) + (p : Int)) * s 1 ∧ ((puF s (s 1) t : Int) + (p : Int)) * s 1 ≤ 258) ∧ max (s (6 + 3 * t)) (((puF s (s 1) t : Int) + (p : Int)) * s 1) = puFrD s t p ∧ min (puLast s t) ((((puF s (s 1) t : Int) + (p : Int)) * s 1 + s 1) - 1) = puToD s t p ∧ puFrD s t p % s 1 = puFrD s t p - ((puF s (s 1) t : Int) + (p : Int)) * s 1 ∧ 0 ≤ puFrD s t p ∧ puFrD s t p ≤ 258 := by
  have hD := ho.days
  have l1 := ho.last ht
  have l2 := ho.f ht
  have e1 := puF_e ho hD ht
  have e2 := puT_e ho hD ht
  have w1 := Int.mul_ediv_add_emod (s (6 + 3 * t)) (s 1)
  have w2 := Int.emod_nonneg (s (6 + 3 * t)) (show s 1 ≠ 0 by omega)
  have w3 := Int.emod_lt_of_pos (s (6 + 3 * t)) (show 0 < s 1 by omega)
  have v1 := Int.mul_ediv_add_emod (puLast s t) (s 1)
  have v2 := Int.emod_nonneg (puLast s t) (show s 1 ≠ 0 by omega)
  have v3 := Int.emod_lt_of_pos (puLast s t) (show 0 < s 1 by omega)
  rw [e1, Int.mul_comm] at w1
  rw [e2, Int.mul_comm] at v1
  have m1 := puMul (S := (puF s (s 1) t : Int)) (T := (puF s (s 1) t : Int) + (p : Int)) (D := s 1) (by omega) (by omega)
  have m2 := puMul (S := (puF s (s 1) t : Int) + (p : Int)) (T := (puT s (s 1) t : Int)) (D := s 1) (by omega) (by omega)
  have m0 : 0 ≤ (puF s (s 1) t : Int) * s 1 := Int.mul_nonneg (by omega) (by omega)
  have hmod : ((puF s (s 1) t : Int) + (p : Int)) * s 1 % s 1 = 0 := Int.mul_emod_left _ _
  have hA : p ≠ 0 → (puF s (s 1) t : Int) * s 1 + s 1 ≤ ((puF s (s 1) t : Int) + (p : Int)) * s 1 := fun h => by
    have := puMul (S := (puF s (s 1) t : Int) + 1) (T := (puF s (s 1) t : Int) + (p : Int)) (D := s 1) (by omega) (by omega)
    rw [Int.add_mul, Int.one_mul] at this
    exact this
  have hB : puF s (s 1) t + p ≠ puT s (s 1) t → ((puF s (s 1) t : Int) + (p : Int)) * s 1 + s 1 ≤ (puT s (s 1) t : Int) * s 1 := fun h => by
    have := puMul (S := (puF s (s 1) t : Int) + (p : Int) + 1) (T := (puT s (s 1) t : Int)) (D := s 1) (by omega) (by omega)
    rw [Int.add_mul ((puF s (s 1) t : Int) + (p : Int)), Int.one_mul] at this
    exact this
  have hC : puF s (s 1) t + p = puT s (s 1) t → ((puF s (s 1) t : Int) + (p : Int)) * s 1 = (puT s (s 1) t : Int) * s 1 := fun h => by
    rw [show (puF s (s 1) t : Int) + (p : Int) = (puT s (s 1) t : Int) by omega]
  have hZ : p = 0 → ((puF s (s 1) t : Int) + (p : Int)) * s 1 = (puF s (s 1) t : Int) * s 1 := fun h => by
    rw [show (puF s (s 1) t : Int) + (p : Int) = (puF s (s 1) t : Int) by omega]
  unfold puFrD puToD
  generalize ((puF s (s 1) t : Int) + (p : Int)) * s 1 = X at *
  generalize (puF s (s 1) t : Int) * s 1 = Y at *
  generalize (puT s (s 1) t : Int) * s 1 = Z at *
  refine ⟨by omega, ?_, ?_, ?_, ?_⟩
  · by_cases h : p = 0
    · rw [if_pos h]
      have := hZ h
      omega
    · rw [if_neg h]
      have := hA h
      omega
  · by_cases h : puF s (s 1) t + p = puT s (s 1) t
    · rw [if_pos h]
      have := hC h
      omega
    · rw [if_neg h]
      have := hB h
      omega
  · by_cases h : p = 0
    · rw [if_pos h]
      have := hZ h
      omega
    · rw [if_neg h, hmod]
      omega
  · by_cases h : p = 0
    · rw [if_pos h]
      omega
    · rw [if_neg h]
      omega
def puPA (s : Nat → Int) (t p : Nat) : Nat → Int
  | 0 => puNo s (s 0).toNat (s 1) (52 * puBand s (s 0).toNat t + (puF s (s 1) t + p))
  | 1 => puFrD s t p - ((puF s (s 1) t : Int) + (p : Int)) * s 1
  | 2 => (puToD s t p - puFrD s t p) + 1
  | 3 => if p = 0 then -1 else puNo s (s 0).toNat (s 1) (52 * puBand s (s 0).toNat t + (puF s (s 1) t + p - 1))
  | _ => if puF s (s 1) t + p = puT s (s 1) t then -1 else puNo s (s 0).toNat (s 1) (52 * puBand s (s 0).toNat t + (puF s (s 1) t + p + 1))
theorem pu_pA_C {σ : gSt} {s : Nat → Int} (ho : puOk s) (h : puCV σ s) {t p w : Nat} (ht : (t : Int) < s 4) (hp : puF s (s 1) t + p ≤ puT s (s 1) t) (hw : w < 5) : DX8_numberOfPart σ (t : Int) (p : Int) (w : Int) = some (puPA s t p w) := by
  have hR := ho.rows
  have hD := ho.days
  have l1 := ho.last ht
  have l2 := ho.f ht
  obtain ⟨g1, g2, g3, g4, g5⟩ := puPart ho ht hp
  have hft := puFT ho hD ht
  have hb := puBand_lt (R := (s 0).toNat) ho (by omega) ht
  unfold DX8_numberOfPart
  rw [pu_bandOfC ho h.2.1 ht, Option.bind_some, pu_set1 h.1, Option.bind_some, pu_first ho h.1 ht, Option.bind_some, pu_strip (by omega) (by omega) (by omega) (by omega), Option.bind_some, Option.bind_some, puF_e ho hD ht, pu_last ho h.1 ht, pu_rr ⟨by omega, by omega⟩ ⟨by omega, by omega⟩, Option.bind_some, pu_rr ⟨by omega, by omega⟩ ⟨by omega, by omega⟩, g2, g3]
  rcases (show w = 0 ∨ w = 1 ∨ w = 2 ∨ w = 3 ∨ w = 4 by omega) with rfl | rfl | rfl | rfl | rfl
  · rw [pu_ifT (by decide) (by decide) (by decide), show ((puF s (s 1) t : Int) + (p : Int)) = ((puF s (s 1) t + p : Nat) : Int) by omega, pu_numberAt ho (by omega) h.2.2.1 hb (by omega)]; rfl
  · rw [pu_ifF (by decide) (by decide) (by decide), pu_ifT (by decide) (by decide) (by decide)]; rfl
  · rw [pu_ifF (by decide) (by decide) (by decide), pu_ifF (by decide) (by decide) (by decide), pu_ifT (by decide) (by decide) (by decide)]; rfl
  · rw [pu_ifF (by decide) (by decide) (by decide), pu_ifF (by decide) (by decide) (by decide), pu_ifF (by decide) (by decide) (by decide), pu_ifT (by decide) (by decide) (by decide)]
    show _ = some (if p = 0 then -1 else puNo s (s 0).toNat (s 1) (52 * puBand s (s 0).toNat t + (puF s (s 1) t + p - 1)))
    by_cases c : p = 0
    · rw [if_pos c, pu_ifT ⟨by omega, by omega⟩ (by decide) (by omega)]
    · rw [if_neg c, pu_ifF ⟨by omega, by omega⟩ (by decide) (by omega), show ((puF s (s 1) t : Int) + (p : Int) - 1) = ((puF s (s 1) t + p - 1 : Nat) : Int) by omega, pu_numberAt ho (by omega) h.2.2.1 hb (by omega)]; rfl
  · rw [pu_ifF (by decide) (by decide) (by decide), pu_ifF (by decide) (by decide) (by decide), pu_ifF (by decide) (by decide) (by decide), pu_ifF (by decide) (by decide) (by decide), pu_partsC ho h.1 ht, Option.bind_some]
    show _ = some (if puF s (s 1) t + p = puT s (s 1) t then -1 else puNo s (s 0).toNat (s 1) (52 * puBand s (s 0).toNat t + (puF s (s 1) t + p + 1)))
    by_cases c : puF s (s 1) t + p = puT s (s 1) t
    · rw [if_pos c, pu_ifT ⟨by omega, by omega⟩ ⟨by omega, by omega⟩ (by omega)]
    · rw [if_neg c, pu_ifF ⟨by omega, by omega⟩ ⟨by omega, by omega⟩ (by omega), show ((puF s (s 1) t : Int) + (p : Int) + 1) = ((puF s (s 1) t + p + 1 : Nat) : Int) by omega, pu_numberAt ho (by omega) h.2.2.1 hb (by omega)]; rfl
