/-! the law's cases part, arrow, arrowOf, taskAt -/
theorem pu_14 {σ : gSt} {μ : gLg} (xs : Nat → Int32) (j : Nat) (hI : puInv σ) : puP (DL_c14 xs j σ μ) (fun r => puInv r.1) := by
  unfold DL_c14
  refine pu_stepP ?_
  have hx := gR_x (xs (Int.toNat ((4 * (j : Int)) + (1 : Int))))
  have hy := gR_x (xs (Int.toNat ((4 * (j : Int)) + (2 : Int))))
  generalize (xs (Int.toNat ((4 * (j : Int)) + (1 : Int)))).toInt = v at hx ⊢
  generalize (xs (Int.toNat ((4 * (j : Int)) + (2 : Int)))).toInt = w at hy ⊢
  unfold DX8_arrow DX8_arrow_J15 DX9_arrow
  rw [pu_reqArrow hI.1 hI.2.1.1 hx, pu_isArrow hI.1 hx, Option.bind_some]
  by_cases c : 0 ≤ v ∧ v < σ 137 77
  · rw [if_pos c, if_pos c, pu_xbR]
    by_cases c2 : 0 ≤ w ∧ w ≤ 5
    · obtain ⟨t, rfl⟩ : ∃ t : Nat, v = (t : Int) := ⟨v.toNat, by omega⟩
      obtain ⟨u, rfl⟩ : ∃ u : Nat, w = (u : Int) := ⟨w.toNat, by omega⟩
      obtain ⟨σ1, e1, h1, h2⟩ := pu_prints (σ := σ) hI.1
      refine puAns.ok (v := puAA (σ 137) t u) (hI.pf h2 0) ?_ ?_
      · rw [pu_ifF hy (by decide) (by omega), pu_ifT hy (by decide) (by omega), pu_aA_C hI.1 hI.2.1 c.2 (by omega)]; rfl
      · rw [pu_ifF (by decide) (by decide) (by decide), pu_in hy (by decide) (by decide), Option.bind_some, if_pos c2, pu_ifF (by decide) (by decide) (by decide), e1, Option.bind_some, pu_aA_R hI.1 h1 c.2 (by omega)]; rfl
    · refine puAns.no (hI.six 2) (k := 1) (r := 0) ?_ rfl (Or.inr (Or.inl rfl)) ?_
      · by_cases c1 : w < 0
        · rw [pu_ifT hy (by decide) c1]
        · rw [pu_ifF hy (by decide) c1, pu_ifF hy (by decide) (by omega)]
      · rw [pu_ifF (by decide) (by decide) (by decide), pu_in hy (by decide) (by decide), Option.bind_some, if_neg c2, pu_ifT (by decide) (by decide) rfl]; rfl
  · rw [if_neg c, if_neg c, pu_xbL]
    refine puAns.no (hI.six 1) (r := 0) rfl rfl (Or.inl rfl) ?_
    rw [pu_ifT (by decide) (by decide) rfl]; rfl
/-! part: first and last day on a strip -/
theorem puMul {S T D : Int} (h : S ≤ T) (hD : 0 ≤ D) : S * D ≤ T * D := Int.mul_le_mul_of_nonneg_right h hD
def puFrD (s : Nat → Int) (t p : Nat) : Int := if p = 0 then s (6 + 3 * t) else ((puF s (s 1) t : Int) + (p : Int)) * s 1
def puToD (s : Nat → Int) (t p : Nat) : Int := if puF s (s 1) t + p = puT s (s 1) t then puLast s t else ((puF s (s 1) t : Int) + (p : Int)) * s 1 + s 1 - 1
theorem puPart {s : Nat → Int} (ho : puOk s) {t p : Nat} (ht : (t : Int) < s 4) (hp : puF s (s 1) t + p ≤ puT s (s 1) t) : (0 ≤ ((puF s (s 1) t : Int) + (p : Int)) * s 1 ∧ ((puF s (s 1) t : Int) + (p : Int)) * s 1 ≤ 258) ∧ max (s (6 + 3 * t)) (((puF s (s 1) t : Int) + (p : Int)) * s 1) = puFrD s t p ∧ min (puLast s t) ((((puF s (s 1) t : Int) + (p : Int)) * s 1 + s 1) - 1) = puToD s t p ∧ puFrD s t p % s 1 = puFrD s t p - ((puF s (s 1) t : Int) + (p : Int)) * s 1 ∧ 0 ≤ puFrD s t p ∧ puFrD s t p ≤ 258 := by
  have hD := ho.days
  have l1 := ho.last ht
  have l2 := ho.f ht
  have e1 := puF_e ho hD ht
  have e2 := puT_e ho hD ht
  have w1 := Int.mul_ediv_add_emod (s (6 + 3 * t)) (s 1)
  have w2 := Int.emod_nonneg (s (6 + 3 * t)) (show s 1 ≠ 0 by omega)
  have w3 := Int.emod_lt_of_pos (s (6 + 3 * t)) (show 0 < s 1 by omega)
  have v1 := Int.mul_ediv_add_emod (puLast s t) (s 1)
  have v2 := Int.emod_nonneg (puLast s t) (show s 1 ≠ 0 by omega)
  have v3 := Int.emod_lt_of_pos (puLast s t) (show 0 < s 1 by omega)
  rw [e1, Int.mul_comm] at w1
  rw [e2, Int.mul_comm] at v1
  have m1 := puMul (S := (puF s (s 1) t : Int)) (T := (puF s (s 1) t : Int) + (p : Int)) (D := s 1) (by omega) (by omega)
  have m2 := puMul (S := (puF s (s 1) t : Int) + (p : Int)) (T := (puT s (s 1) t : Int)) (D := s 1) (by omega) (by omega)
  have m0 : 0 ≤ (puF s (s 1) t : Int) * s 1 := Int.mul_nonneg (by omega) (by omega)
  have hmod : ((puF s (s 1) t : Int) + (p : Int)) * s 1 % s 1 = 0 := Int.mul_emod_left _ _
  have hA : p ≠ 0 → (puF s (s 1) t : Int) * s 1 + s 1 ≤ ((puF s (s 1) t : Int) + (p : Int)) * s 1 := fun h => by
    have := puMul (S := (puF s (s 1) t : Int) + 1) (T := (puF s (s 1) t : Int) + (p : Int)) (D := s 1) (by omega) (by omega)
    rw [Int.add_mul, Int.one_mul] at this
    exact this
  have hB : puF s (s 1) t + p ≠ puT s (s 1) t → ((puF s (s 1) t : Int) + (p : Int)) * s 1 + s 1 ≤ (puT s (s 1) t : Int) * s 1 := fun h => by
    have := puMul (S := (puF s (s 1) t : Int) + (p : Int) + 1) (T := (puT s (s 1) t : Int)) (D := s 1) (by omega) (by omega)
    rw [Int.add_mul ((puF s (s 1) t : Int) + (p : Int)), Int.one_mul] at this
    exact this
  have hC : puF s (s 1) t + p = puT s (s 1) t → ((puF s (s 1) t : Int) + (p : Int)) * s 1 = (puT s (s 1) t : Int) * s 1 := fun h => by
    rw [show (puF s (s 1) t : Int) + (p : Int) = (puT s (s 1) t : Int) by omega]
  have hZ : p = 0 → ((puF s (s 1) t : Int) + (p : Int)) * s 1 = (puF s (s 1) t : Int) * s 1 := fun h => by
    rw [show (puF s (s 1) t : Int) + (p : Int) = (puF s (s 1) t : Int) by omega]
  unfold puFrD puToD
  generalize ((puF s (s 1) t : Int) + (p : Int)) * s 1 = X at *
  generalize (puF s (s 1) t : Int) * s 1 = Y at *
  generalize (puT s (s 1) t : Int) * s 1 = Z at *
  refine ⟨by omega, ?_, ?_, ?_, ?_⟩
  · by_cases h : p = 0
    · rw [if_pos h]
      have := hZ h
      omega
    · rw [if_neg h]
      have := hA h
      omega
  · by_cases h : puF s (s 1) t + p = puT s (s 1) t
    · rw [if_pos h]
      have := hC h
      omega
    · rw [if_neg h]
      have := hB h
      omega
  · by_cases h : p = 0
    · rw [if_pos h]
      have := hZ h
      omega
    · rw [if_neg h, hmod]
      omega
  · by_cases h : p = 0
    · rw [if_pos h]
      omega
    · rw [if_neg h]
      omega
def puPA (s : Nat → Int) (t p : Nat) : Nat → Int
  | 0 => puNo s (s 0).toNat (s 1) (52 * puBand s (s 0).toNat t + (puF s (s 1) t + p))
  | 1 => puFrD s t p - ((puF s (s 1) t : Int) + (p : Int)) * s 1
  | 2 => (puToD s t p - puFrD s t p) + 1
  | 3 => if p = 0 then -1 else puNo s (s 0).toNat (s 1) (52 * puBand s (s 0).toNat t + (puF s (s 1) t + p - 1))
  | _ => if puF s (s 1) t + p = puT s (s 1) t then -1 else puNo s (s 0).toNat (s 1) (52 * puBand s (s 0).toNat t + (puF s (s 1) t + p + 1))
theorem pu_pA_C {σ : gSt} {s : Nat → Int} (ho : puOk s) (h : puCV σ s) {t p w : Nat} (ht : (t : Int) < s 4) (hp : puF s (s 1) t + p ≤ puT s (s 1) t) (hw : w < 5) : DX8_numberOfPart σ (t : Int) (p : Int) (w : Int) = some (puPA s t p w) := by
  have hR := ho.rows
  have hD := ho.days
  have l1 := ho.last ht
  have l2 := ho.f ht
  obtain ⟨g1, g2, g3, g4, g5⟩ := puPart ho ht hp
  have hft := puFT ho hD ht
  have hb := puBand_lt (R := (s 0).toNat) ho (by omega) ht
  unfold DX8_numberOfPart
  rw [pu_bandOfC ho h.2.1 ht, Option.bind_some, pu_set1 h.1, Option.bind_some, pu_first ho h.1 ht, Option.bind_some, pu_strip (by omega) (by omega) (by omega) (by omega), Option.bind_some, Option.bind_some, puF_e ho hD ht, pu_last ho h.1 ht, pu_rr ⟨by omega, by omega⟩ ⟨by omega, by omega⟩, Option.bind_some, pu_rr ⟨by omega, by omega⟩ ⟨by omega, by omega⟩, g2, g3]
  rcases (show w = 0 ∨ w = 1 ∨ w = 2 ∨ w = 3 ∨ w = 4 by omega) with rfl | rfl | rfl | rfl | rfl
  · rw [pu_ifT (by decide) (by decide) (by decide), show ((puF s (s 1) t : Int) + (p : Int)) = ((puF s (s 1) t + p : Nat) : Int) by omega, pu_numberAt ho (by omega) h.2.2.1 hb (by omega)]; rfl
  · rw [pu_ifF (by decide) (by decide) (by decide), pu_ifT (by decide) (by decide) (by decide)]; rfl
  · rw [pu_ifF (by decide) (by decide) (by decide), pu_ifF (by decide) (by decide) (by decide), pu_ifT (by decide) (by decide) (by decide)]; rfl
  · rw [pu_ifF (by decide) (by decide) (by decide), pu_ifF (by decide) (by decide) (by decide), pu_ifF (by decide) (by decide) (by decide), pu_ifT (by decide) (by decide) (by decide)]
    show _ = some (if p = 0 then -1 else puNo s (s 0).toNat (s 1) (52 * puBand s (s 0).toNat t + (puF s (s 1) t + p - 1)))
    by_cases c : p = 0
    · rw [if_pos c, pu_ifT ⟨by omega, by omega⟩ (by decide) (by omega)]
    · rw [if_neg c, pu_ifF ⟨by omega, by omega⟩ (by decide) (by omega), show ((puF s (s 1) t : Int) + (p : Int) - 1) = ((puF s (s 1) t + p - 1 : Nat) : Int) by omega, pu_numberAt ho (by omega) h.2.2.1 hb (by omega)]; rfl
  · rw [pu_ifF (by decide) (by decide) (by decide), pu_ifF (by decide) (by decide) (by decide), pu_ifF (by decide) (by decide) (by decide), pu_ifF (by decide) (by decide) (by decide), pu_partsC ho h.1 ht, Option.bind_some]
    show _ = some (if puF s (s 1) t + p = puT s (s 1) t then -1 else puNo s (s 0).toNat (s 1) (52 * puBand s (s 0).toNat t + (puF s (s 1) t + p + 1)))
    by_cases c : puF s (s 1) t + p = puT s (s 1) t
    · rw [if_pos c, pu_ifT ⟨by omega, by omega⟩ ⟨by omega, by omega⟩ (by omega)]
    · rw [if_neg c, pu_ifF ⟨by omega, by omega⟩ ⟨by omega, by omega⟩ (by omega), show ((puF s (s 1) t : Int) + (p : Int) + 1) = ((puF s (s 1) t + p + 1 : Nat) : Int) by omega, pu_numberAt ho (by omega) h.2.2.1 hb (by omega)]; rfl
theorem pu_pA_R111 {σ : gSt} {s : Nat → Int} (ho : puOk s) (h : puRV σ s (s 0).toNat (s 1)) {t p w : Nat} (ht : (t : Int) < s 4) (hp : puF s (s 1) t + p ≤ puT s (s 1) t) (hw : w < 5) : DX9_part_J111 (t : Int) (p : Int) (w : Int) σ (s (6 + 3 * t)) (puFrD s t p) (puToD s t p) = some (puPA s t p w, gUp σ 136 6 0) := by
  have hR := ho.rows
  have hD := ho.days
  have l1 := ho.last ht
  have l2 := ho.f ht
  have h24 := ho.t24 ht
  obtain ⟨g1, g2, g3, g4, g5⟩ := puPart ho ht hp
  have hft := puFT ho hD ht
  have hb := puBand_lt (R := (s 0).toNat) ho (by omega) ht
  have hb2 := puBands_le (R := (s 0).toNat) ho (by omega)
  unfold DX9_part_J111 DX9_part_J220 DX9_part_J249
  rw [pu_gat (by omega) (by omega), Int.toNat_natCast, pu_r1 h.1, puF_e ho hD ht, (h.2.1.2.2 t ht).1]
  rcases (show w = 0 ∨ w = 1 ∨ w = 2 ∨ w = 3 ∨ w = 4 by omega) with rfl | rfl | rfl | rfl | rfl
  · rw [pu_ifT (by decide) (by decide) (by decide), pu_gat (by omega) (by omega), show Int.toNat ((52 : Int) * (puBand s (s 0).toNat t : Int) + ((puF s (s 1) t : Int) + (p : Int))) = 52 * puBand s (s 0).toNat t + (puF s (s 1) t + p) by omega, h.2.2.2.1 _ (by omega)]; rfl
  · rw [pu_ifF (by decide) (by decide) (by decide), pu_ifT (by decide) (by decide) (by decide), pu_gat (by decide) (by decide), pu_dv (by omega) (by omega) (by omega) (by omega), g4]; rfl
  · rw [pu_ifF (by decide) (by decide) (by decide), pu_ifF (by decide) (by decide) (by decide), pu_ifT (by decide) (by decide) (by decide)]; rfl
  · rw [pu_ifF (by decide) (by decide) (by decide), pu_ifF (by decide) (by decide) (by decide), pu_ifF (by decide) (by decide) (by decide), pu_ifT (by decide) (by decide) (by decide)]
    show _ = some (if p = 0 then -1 else puNo s (s 0).toNat (s 1) (52 * puBand s (s 0).toNat t + (puF s (s 1) t + p - 1)), gUp σ 136 6 0)
    by_cases c : p = 0
    · rw [if_pos c, pu_ifT ⟨by omega, by omega⟩ (by decide) (by omega)]; rfl
    · rw [if_neg c, pu_ifF ⟨by omega, by omega⟩ (by decide) (by omega), pu_gat (by omega) (by omega), show Int.toNat ((52 : Int) * (puBand s (s 0).toNat t : Int) + ((puF s (s 1) t : Int) + (p : Int)) - 1) = 52 * puBand s (s 0).toNat t + (puF s (s 1) t + p - 1) by omega, h.2.2.2.1 _ (by omega)]; rfl
  · rw [pu_ifF (by decide) (by decide) (by decide), pu_ifF (by decide) (by decide) (by decide), pu_ifF (by decide) (by decide) (by decide), pu_ifF (by decide) (by decide) (by decide), pu_ifT (by decide) (by decide) (by decide), pu_rparts ho h.1 ht, Option.bind_some]
    show _ = some (if puF s (s 1) t + p = puT s (s 1) t then -1 else puNo s (s 0).toNat (s 1) (52 * puBand s (s 0).toNat t + (puF s (s 1) t + p + 1)), gUp σ 136 6 0)
    by_cases c : puF s (s 1) t + p = puT s (s 1) t
    · rw [if_pos c, pu_ifT ⟨by omega, by omega⟩ ⟨by omega, by omega⟩ (by omega)]; rfl
    · rw [if_neg c, pu_ifF ⟨by omega, by omega⟩ ⟨by omega, by omega⟩ (by omega), pu_gat (by omega) (by omega), show Int.toNat ((52 : Int) * (puBand s (s 0).toNat t : Int) + ((puF s (s 1) t : Int) + (p : Int)) + 1) = 52 * puBand s (s 0).toNat t + (puF s (s 1) t + p + 1) by omega, h.2.2.2.1 _ (by omega)]; rfl
theorem pu_pA_R72 {σ : gSt} {s : Nat → Int} (ho : puOk s) (hs : σ 137 = s) {t p : Nat} {w : Int} (ht : (t : Int) < s 4) (hp : puF s (s 1) t + p ≤ puT s (s 1) t) : DX9_part_J72 (t : Int) (p : Int) w σ (s (6 + 3 * t)) (puFrD s t p) = DX9_part_J111 (t : Int) (p : Int) w σ (s (6 + 3 * t)) (puFrD s t p) (puToD s t p) := by
  have hD := ho.days
  have hft := puFT ho hD ht
  unfold DX9_part_J72
  rw [pu_rparts ho hs ht, Option.bind_some]
  by_cases c : puF s (s 1) t + p = puT s (s 1) t
  · rw [pu_ifT ⟨by omega, by omega⟩ ⟨by omega, by omega⟩ (by omega), pu_rlast ho hs ht, Option.bind_some]
    unfold puToD
    rw [if_pos c]
  · rw [pu_ifF ⟨by omega, by omega⟩ ⟨by omega, by omega⟩ (by omega), pu_gat (by decide) (by decide), pu_gat (by decide) (by decide), pu_r1 hs, puF_e ho hD ht]
    unfold puToD
    rw [if_neg c]
theorem pu_13 {σ : gSt} {μ : gLg} (xs : Nat → Int32) (j : Nat) (hI : puInv σ) : puP (DL_c13 xs j σ μ) (fun r => puInv r.1) := by
  unfold DL_c13
  refine pu_stepP ?_
  have hx := gR_x (xs (Int.toNat ((4 * (j : Int)) + (1 : Int))))
  have hy := gR_x (xs (Int.toNat ((4 * (j : Int)) + (2 : Int))))
  have hz := gR_x (xs (Int.toNat ((4 * (j : Int)) + (3 : Int))))
  generalize (xs (Int.toNat ((4 * (j : Int)) + (1 : Int)))).toInt = v at hx ⊢
  generalize (xs (Int.toNat ((4 * (j : Int)) + (2 : Int)))).toInt = p at hy ⊢
  generalize (xs (Int.toNat ((4 * (j : Int)) + (3 : Int)))).toInt = w at hz ⊢
  have ho := hI.1
  have hD := ho.days
  unfold DX8_part DX8_part_J18 DX8_part_J37 DX9_part DX9_part_J23
  rw [pu_reqTask hI.1 hI.2.1.1 hx, pu_isTask hI.1 hx, Option.bind_some]
  by_cases c : 0 ≤ v ∧ v < σ 137 4
  · rw [if_pos c, if_pos c, pu_xbR]
    obtain ⟨t, rfl⟩ : ∃ t : Nat, v = (t : Int) := ⟨v.toNat, by omega⟩
    have hft := puFT ho hD c.2
    have l2 := ho.f c.2
    by_cases c2 : 0 ≤ p ∧ p ≤ (puT (σ 137) (σ 137 1) t : Int) - (puF (σ 137) (σ 137 1) t : Int)
    · obtain ⟨p, rfl⟩ : ∃ q : Nat, p = (q : Int) := ⟨p.toNat, by omega⟩
      obtain ⟨σ1, e1, h1, h2⟩ := pu_prints (σ := σ) hI.1
      have hc : gIf ((p : Int) < 0) (p : Int) 0 (some (Sum.inl 3) : Option (Nat ⊕ Int)) ((DX8_partsOf σ (t : Int)).bind fun q12 => gIf ((p : Int) < q12) (p : Int) q12 (gIf (w < 0) w 0 (some (Sum.inl 1)) (gIf (w < 5) w 5 ((DX8_numberOfPart σ (t : Int) (p : Int) w).bind fun q51 => some (Sum.inr q51)) (some (Sum.inl 1)))) (some (Sum.inl 3))) = gIf (w < 0) w 0 (some (Sum.inl 1)) (gIf (w < 5) w 5 ((DX8_numberOfPart σ (t : Int) (p : Int) w).bind fun q51 => some (Sum.inr q51)) (some (Sum.inl 1))) := by
        rw [pu_ifF hy (by decide) (by omega), pu_partsC ho hI.2.1.1 c.2, Option.bind_some, pu_ifT hy ⟨by omega, by omega⟩ (by omega)]
      have h137 := h1.1
      have hr : ∀ Z, (gIf ((1 : Int) = 0) 1 0 Z ((DX9_partsOf σ (t : Int)).bind fun q12 => (DX9_in σ (p : Int) (0 : Int) (q12 - (1 : Int))).bind fun q17 => gIf (q17 = (0 : Int)) q17 (0 : Int) Z ((DX9_prints σ).bind fun q30 => (DX9_of q30 (t : Int) (1 : Int)).bind fun q36 => gAt (1 : Int) 138 (gDv q36 (q30 137 (Int.toNat (1 : Int))) (gIf ((p : Int) = (0 : Int)) (p : Int) (0 : Int) ((DX9_of q30 (t : Int) (1 : Int)).bind fun q57 => (DX9_part_J72 (t : Int) (p : Int) w q30 q36 q57)) (gAt (1 : Int) 138 ((DX9_part_J72 (t : Int) (p : Int) w q30 q36 (((q36 / (q30 137 (Int.toNat (1 : Int)))) + (p : Int)) * (q30 137 (Int.toNat (1 : Int)))))))))))) = DX9_part_J111 (t : Int) (p : Int) w σ1 (σ 137 (6 + 3 * t)) (puFrD (σ 137) t p) (puToD (σ 137) t p) := by
        intro Z
        rw [pu_ifF (by decide) (by decide) (by decide), pu_rparts ho rfl c.2, Option.bind_some, pu_in hy (by decide) ⟨by omega, by omega⟩, Option.bind_some, if_pos (by omega), pu_ifF (by decide) (by decide) (by decide), e1, Option.bind_some, pu_rof1 ho h137 c.2, Option.bind_some, pu_gat (by decide) (by decide), pu_r1 h137, pu_dv (by omega) (by omega) (by omega) (by omega), puF_e ho hD c.2, Option.bind_some]
        have e72 := pu_pA_R72 (w := w) ho h137 c.2 (p := p) (by omega)
        rw [← e72]
        unfold puFrD
        by_cases c3 : p = 0
        · rw [if_pos c3, pu_ifT hy (by decide) (by omega)]
        · rw [if_neg c3, pu_ifF hy (by decide) (by omega), pu_gat (by decide) (by decide)]
      by_cases c4 : 0 ≤ w ∧ w ≤ 4
      · obtain ⟨u, rfl⟩ : ∃ u : Nat, w = (u : Int) := ⟨w.toNat, by omega⟩
        refine puAns.ok (v := puPA (σ 137) t p u) (hI.pf h2 0) ?_ ?_
        · refine hc.trans ?_
          rw [pu_ifF hz (by decide) (by omega), pu_ifT hz (by decide) (by omega), pu_pA_C ho hI.2.1 c.2 (by omega) (by omega)]; rfl
        · exact (hr _).trans (pu_pA_R111 ho h1 c.2 (by omega) (by omega))
      · refine puAns.no (hI.pf h2 2) (k := 1) (r := 0) ?_ rfl (Or.inr (Or.inl rfl)) ?_
        · refine hc.trans ?_
          by_cases c1 : w < 0
          · rw [pu_ifT hz (by decide) c1]
          · rw [pu_ifF hz (by decide) c1, pu_ifF hz (by decide) (by omega)]
        · refine (hr _).trans ?_
          unfold DX9_part_J111
          have h24 := ho.t24 c.2
          rw [pu_gat (by omega) (by omega), pu_ifF hz (by decide) (by omega), pu_ifF hz (by decide) (by omega), pu_ifF hz (by decide) (by omega), pu_ifF hz (by decide) (by omega), pu_ifF hz (by decide) (by omega)]; rfl
    · refine puAns.no (hI.six 1) (k := 3) (r := 0) ?_ rfl (Or.inl rfl) ?_
      · by_cases c1 : p < 0
        · rw [pu_ifT hy (by decide) c1]
        · rw [pu_ifF hy (by decide) c1, pu_partsC ho hI.2.1.1 c.2, Option.bind_some, pu_ifF hy ⟨by omega, by omega⟩ (by omega)]
      · rw [pu_ifF (by decide) (by decide) (by decide), pu_rparts ho rfl c.2, Option.bind_some, pu_in hy (by decide) ⟨by omega, by omega⟩, Option.bind_some, if_neg (by omega), pu_ifT (by decide) (by decide) rfl]; rfl
  · rw [if_neg c, if_neg c, pu_xbL]
    refine puAns.no (hI.six 1) (r := 0) rfl rfl (Or.inl rfl) ?_
    rw [pu_ifT (by decide) (by decide) rfl]; rfl
