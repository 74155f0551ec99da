/-! calls that change the state: a step of the law; sheetsWith and fewestExits -/
def puAnsS (hs : List (Nat × Int)) (σ : gSt) (x : Option (Nat ⊕ (Int × gSt))) (y : gSt → Option (Int × gSt)) (Q : gSt → Prop) : Prop := ∃ σ', Q σ' ∧ ((∃ v σ1, x = some (.inr (v, σ1)) ∧ y σ1 = some (v, σ') ∧ σ' 136 6 = 0) ∨ ∃ (k : Nat) (c r : Int), x = some (.inl k) ∧ gHd hs k = some c ∧ (c = 1 ∨ c = 2 ∨ c = 3) ∧ y σ = some (r, σ') ∧ σ' 136 6 = c)
theorem puAnsS.ok {hs : List (Nat × Int)} {σ : gSt} {x : Option (Nat ⊕ (Int × gSt))} {y : gSt → Option (Int × gSt)} {Q : gSt → Prop} {v : Int} {σ1 σ2 : gSt} (hQ : Q (gUp σ2 136 6 0)) (hx : x = some (.inr (v, σ1))) (hy : y σ1 = some (v, gUp σ2 136 6 0)) : puAnsS hs σ x y Q := ⟨_, hQ, Or.inl ⟨v, σ1, hx, hy, pu_upE _ _ _ _⟩⟩
theorem puAnsS.no {hs : List (Nat × Int)} {σ : gSt} {x : Option (Nat ⊕ (Int × gSt))} {y : gSt → Option (Int × gSt)} {Q : gSt → Prop} {k : Nat} {c r : Int} {σ1 : gSt} (hQ : Q (gUp σ1 136 6 c)) (hx : x = some (.inl k)) (hk : gHd hs k = some c) (hc : c = 1 ∨ c = 2 ∨ c = 3) (hy : y σ = some (r, gUp σ1 136 6 c)) : puAnsS hs σ x y Q := ⟨_, hQ, Or.inr ⟨k, c, r, hx, hk, hc, hy, pu_upE _ _ _ _⟩⟩
theorem pu_stepS {hs : List (Nat × Int)} {σ : gSt} {x : Option (Nat ⊕ (Int × gSt))} {y : gSt → Option (Int × gSt)} {Q : gSt → Prop} {μ : gLg} (h : puAnsS hs σ x y Q) : puP ((gWrS x hs σ μ).bind fun q => (y q.2.1).bind fun q2 => (DX9_thrown q2.2).bind fun q3 => gIf (q3 = q.1) q3 q.1 (gIf (q.1 = 0) q.1 0 (gEq (q.2.2 147) ((gI q2.1).toInt64) (some (q2.2, q.2.2))) (some (q2.2, q.2.2))) none) (fun r => Q r.1) := by
  obtain ⟨σ', hQ, ⟨v, σ1, rfl, hy, h6⟩ | ⟨k, c, r, rfl, hk, hc, hy, h6⟩⟩ := h
  · show puP ((y σ1).bind fun q2 => (DX9_thrown q2.2).bind fun q3 => gIf (q3 = 0) q3 0 (gIf ((0 : Int) = 0) 0 0 (gEq (gUl μ 147 ((gI v).toInt64) 147) ((gI q2.1).toInt64) (some (q2.2, gUl μ 147 ((gI v).toInt64)))) (some (q2.2, gUl μ 147 ((gI v).toInt64)))) none) _
    rw [hy]
    show puP (gIf (σ' 136 6 = 0) (σ' 136 6) 0 (gIf ((0 : Int) = 0) 0 0 (gEq (gUl μ 147 ((gI v).toInt64) 147) ((gI v).toInt64) (some (σ', gUl μ 147 ((gI v).toInt64)))) (some (σ', gUl μ 147 ((gI v).toInt64)))) none) _
    rw [h6, pu_ifT (by decide) (by decide) rfl, pu_ifT (by decide) (by decide) rfl]
    have e : gUl μ 147 ((gI v).toInt64) 147 = (gI v).toInt64 := by simp [gUl]
    unfold gEq
    rw [if_pos e]
    exact pu_some hQ
  · have e : gWrS (some (.inl k)) hs σ μ = some (c, σ, μ) := by
      show (gHd hs k).map _ = _
      rw [hk]
      rfl
    rw [e, Option.bind_some, hy]
    show puP (gIf (σ' 136 6 = c) (σ' 136 6) c (gIf (c = 0) c 0 (gEq (μ 147) ((gI r).toInt64) (some (σ', μ))) (some (σ', μ))) none) _
    have hcr : gR c := ⟨by omega, by omega⟩
    rw [h6, pu_ifT hcr hcr rfl, pu_ifF hcr (by decide) (by omega)]
    exact pu_some hQ
/-- a setting's range -/
def puRg (w v : Int) : Prop := (w = 0 ∧ 3 ≤ v ∧ v ≤ 20) ∨ (w = 1 ∧ 5 ≤ v ∧ v ≤ 60) ∨ (w = 2 ∧ 0 ≤ v ∧ v ≤ 1) ∨ (w = 3 ∧ 0 ≤ v ∧ v ≤ 1)
theorem pu_isSetC {σ : gSt} {w v : Int} (hw : gR w) (hv : gR v) : ∃ r, DX8_isSetting σ w v = some r ∧ ((puRg w v ∧ r = 1) ∨ (¬ puRg w v ∧ r = 0)) := by
  unfold DX8_isSetting puRg
  by_cases h0 : w < 0
  · rw [pu_ifT hw (by decide) h0, pu_bo (Or.inl rfl)]
    exact ⟨0, rfl, Or.inr ⟨by omega, rfl⟩⟩
  · rw [pu_ifF hw (by decide) h0]
    by_cases h4 : w < ((4 : Nat) : Int)
    · rw [pu_ifT hw (by decide) h4, pu_ifT hw (by decide) h4, pu_gat (by omega) h4, pu_gat (by omega) h4, pu_bo (Or.inl rfl), pu_bo (Or.inr rfl)]
      rcases (show w = 0 ∨ w = 1 ∨ w = 2 ∨ w = 3 by omega) with rfl | rfl | rfl | rfl
      · rw [show ([3, 5, 0, 0] : List Int).getD (Int.toNat 0) 0 = 3 from rfl, show ([20, 60, 1, 1] : List Int).getD (Int.toNat 0) 0 = 20 from rfl, pu_ite hv (by decide), pu_ite hv (by decide)]
        by_cases a : v < 3
        · rw [if_pos a]; exact ⟨0, rfl, Or.inr ⟨by omega, rfl⟩⟩
        · rw [if_neg a]
          by_cases c : 20 < v
          · rw [if_pos c]; exact ⟨0, rfl, Or.inr ⟨by omega, rfl⟩⟩
          · rw [if_neg c]; exact ⟨1, rfl, Or.inl ⟨by omega, rfl⟩⟩
      · rw [show ([3, 5, 0, 0] : List Int).getD (Int.toNat 1) 0 = 5 from rfl, show ([20, 60, 1, 1] : List Int).getD (Int.toNat 1) 0 = 60 from rfl, pu_ite hv (by decide), pu_ite hv (by decide)]
        by_cases a : v < 5
        · rw [if_pos a]; exact ⟨0, rfl, Or.inr ⟨by omega, rfl⟩⟩
        · rw [if_neg a]
          by_cases c : 60 < v
          · rw [if_pos c]; exact ⟨0, rfl, Or.inr ⟨by omega, rfl⟩⟩
          · rw [if_neg c]; exact ⟨1, rfl, Or.inl ⟨by omega, rfl⟩⟩
      · rw [show ([3, 5, 0, 0] : List Int).getD (Int.toNat 2) 0 = 0 from rfl, show ([20, 60, 1, 1] : List Int).getD (Int.toNat 2) 0 = 1 from rfl, pu_ite hv (by decide), pu_ite hv (by decide)]
        by_cases a : v < 0
        · rw [if_pos a]; exact ⟨0, rfl, Or.inr ⟨by omega, rfl⟩⟩
        · rw [if_neg a]
          by_cases c : 1 < v
          · rw [if_pos c]; exact ⟨0, rfl, Or.inr ⟨by omega, rfl⟩⟩
          · rw [if_neg c]; exact ⟨1, rfl, Or.inl ⟨by omega, rfl⟩⟩
      · rw [show ([3, 5, 0, 0] : List Int).getD (Int.toNat 3) 0 = 0 from rfl, show ([20, 60, 1, 1] : List Int).getD (Int.toNat 3) 0 = 1 from rfl, pu_ite hv (by decide), pu_ite hv (by decide)]
        by_cases a : v < 0
        · rw [if_pos a]; exact ⟨0, rfl, Or.inr ⟨by omega, rfl⟩⟩
        · rw [if_neg a]
          by_cases c : 1 < v
          · rw [if_pos c]; exact ⟨0, rfl, Or.inr ⟨by omega, rfl⟩⟩
          · rw [if_neg c]; exact ⟨1, rfl, Or.inl ⟨by omega, rfl⟩⟩
    · rw [pu_ifF hw (by decide) h4, pu_bo (Or.inl rfl)]
      exact ⟨0, rfl, Or.inr ⟨by omega, rfl⟩⟩
theorem pu_isSetR {σ : gSt} {w v : Int} (hw : gR w) (hv : gR v) : ∃ r, DX9_isSetting σ w v = some r ∧ ((puRg w v ∧ r = 1) ∨ (¬ puRg w v ∧ r = 0)) := by
  have hin : ∀ lo hi : Int, gR lo → gR hi → ((DX9_in σ v lo hi).bind fun q => gBo q (some q)) = some (if lo ≤ v ∧ v ≤ hi then 1 else 0) := fun lo hi h1 h2 => by
    rw [pu_in hv h1 h2, Option.bind_some]
    by_cases c : lo ≤ v ∧ v ≤ hi
    · rw [if_pos c, pu_bo (Or.inr rfl)]
    · rw [if_neg c, pu_bo (Or.inl rfl)]
  unfold DX9_isSetting puRg
  rw [hin 3 20 (by decide) (by decide), hin 5 60 (by decide) (by decide), hin 0 1 (by decide) (by decide), pu_bo (Or.inl rfl), pu_ite hw (by decide), pu_ite hw (by decide), pu_ite hw (by decide), pu_ite hw (by decide)]
  by_cases h0 : w = 0
  · rw [if_pos h0]
    refine ⟨_, rfl, ?_⟩
    split
    · exact Or.inl ⟨by omega, rfl⟩
    · exact Or.inr ⟨by omega, rfl⟩
  · rw [if_neg h0]
    by_cases h1 : w = 1
    · rw [if_pos h1]
      refine ⟨_, rfl, ?_⟩
      split
      · exact Or.inl ⟨by omega, rfl⟩
      · exact Or.inr ⟨by omega, rfl⟩
    · rw [if_neg h1]
      by_cases h2 : w = 2
      · rw [if_pos h2]
        refine ⟨_, rfl, ?_⟩
        split
        · exact Or.inl ⟨by omega, rfl⟩
        · exact Or.inr ⟨by omega, rfl⟩
      · rw [if_neg h2]
        by_cases h3 : w = 3
        · rw [if_pos h3]
          refine ⟨_, rfl, ?_⟩
          split
          · exact Or.inl ⟨by omega, rfl⟩
          · exact Or.inr ⟨by omega, rfl⟩
        · rw [if_neg h3]
          exact ⟨0, rfl, Or.inr ⟨by omega, rfl⟩⟩
theorem pu_isSetC1 {σ : gSt} {w v : Int} (hw : gR w) (hv : gR v) (h : puRg w v) : DX8_isSetting σ w v = some 1 := by
  obtain ⟨r, e, ⟨_, rfl⟩ | ⟨h2, _⟩⟩ := pu_isSetC (σ := σ) hw hv
  · exact e
  · exact absurd h h2
theorem pu_isSetC0 {σ : gSt} {w v : Int} (hw : gR w) (hv : gR v) (h : ¬ puRg w v) : DX8_isSetting σ w v = some 0 := by
  obtain ⟨r, e, ⟨h2, _⟩ | ⟨_, rfl⟩⟩ := pu_isSetC (σ := σ) hw hv
  · exact absurd h2 h
  · exact e
theorem pu_isSetR1 {σ : gSt} {w v : Int} (hw : gR w) (hv : gR v) (h : puRg w v) : DX9_isSetting σ w v = some 1 := by
  obtain ⟨r, e, ⟨_, rfl⟩ | ⟨h2, _⟩⟩ := pu_isSetR (σ := σ) hw hv
  · exact e
  · exact absurd h h2
theorem pu_isSetR0 {σ : gSt} {w v : Int} (hw : gR w) (hv : gR v) (h : ¬ puRg w v) : DX9_isSetting σ w v = some 0 := by
  obtain ⟨r, e, ⟨h2, _⟩ | ⟨_, rfl⟩⟩ := pu_isSetR (σ := σ) hw hv
  · exact absurd h2 h
  · exact e
theorem pu_18 {σ : gSt} {μ : gLg} (xs : Nat → Int32) (j : Nat) (hI : puInv σ) : puP (DL_c18 xs j σ μ) (fun r => puInv r.1) := by
  unfold DL_c18
  have hx := gR_x (xs (Int.toNat ((4 * (j : Int)) + (1 : Int))))
  have hy := gR_x (xs (Int.toNat ((4 * (j : Int)) + (2 : Int))))
  generalize (xs (Int.toNat ((4 * (j : Int)) + (1 : Int)))).toInt = v at hx ⊢
  generalize (xs (Int.toNat ((4 * (j : Int)) + (2 : Int)))).toInt = w at hy ⊢
  refine pu_stepS (y := fun τ => DX9_sheetsWith τ v w) ?_
  have ho := hI.1
  by_cases c : puRg 0 v
  · by_cases c2 : puRg 1 w
    · have hv : 3 ≤ v ∧ v ≤ 20 := by unfold puRg at c; omega
      have hw : 5 ≤ w ∧ w ≤ 60 := by unfold puRg at c2; omega
      obtain ⟨R, rfl⟩ : ∃ R : Nat, v = (R : Int) := ⟨v.toNat, by omega⟩
      obtain ⟨σ1, e1, h1, h2⟩ := pu_layS (σ := σ) (b := 118) (p1 := 1) (R := R) ho (by decide) (by omega) hI.2.1.1
      have hp1 : puPl σ1 1 (σ 137) := hI.2.1.1.same (fun k k1 k2 => h2 k (by omega) (by omega) (by omega) (by omega) (by omega))
      obtain ⟨σ2, e2, h3, h4⟩ := pu_print (σ := σ1) (b := 127) (p1 := 1) (p2 := 118) (R := R) (D := w) ho (by omega) hw (by decide) (by decide) hp1 h1
      have hK : ∀ k, k < 118 ∨ 135 < k → σ2 k = σ k := fun k hk => by rw [h4 k (by omega) (by omega) (by omega) (by omega) (by omega), h2 k (by omega) (by omega) (by omega) (by omega) (by omega)]
      have hI2 : puInv σ2 := hI.same (fun k hk => hK k (by omega)) (by rw [hK 136 (by omega)]) (by rw [hK 136 (by omega)])
      have e137 : σ2 137 = σ 137 := hK 137 (by omega)
      obtain ⟨σ3, e3, h5, h6, h7⟩ := pu_printsBy (σ := σ2) (R := R) (D := w) (by rw [e137]; exact ho) (by omega) hw
      refine puAnsS.ok (v := (puSheets (σ 137) R w : Int)) (σ1 := σ2) (hI2.pf h7 0) ?_ ?_
      · unfold DX8_sheetsWith DX6_count
        rw [pu_isSetC1 (by decide) hx c, Option.bind_some, pu_ifF (by decide) (by decide) (by decide), pu_isSetC1 (by decide) hy c2, Option.bind_some, pu_ifF (by decide) (by decide) (by decide), e1, Option.bind_some, e2, Option.bind_some, Option.bind_some]
        exact congrArg (fun z => some (Sum.inr (z, σ2))) h3.1
      · show DX9_sheetsWith σ2 (R : Int) w = _
        unfold DX9_sheetsWith
        rw [pu_isSetR1 (by decide) hx c, Option.bind_some, pu_ifF (by decide) (by decide) (by decide), pu_isSetR1 (by decide) hy c2, Option.bind_some, pu_ifF (by decide) (by decide) (by decide), e3, Option.bind_some, h6.1, e137]; rfl
    · refine puAnsS.no (hI.six 1) (k := 1) (r := 0) ?_ rfl (Or.inl rfl) ?_
      · unfold DX8_sheetsWith DX8_sheetsWith_J16
        rw [pu_isSetC1 (by decide) hx c, Option.bind_some, pu_ifF (by decide) (by decide) (by decide), pu_isSetC0 (by decide) hy c2, Option.bind_some, pu_ifT (by decide) (by decide) rfl]
      · show DX9_sheetsWith σ v w = _
        unfold DX9_sheetsWith DX9_sheetsWith_J16
        rw [pu_isSetR1 (by decide) hx c, Option.bind_some, pu_ifF (by decide) (by decide) (by decide), pu_isSetR0 (by decide) hy c2, Option.bind_some, pu_ifT (by decide) (by decide) rfl]; rfl
  · refine puAnsS.no (hI.six 1) (k := 1) (r := 0) ?_ rfl (Or.inl rfl) ?_
    · unfold DX8_sheetsWith DX8_sheetsWith_J16
      rw [pu_isSetC0 (by decide) hx c, Option.bind_some, pu_ifT (by decide) (by decide) rfl]
    · show DX9_sheetsWith σ v w = _
      unfold DX9_sheetsWith DX9_sheetsWith_J16
      rw [pu_isSetR0 (by decide) hx c, Option.bind_some, pu_ifT (by decide) (by decide) rfl]; rfl
/-! fewestExits -/
def puXc (s : Nat → Int) (D : Int) : Nat := puC (puEx s (s 0).toNat D) (s 77).toNat
def puFw (s : Nat → Int) : Nat → Int → Int → Int → Int
  | 0, _, _, best => best
  | k + 1, D, least, best => if (puXc s D : Int) < least then puFw s k (D + 1) (puXc s D : Int) D else puFw s k (D + 1) least best
theorem pu_exitsWith_L {σ : gSt} {s : Nat → Int} (ho : puOk s) (h : puCV σ s) {D : Int} (hD : 5 ≤ D ∧ D ≤ 60) : ∀ (f x : Nat), (s 77).toNat - x < f → (x : Int) ≤ s 77 → DX8_exitsWith_L4 σ D f (x : Int) (puC (puEx s (s 0).toNat D) x : Int) = some (puXc s D : Int) := by
  have hn := ho.arrows
  have hR := ho.rows
  have hb24 := puBands_le (R := (s 0).toNat) ho (by omega)
  intro f
  induction f with
  | zero => intro x h; omega
  | succ f ih =>
    intro x hf hx
    rw [DX8_exitsWith_L4, pu_arrows h.1, Option.bind_some]
    by_cases c : (x : Int) < s 77
    · obtain ⟨f1, f2⟩ := puFm_e ho c
      obtain ⟨t1, t2⟩ := puTo_e ho c
      have l1 := ho.last f2
      have l2 := ho.f f2
      have l3 := ho.f t2
      have w1 := puFT ho hD f2
      have w2 := puFT ho hD t2
      have b1 := puBand_lt (R := (s 0).toNat) ho (by omega) f2
      have b2 := puBand_lt (R := (s 0).toNat) ho (by omega) t2
      have hh := ih (x + 1) (by omega) (by omega)
      have hsp := puEx_spot (R := (s 0).toNat) ho (by omega) hD c
      rw [pu_ifT ⟨by omega, by omega⟩ ⟨by omega, by omega⟩ c, pu_from ho h.1 c, Option.bind_some, pu_to ho h.1 c, Option.bind_some, f1, t1, pu_last ho h.1 f2, Option.bind_some, pu_strip (by omega) (by omega) (by omega) (by omega), Option.bind_some, pu_first ho h.1 t2, Option.bind_some, pu_strip (by omega) (by omega) (by omega) (by omega), Option.bind_some, puT_e ho hD f2, puF_e ho hD t2]
      unfold DX8_exitsWith_J69 DX8_exitsWith_J97 DX8_exitsWith_J100
      have hyes : puEx s (s 0).toNat D x = true → DX8_exitsWith_L4 σ D f ((x : Int) + 1) ((puC (puEx s (s 0).toNat D) x : Int) + 1) = some (puXc s D : Int) := fun q => by
        rw [puC_T q] at hh
        rw [show ((x : Int) + 1) = ((x + 1 : Nat) : Int) by omega, show ((puC (puEx s (s 0).toNat D) x : Int) + 1) = ((puC (puEx s (s 0).toNat D) x + 1 : Nat) : Int) by omega]
        exact hh
      have hno : ¬ puEx s (s 0).toNat D x = true → DX8_exitsWith_L4 σ D f ((x : Int) + 1) (puC (puEx s (s 0).toNat D) x : Int) = some (puXc s D : Int) := fun q => by
        rw [puC_F q] at hh
        rw [show ((x : Int) + 1) = ((x + 1 : Nat) : Int) by omega]
        exact hh
      by_cases c1 : puT s D (puFm s x) = puF s D (puTo s x)
      · rw [pu_ifT ⟨by omega, by omega⟩ ⟨by omega, by omega⟩ (by omega), pu_ifF (by decide) (by decide) (by decide), pu_bandOfC ho h.2.1 f2, Option.bind_some, pu_bandOfC ho h.2.1 t2, Option.bind_some]
        by_cases c2 : puBand s (s 0).toNat (puFm s x) = puBand s (s 0).toNat (puTo s x)
        · rw [pu_ifT ⟨by omega, by omega⟩ ⟨by omega, by omega⟩ (by omega)]
          exact hno (fun q => hsp.mp q ⟨c2, c1⟩)
        · rw [pu_ifF ⟨by omega, by omega⟩ ⟨by omega, by omega⟩ (by omega)]
          exact hyes (hsp.mpr (fun q => c2 q.1))
      · rw [pu_ifF ⟨by omega, by omega⟩ ⟨by omega, by omega⟩ (by omega), pu_ifT (by decide) (by decide) rfl]
        exact hyes (hsp.mpr (fun q => c1 q.2))
    · rw [pu_ifF ⟨by omega, by omega⟩ ⟨by omega, by omega⟩ c]
      unfold puXc
      rw [show (s 77).toNat = x by omega]
theorem puXc_le {s : Nat → Int} (ho : puOk s) (D : Int) : puXc s D ≤ 30 := by
  have hn := ho.arrows
  have := puC_le (p := puEx s (s 0).toNat D) (s 77).toNat
  unfold puXc
  omega
theorem pu_exitsWith {σ : gSt} {s : Nat → Int} (ho : puOk s) (h : puCV σ s) {D : Int} (hD : 5 ≤ D ∧ D ≤ 60) : DX8_exitsWith σ D = some (puXc s D : Int) := by
  have hn := ho.arrows
  exact pu_exitsWith_L ho h hD gFuel 0 (by rw [gFuel_eq]; omega) (by omega)
theorem pu_fewC_L {σ : gSt} {s : Nat → Int} (ho : puOk s) (h : puCV σ s) : ∀ (f k : Nat) (D least best : Int), k < f → D = 61 - (k : Int) → 5 ≤ D → 0 ≤ least ∧ least ≤ 31 → DX8_fewestExits_L7 σ f D least best = some (puFw s k D least best) := by
  intro f
  induction f with
  | zero => intro k D least best h; omega
  | succ f ih =>
    intro k D least best hf hk hD hl
    have hx := puXc_le ho D
    rw [DX8_fewestExits_L7]
    cases k with
    | zero =>
      rw [pu_ifT ⟨by omega, by omega⟩ (by decide) (by omega)]
      rfl
    | succ k =>
      rw [pu_ifF ⟨by omega, by omega⟩ (by decide) (by omega), pu_exitsWith ho h (by omega), Option.bind_some]
      unfold DX8_fewestExits_J31
      show _ = some (if (puXc s D : Int) < least then puFw s k (D + 1) (puXc s D : Int) D else puFw s k (D + 1) least best)
      by_cases c : (puXc s D : Int) < least
      · rw [pu_ifT ⟨by omega, by omega⟩ ⟨by omega, by omega⟩ c, if_pos c]
        exact ih k _ _ _ (by omega) (by omega) (by omega) (by omega)
      · rw [pu_ifF ⟨by omega, by omega⟩ ⟨by omega, by omega⟩ c, if_neg c]
        exact ih k _ _ _ (by omega) (by omega) (by omega) hl
theorem pu_fewR_L29 {σ : gSt} {s : Nat → Int} (ho : puOk s) {D : Int} (hD : 5 ≤ D ∧ D ≤ 60) (h : puRV σ s (s 0).toNat D) {K : Int → Option (Int × gSt)} : ∀ (f x : Nat), (s 77).toNat - x < f → (x : Int) ≤ s 77 → DX9_fewestExits_L29 K D σ f (x : Int) (puC (puEx s (s 0).toNat D) x : Int) = K (puXc s D : Int) := by
  have hn := ho.arrows
  have hR := ho.rows
  intro f
  induction f with
  | zero => intro x h; omega
  | succ f ih =>
    intro x hf hx
    rw [DX9_fewestExits_L29, pu_gat (by decide) (by decide), pu_r77 h.1]
    by_cases c : (x : Int) < s 77
    · have hh := ih (x + 1) (by omega) (by omega)
      rw [pu_ifT ⟨by omega, by omega⟩ ⟨by omega, by omega⟩ c, pu_isExit ho (by omega) hD h c, Option.bind_some]
      unfold DX9_fewestExits_J58
      rw [show ((x : Int) + 1) = ((x + 1 : Nat) : Int) by omega]
      by_cases q : puEx s (s 0).toNat D x = true
      · rw [if_pos q, pu_ifF (by decide) (by decide) (by decide), show ((puC (puEx s (s 0).toNat D) x : Int) + 1) = ((puC (puEx s (s 0).toNat D) x + 1 : Nat) : Int) by omega]
        rw [puC_T q] at hh
        exact hh
      · rw [if_neg q, pu_ifT (by decide) (by decide) rfl, Int.add_zero]
        rw [puC_F q] at hh
        exact hh
    · rw [pu_ifF ⟨by omega, by omega⟩ ⟨by omega, by omega⟩ c]
      unfold puXc
      rw [show (s 77).toNat = x by omega]
theorem pu_fewR_L {σ0 : gSt} {s : Nat → Int} (ho : puOk s) : ∀ (f k : Nat) (D least best : Int) (σ : gSt), k < f → D = 61 - (k : Int) → 5 ≤ D → 0 ≤ least ∧ least ≤ 31 → -1 ≤ best ∧ best ≤ 60 → (best = -1 → D = 5) → (D = 5 → best = -1) → σ 137 = s → puPF σ0 σ → ∃ σ', DX9_fewestExits_L6 DX9_fewestExits_K114 f D least best σ = some (puFw s k D (if best = -1 then 31 else least) (if best = -1 then 5 else best), gUp σ' 136 6 0) ∧ puPF σ0 σ' := by
  have hR := ho.rows
  intro f
  induction f with
  | zero => intro k D least best σ h; omega
  | succ f ih =>
    intro k D least best σ hf hk hD hl hb hb5 h5b hs hF
    have hx := puXc_le ho D
    rw [DX9_fewestExits_L6]
    cases k with
    | zero =>
      rw [pu_ifT ⟨by omega, by omega⟩ (by decide) (by omega)]
      refine ⟨σ, ?_, hF⟩
      rw [if_neg (by omega), if_neg (by omega)]
      rfl
    | succ k =>
      obtain ⟨σ1, e1, h1, h2, h3⟩ := pu_printsBy (σ := σ) (R := (s 0).toNat) (D := D) (by rw [hs]; exact ho) (by omega) (by omega)
      rw [hs] at h1 h2
      have e137 : σ1 137 = s := by rw [h3.s, hs]
      rw [pu_ifF ⟨by omega, by omega⟩ (by decide) (by omega), pu_gat (by decide) (by decide), pu_r0 hs, show s 0 = (((s 0).toNat : Nat) : Int) by omega, e1, Option.bind_some, show DX9_fewestExits_L29 (DX9_fewestExits_K67 (DX9_fewestExits_L6 DX9_fewestExits_K114 f) D least best σ1) D σ1 gFuel 0 0 = _ from pu_fewR_L29 ho (by omega) ⟨e137, h1, h2⟩ gFuel 0 (by rw [gFuel_eq]; have := ho.arrows; omega) (by have := ho.arrows; omega)]
      unfold DX9_fewestExits_K67 DX9_fewestExits_J78 DX9_fewestExits_J83 DX9_fewestExits_J95 DX9_fewestExits_J107
      show ∃ σ', _ = some ((if (puXc s D : Int) < (if best = -1 then 31 else least) then puFw s k (D + 1) (puXc s D : Int) D else puFw s k (D + 1) (if best = -1 then 31 else least) (if best = -1 then 5 else best)), gUp σ' 136 6 0) ∧ _
      have hnew : ∃ σ', DX9_fewestExits_L6 DX9_fewestExits_K114 f (D + 1) (puXc s D : Int) D σ1 = some (puFw s k (D + 1) (puXc s D : Int) D, gUp σ' 136 6 0) ∧ puPF σ0 σ' := by
        have := ih k (D + 1) (puXc s D : Int) D σ1 (by omega) (by omega) (by omega) (by omega) (by omega) (by omega) (by omega) e137 (hF.trans h3)
        rwa [if_neg (by omega), if_neg (by omega)] at this
      by_cases c : best = -1
      · rw [pu_ifT ⟨by omega, by omega⟩ (by decide) c, pu_ifF (by decide) (by decide) (by decide), pu_ifF (by decide) (by decide) (by decide), if_pos c, if_pos c, if_pos (by omega)]
        exact hnew
      · rw [pu_ifF ⟨by omega, by omega⟩ (by decide) c, if_neg c, if_neg c]
        by_cases c2 : (puXc s D : Int) < least
        · rw [pu_ifT ⟨by omega, by omega⟩ ⟨by omega, by omega⟩ c2, pu_ifF (by decide) (by decide) (by decide), pu_ifF (by decide) (by decide) (by decide), if_pos c2]
          exact hnew
        · rw [pu_ifF ⟨by omega, by omega⟩ ⟨by omega, by omega⟩ c2, pu_ifT (by decide) (by decide) rfl, pu_ifT (by decide) (by decide) rfl, if_neg c2]
          have := ih k (D + 1) least best σ1 (by omega) (by omega) (by omega) hl hb (by omega) (by omega) e137 (hF.trans h3)
          rwa [if_neg c, if_neg c] at this
theorem puFw_in {s : Nat → Int} : ∀ (k : Nat) (D least best : Int), 5 ≤ D → D + (k : Int) ≤ 61 → 5 ≤ best ∧ best ≤ 60 → 5 ≤ puFw s k D least best ∧ puFw s k D least best ≤ 60 := by
  intro k
  induction k with
  | zero => intro D least best _ _ h; exact h
  | succ k ih =>
    intro D least best h1 h2 h3
    unfold puFw
    split
    · exact ih _ _ _ (by omega) (by omega) (by omega)
    · exact ih _ _ _ (by omega) (by omega) h3
theorem pu_19 {σ : gSt} {μ : gLg} (xs : Nat → Int32) (j : Nat) (hI : puInv σ) : puP (DL_c19 xs j σ μ) (fun r => puInv r.1) := by
  have ho := hI.1
  unfold DL_c19 DX8_fewestExits DX9_fewestExits
  obtain ⟨σ', e, hF⟩ := pu_fewR_L (σ0 := σ) (s := σ 137) ho gFuel 56 5 0 (-1) σ (by rw [gFuel_eq]; omega) (by decide) (by decide) (by decide) (by decide) (fun _ => rfl) (fun _ => rfl) rfl puPF.rf
  rw [if_pos rfl, if_pos rfl] at e
  have hin := puFw_in (s := σ 137) 56 5 31 5 (by decide) (by decide) (by decide)
  rw [pu_fewC_L ho hI.2.1 gFuel 56 5 31 5 (by rw [gFuel_eq]; omega) (by decide) (by decide) (by decide), Option.bind_some, e, Option.bind_some, pu_ifT ⟨by omega, by omega⟩ ⟨by omega, by omega⟩ rfl]
  exact pu_some (hI.pf hF 0)
