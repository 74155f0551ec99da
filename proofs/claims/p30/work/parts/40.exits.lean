/-! arrows on sheets -/
def puFm (s : Nat → Int) (a : Nat) : Nat := (s (78 + 2 * a)).toNat
def puTo (s : Nat → Int) (a : Nat) : Nat := (s (79 + 2 * a)).toNat
def puLk (s : Nat → Int) (R : Nat) (D : Int) (a : Nat) : Nat := 52 * puBand s R (puFm s a) + puT s D (puFm s a)
def puAk (s : Nat → Int) (R : Nat) (D : Int) (a : Nat) : Nat := 52 * puBand s R (puTo s a) + puF s D (puTo s a)
def puLv (s : Nat → Int) (R : Nat) (D : Int) (a : Nat) : Int := puNo s R D (puLk s R D a)
def puAv (s : Nat → Int) (R : Nat) (D : Int) (a : Nat) : Int := puNo s R D (puAk s R D a)
def puEx (s : Nat → Int) (R : Nat) (D : Int) (a : Nat) : Bool := !decide (puLv s R D a = puAv s R D a)
def puXn (s : Nat → Int) (R : Nat) (D : Int) (a : Nat) : Int := if puEx s R D a = true then (puC (puEx s R D) (a + 1) : Int) else -1
def puStP (s : Nat → Int) (R : Nat) (D : Int) (k a : Nat) : Bool := puEx s R D a && (decide (puLv s R D a = (k : Int)) || decide (puAv s R D a = (k : Int)))
def puDrP (s : Nat → Int) (R : Nat) (D : Int) (k a : Nat) : Bool := !puEx s R D a && decide (puLv s R D a = (k : Int))
theorem puFm_e {s : Nat → Int} (ho : puOk s) {a : Nat} (ha : (a : Int) < s 77) : s (78 + 2 * a) = (puFm s a : Int) ∧ (puFm s a : Int) < s 4 := by
  have := ho.fr ha
  unfold puFm
  omega
theorem puTo_e {s : Nat → Int} (ho : puOk s) {a : Nat} (ha : (a : Int) < s 77) : s (79 + 2 * a) = (puTo s a : Int) ∧ (puTo s a : Int) < s 4 := by
  have := ho.to ha
  unfold puTo
  omega
theorem puEx_e {s : Nat → Int} {R : Nat} {D : Int} {a : Nat} : puEx s R D a = true ↔ ¬ puLv s R D a = puAv s R D a := by
  unfold puEx
  simp
theorem puLv_in {s : Nat → Int} {R : Nat} {D : Int} (ho : puOk s) (hR : 3 ≤ R) (hD : 5 ≤ D ∧ D ≤ 60) {a : Nat} (ha : (a : Int) < s 77) : ∃ i : Nat, puLv s R D a = (i : Int) ∧ i < puSheets s R D := by
  have h1 := (puFm_e ho ha).2
  have h2 := puFT ho hD h1
  have h3 := puSpot_lt (R := R) ho hR hD h1 (Nat.le_refl _)
  obtain ⟨e, h⟩ := puNo_t (k := puLk s R D a) ho hR hD h3.2 (puPr_t ho hD h1 h2.1 (Nat.le_refl _))
  exact ⟨_, e, h⟩
theorem puAv_in {s : Nat → Int} {R : Nat} {D : Int} (ho : puOk s) (hR : 3 ≤ R) (hD : 5 ≤ D ∧ D ≤ 60) {a : Nat} (ha : (a : Int) < s 77) : ∃ i : Nat, puAv s R D a = (i : Int) ∧ i < puSheets s R D := by
  have h1 := (puTo_e ho ha).2
  have h2 := puFT ho hD h1
  have h3 := puSpot_lt (R := R) ho hR hD h1 h2.1
  obtain ⟨e, h⟩ := puNo_t (k := puAk s R D a) ho hR hD h3.2 (puPr_t ho hD h1 (Nat.le_refl _) h2.1)
  exact ⟨_, e, h⟩
theorem puEx_spot {s : Nat → Int} {R : Nat} {D : Int} (ho : puOk s) (hR : 3 ≤ R) (hD : 5 ≤ D ∧ D ≤ 60) {a : Nat} (ha : (a : Int) < s 77) : puEx s R D a = true ↔ ¬ (puBand s R (puFm s a) = puBand s R (puTo s a) ∧ puT s D (puFm s a) = puF s D (puTo s a)) := by
  have h1 := (puFm_e ho ha).2
  have h2 := puFT ho hD h1
  have h3 := puSpot_lt (R := R) ho hR hD h1 (Nat.le_refl _)
  have g1 := (puTo_e ho ha).2
  have g2 := puFT ho hD g1
  have g3 := puSpot_lt (R := R) ho hR hD g1 g2.1
  rw [puEx_e]
  constructor
  · intro h q
    refine h ?_
    show puNo s R D (52 * puBand s R (puFm s a) + puT s D (puFm s a)) = puNo s R D (52 * puBand s R (puTo s a) + puF s D (puTo s a))
    rw [q.1, q.2]
  · intro h q
    have e := puNo_inj h3.2 g3.2 (puPr_t ho hD h1 h2.1 (Nat.le_refl _)) (puPr_t ho hD g1 (Nat.le_refl _) g2.1) q
    exact h (by omega)
theorem pu_numberAt {σ : gSt} {b R B S : Nat} {s : Nat → Int} {D : Int} (ho : puOk s) (hR : 3 ≤ R) (hS : puSS σ b s R D) (hB : B < puBands s R) (hs : S < 52) : DX6_numberAt b σ (B : Int) (S : Int) = some (puNo s R D (52 * B + S)) := by
  have := puBands_le ho hR
  unfold DX6_numberAt
  rw [pu_spot (by omega) hs, Option.bind_some, pu_atN (by omega) (by decide), Option.bind_some]
  exact congrArg some (hS.2.1 _ (by omega))
/-- the class's exits -/
def puEI (σ : gSt) (b : Nat) (s : Nat → Int) (R : Nat) (D : Int) (n : Nat) : Prop := σ b 6 = (puC (puEx s R D) n : Int) ∧ (∀ a : Nat, a < n → σ (b + 2) a = puLv s R D a ∧ σ (b + 4) a = puAv s R D a ∧ σ (b + 6) a = puXn s R D a) ∧ (∀ a : Nat, a < n → puEx s R D a = true → σ (b + 8) (puC (puEx s R D) (a + 1)) = (a : Int)) ∧ (∀ k : Nat, k < puSheets s R D → σ (b + 10) k = (puC (puStP s R D k) n : Int) ∧ σ (b + 12) k = (puC (puDrP s R D k) n : Int))
def puEF (b : Nat) (σ σ' : gSt) : Prop := ∀ k, k ≠ b → k ≠ b + 2 → k ≠ b + 4 → k ≠ b + 6 → k ≠ b + 8 → k ≠ b + 10 → k ≠ b + 12 → σ' k = σ k
theorem puEF.trans {b : Nat} {σ σ1 σ2 : gSt} (h1 : puEF b σ σ1) (h2 : puEF b σ1 σ2) : puEF b σ σ2 := fun k a1 a2 a3 a4 a5 a6 a7 => by rw [h2 k a1 a2 a3 a4 a5 a6 a7, h1 k a1 a2 a3 a4 a5 a6 a7]
theorem pu_inside {σ : gSt} {b R n i : Nat} {s : Nat → Int} {D : Int} (hn : n < 30) (hi : i < puSheets s R D) (h312 : puSheets s R D ≤ 312) (hl : puLv s R D n = (i : Int)) (ha : puAv s R D n = (i : Int)) (h : puEI σ b s R D n) : puP (DX2_drawInside b (gUp (gUp σ (b + 1 + 1) n (i : Int)) (b + 3 + 1) n (i : Int)) (n : Int) (i : Int)) (fun σ' => puEI σ' b s R D (n + 1) ∧ puEF b σ σ') := by
  obtain ⟨h1, h2, h3, h4⟩ := h
  have hex : ¬ puEx s R D n = true := fun q => puEx_e.mp q (by rw [hl, ha])
  have hC : puC (puEx s R D) (n + 1) = puC (puEx s R D) n := puC_F hex
  unfold DX2_drawInside
  rw [pu_putN hn (by decide), Option.bind_some, pu_incI (by omega) (by omega) (by decide), Option.bind_some, Int.toNat_natCast]
  refine pu_some ⟨⟨?_, fun a ha1 => ?_, fun a ha1 he => ?_, fun k hk => ?_⟩, fun k k1 k2 k3 k4 k5 k6 k7 => ?_⟩
  · rw [pu_upK (by omega), pu_upK (by omega), pu_upK (by omega), pu_upK (by omega), hC, h1]
  · rw [pu_upK (k' := b + 2) (by omega), pu_upK (k' := b + 2) (by omega), pu_upK (k' := b + 2) (by omega), pu_upK (k' := b + 4) (by omega), pu_upK (k' := b + 4) (by omega), pu_upK (k' := b + 6) (by omega)]
    show (if b + 2 = b + 1 + 1 ∧ a = n then (i : Int) else σ (b + 2) a) = _ ∧ (if b + 4 = b + 3 + 1 ∧ a = n then (i : Int) else gUp σ (b + 1 + 1) n (i : Int) (b + 4) a) = _ ∧ (if b + 6 = b + 5 + 1 ∧ a = n then (-1 : Int) else gUp (gUp σ (b + 1 + 1) n (i : Int)) (b + 3 + 1) n (i : Int) (b + 6) a) = _
    by_cases e : a = n
    · rw [if_pos ⟨rfl, e⟩, if_pos ⟨rfl, e⟩, if_pos ⟨rfl, e⟩, e, hl, ha]
      refine ⟨rfl, rfl, ?_⟩
      unfold puXn
      rw [if_neg hex]
    · rw [if_neg (fun q => e q.2), if_neg (fun q => e q.2), if_neg (fun q => e q.2), pu_upK (k' := b + 4) (by omega), pu_upK (k' := b + 6) (by omega), pu_upK (k' := b + 6) (by omega)]
      exact h2 a (by omega)
  · rw [pu_upK (by omega), pu_upK (by omega), pu_upK (by omega), pu_upK (by omega)]
    by_cases e : a = n
    · rw [e] at he
      exact absurd he hex
    · exact h3 a (by omega) he
  · have hst : puC (puStP s R D k) (n + 1) = puC (puStP s R D k) n := puC_F (fun q => by
      unfold puStP at q
      cases hq : puEx s R D n
      · rw [hq] at q
        exact absurd q (by simp)
      · exact hex hq)
    have hx : puEx s R D n = false := by
      cases hq : puEx s R D n
      · rfl
      · exact absurd hq hex
    have hdr : puC (puDrP s R D k) (n + 1) = puC (puDrP s R D k) n + (if i = k then 1 else 0) := by
      by_cases e : i = k
      · rw [if_pos e]
        refine puC_T ?_
        unfold puDrP
        rw [hx, hl, e]
        simp
      · rw [if_neg e]
        refine puC_F (fun q => ?_)
        unfold puDrP at q
        rw [hx, hl] at q
        simp at q
        exact e (by omega)
    rw [hst, hdr, pu_upK (k' := b + 10) (by omega), pu_upK (k' := b + 10) (by omega), pu_upK (k' := b + 10) (by omega), pu_upK (k' := b + 10) (by omega)]
    refine ⟨(h4 k hk).1, ?_⟩
    show (if b + 12 = b + 11 + 1 ∧ k = i then _ else _) = _
    have hE : ∀ j : Nat, gUp (gUp (gUp σ (b + 1 + 1) n (i : Int)) (b + 3 + 1) n (i : Int)) (b + 5 + 1) n (-1) (b + 12) j = σ (b + 12) j := fun j => by rw [pu_upK (by omega), pu_upK (by omega), pu_upK (by omega)]
    by_cases e : i = k
    · rw [if_pos ⟨rfl, e.symm⟩, if_pos e, show b + 11 + 1 = b + 12 from rfl, hE, e, (h4 k hk).2]
      omega
    · rw [if_neg (fun q => e q.2.symm), if_neg e, hE, (h4 k hk).2]
      omega
  · rw [pu_upK k7, pu_upK k4, pu_upK k3, pu_upK k2]
theorem pu_through {σ : gSt} {b R n i i2 : Nat} {s : Nat → Int} {D : Int} (hn : n < 30) (hi : i < puSheets s R D) (hi2 : i2 < puSheets s R D) (h312 : puSheets s R D ≤ 312) (hne : i ≠ i2) (hl : puLv s R D n = (i : Int)) (ha : puAv s R D n = (i2 : Int)) (h : puEI σ b s R D n) : puP (DX2_drawThroughExit b (gUp (gUp σ (b + 1 + 1) n (i : Int)) (b + 3 + 1) n (i2 : Int)) (n : Int) (i : Int) (i2 : Int)) (fun σ' => puEI σ' b s R D (n + 1) ∧ puEF b σ σ') := by
  obtain ⟨h1, h2, h3, h4⟩ := h
  have hex : puEx s R D n = true := puEx_e.mpr (by rw [hl, ha]; omega)
  have hC : puC (puEx s R D) (n + 1) = puC (puEx s R D) n + 1 := puC_T hex
  have hCn := puC_le (p := puEx s R D) n
  unfold DX2_drawThroughExit
  have e1 : gUp (gUp σ (b + 1 + 1) n (i : Int)) (b + 3 + 1) n (i2 : Int) b 6 = (puC (puEx s R D) n : Int) := by rw [pu_upK (by omega), pu_upK (by omega), h1]
  rw [e1, pu_upE, pu_putN hn (by decide), Option.bind_some]
  have hK1 : ∀ k, k ≠ b → k ≠ b + 2 → k ≠ b + 4 → k ≠ b + 6 → gUp (gUp (gUp (gUp σ (b + 1 + 1) n (i : Int)) (b + 3 + 1) n (i2 : Int)) b 6 ((puC (puEx s R D) n : Int) + 1)) (b + 5 + 1) n ((puC (puEx s R D) n : Int) + 1) k = σ k := fun k k1 k2 k3 k4 => by rw [pu_upK k4, pu_upK k1, pu_upK k3, pu_upK k2]
  have hb6 : gUp (gUp (gUp (gUp σ (b + 1 + 1) n (i : Int)) (b + 3 + 1) n (i2 : Int)) b 6 ((puC (puEx s R D) n : Int) + 1)) (b + 5 + 1) n ((puC (puEx s R D) n : Int) + 1) b 6 = ((puC (puEx s R D) n + 1 : Nat) : Int) := by
    rw [pu_upK (by omega), pu_upE]
    omega
  have hA : ∀ a : Nat, a < n + 1 → gUp (gUp (gUp (gUp σ (b + 1 + 1) n (i : Int)) (b + 3 + 1) n (i2 : Int)) b 6 ((puC (puEx s R D) n : Int) + 1)) (b + 5 + 1) n ((puC (puEx s R D) n : Int) + 1) (b + 2) a = puLv s R D a ∧ gUp (gUp (gUp (gUp σ (b + 1 + 1) n (i : Int)) (b + 3 + 1) n (i2 : Int)) b 6 ((puC (puEx s R D) n : Int) + 1)) (b + 5 + 1) n ((puC (puEx s R D) n : Int) + 1) (b + 4) a = puAv s R D a ∧ gUp (gUp (gUp (gUp σ (b + 1 + 1) n (i : Int)) (b + 3 + 1) n (i2 : Int)) b 6 ((puC (puEx s R D) n : Int) + 1)) (b + 5 + 1) n ((puC (puEx s R D) n : Int) + 1) (b + 6) a = puXn s R D a := by
    intro a ha1
    rw [pu_upK (k' := b + 2) (by omega), pu_upK (k' := b + 2) (by omega), pu_upK (k' := b + 2) (by omega), pu_upK (k' := b + 4) (by omega), pu_upK (k' := b + 4) (by omega)]
    show (if b + 2 = b + 1 + 1 ∧ a = n then (i : Int) else σ (b + 2) a) = _ ∧ (if b + 4 = b + 3 + 1 ∧ a = n then (i2 : Int) else gUp σ (b + 1 + 1) n (i : Int) (b + 4) a) = _ ∧ (if b + 6 = b + 5 + 1 ∧ a = n then _ else gUp (gUp (gUp σ (b + 1 + 1) n (i : Int)) (b + 3 + 1) n (i2 : Int)) b 6 ((puC (puEx s R D) n : Int) + 1) (b + 6) a) = _
    by_cases e : a = n
    · rw [if_pos ⟨rfl, e⟩, if_pos ⟨rfl, e⟩, if_pos ⟨rfl, e⟩, e, hl, ha]
      refine ⟨rfl, rfl, ?_⟩
      unfold puXn
      rw [if_pos hex, hC]
      omega
    · rw [if_neg (fun q => e q.2), if_neg (fun q => e q.2), if_neg (fun q => e q.2), pu_upK (k' := b + 4) (by omega), pu_upK (k' := b + 6) (by omega), pu_upK (k' := b + 6) (by omega), pu_upK (k' := b + 6) (by omega)]
      exact h2 a (by omega)
  generalize gUp (gUp (gUp (gUp σ (b + 1 + 1) n (i : Int)) (b + 3 + 1) n (i2 : Int)) b 6 ((puC (puEx s R D) n : Int) + 1)) (b + 5 + 1) n ((puC (puEx s R D) n : Int) + 1) = σ1 at hK1 hb6 hA ⊢
  rw [hb6, pu_putN (by omega) (by decide), Option.bind_some, pu_incI (by omega) (by omega) (by decide), Option.bind_some, pu_incI (by omega) (by omega) (by decide), Option.bind_some, Int.toNat_natCast, Int.toNat_natCast]
  refine pu_some ⟨⟨?_, fun a ha1 => ?_, fun a ha1 he => ?_, fun k hk => ?_⟩, fun k k1 k2 k3 k4 k5 k6 k7 => ?_⟩
  · rw [pu_upK (by omega), pu_upK (by omega), pu_upK (by omega), hC, hb6]
  · rw [pu_upK (k' := b + 2) (by omega), pu_upK (k' := b + 2) (by omega), pu_upK (k' := b + 2) (by omega), pu_upK (k' := b + 4) (by omega), pu_upK (k' := b + 4) (by omega), pu_upK (k' := b + 4) (by omega), pu_upK (k' := b + 6) (by omega), pu_upK (k' := b + 6) (by omega), pu_upK (k' := b + 6) (by omega)]
    exact hA a ha1
  · rw [pu_upK (by omega), pu_upK (by omega)]
    show (if b + 8 = b + 7 + 1 ∧ puC (puEx s R D) (a + 1) = puC (puEx s R D) n + 1 then (n : Int) else σ1 (b + 8) (puC (puEx s R D) (a + 1))) = _
    by_cases e : a = n
    · rw [e, hC, if_pos ⟨rfl, rfl⟩]
    · have := puC_lt (p := puEx s R D) (a := a) (b := n) (by omega) he
      have h9 : puC (puEx s R D) (a + 1) = puC (puEx s R D) a + 1 := puC_T he
      rw [if_neg (fun q => by omega), hK1 (b + 8) (by omega) (by omega) (by omega) (by omega)]
      exact h3 a (by omega) he
  · have hdr : puC (puDrP s R D k) (n + 1) = puC (puDrP s R D k) n := puC_F (fun q => by
      unfold puDrP at q
      rw [hex] at q
      simp at q)
    have hst : puC (puStP s R D k) (n + 1) = puC (puStP s R D k) n + (if i = k ∨ i2 = k then 1 else 0) := by
      by_cases e : i = k ∨ i2 = k
      · rw [if_pos e]
        refine puC_T ?_
        unfold puStP
        rw [hex, hl, ha]
        rcases e with e | e <;> simp [e]
      · rw [if_neg e]
        refine puC_F (fun q => ?_)
        unfold puStP at q
        rw [hex, hl, ha] at q
        simp at q
        exact e (by omega)
    rw [hdr, hst]
    have hE : ∀ j : Nat, gUp σ1 (b + 7 + 1) (puC (puEx s R D) n + 1) (n : Int) (b + 10) j = σ (b + 10) j := fun j => by rw [pu_upK (by omega), hK1 (b + 10) (by omega) (by omega) (by omega) (by omega)]
    refine ⟨?_, ?_⟩
    · show (if b + 10 = b + 9 + 1 ∧ k = i2 then (if b + 10 = b + 9 + 1 ∧ i2 = i then gUp σ1 (b + 7 + 1) (puC (puEx s R D) n + 1) (n : Int) (b + 10) i + 1 else gUp σ1 (b + 7 + 1) (puC (puEx s R D) n + 1) (n : Int) (b + 10) i2) + 1 else (if b + 10 = b + 9 + 1 ∧ k = i then gUp σ1 (b + 7 + 1) (puC (puEx s R D) n + 1) (n : Int) (b + 10) i + 1 else gUp σ1 (b + 7 + 1) (puC (puEx s R D) n + 1) (n : Int) (b + 10) k)) = _
      rw [hE, hE, hE, if_neg (c := b + 10 = b + 9 + 1 ∧ i2 = i) (fun q => hne q.2.symm)]
      by_cases e2 : k = i2
      · rw [if_pos ⟨rfl, e2⟩, if_pos (Or.inr e2.symm), ← e2, (h4 k hk).1]
        omega
      · rw [if_neg (fun q => e2 q.2)]
        by_cases e3 : k = i
        · rw [if_pos ⟨rfl, e3⟩, if_pos (Or.inl e3.symm), ← e3, (h4 k hk).1]
          omega
        · rw [if_neg (fun q => e3 q.2), if_neg (by omega), (h4 k hk).1]
          omega
    · rw [pu_upK (by omega), pu_upK (by omega), pu_upK (by omega), hK1 (b + 12) (by omega) (by omega) (by omega) (by omega)]
      exact (h4 k hk).2
  · rw [pu_upK k6, pu_upK k6, pu_upK k5, hK1 k k1 k2 k3 k4]
theorem pu_draw_L {σ0 : gSt} {b p1 p2 p3 R : Nat} {s : Nat → Int} {D : Int} (ho : puOk s) (hR : 3 ≤ R) (hD : 5 ≤ D ∧ D ≤ 60) (h12 : p1 + 12 < p2) (h23 : p2 + 8 < p3) (h3b : p3 + 8 < b) (hp : puPl σ0 p1 s) (hB : puBB σ0 p2 s R) (hS : puSS σ0 p3 s R D) : ∀ (f n : Nat) (σ : gSt), (s 77).toNat - n < f → (n : Int) ≤ s 77 → puEF b σ0 σ → puEI σ b s R D n → puP (DX2_draw_L41 b p1 p2 p3 D f (n : Int) σ) (fun σ' => puEI σ' b s R D (s 77).toNat ∧ puEF b σ0 σ') := by
  have hn := ho.arrows
  have h312 := puSheets_le (R := R) ho hD
  intro f
  induction f with
  | zero => intro n σ h; omega
  | succ f ih =>
    intro n σ hf hns hF hI
    have hp' : puPl σ p1 s := hp.same (fun k k1 k2 => hF k (by omega) (by omega) (by omega) (by omega) (by omega) (by omega) (by omega))
    have hB' : puBB σ p2 s R := hB.same (fun k hk => hF k (by omega) (by omega) (by omega) (by omega) (by omega) (by omega) (by omega))
    have hS' : puSS σ p3 s R D := hS.same (fun k hk => hF k (by omega) (by omega) (by omega) (by omega) (by omega) (by omega) (by omega))
    rw [DX2_draw_L41, pu_arrows hp', Option.bind_some]
    refine pu_if ⟨by omega, by omega⟩ ⟨by omega, by omega⟩ (fun hc => ?_) (fun hc => ?_)
    · obtain ⟨f1, f2⟩ := puFm_e ho hc
      obtain ⟨t1, t2⟩ := puTo_e ho hc
      have l1 := ho.last f2
      have l2 := ho.f f2
      have l3 := ho.f t2
      have w1 := puFT ho hD f2
      have w2 := puFT ho hD t2
      obtain ⟨i, hi, hi2⟩ := puLv_in ho hR hD hc
      obtain ⟨i2, hj, hj2⟩ := puAv_in ho hR hD hc
      have a30 := ho.a30 hc
      rw [pu_from ho hp' hc, Option.bind_some, pu_to ho hp' hc, Option.bind_some, f1, t1, pu_bandOfC ho hB' f2, Option.bind_some, pu_last ho hp' f2, Option.bind_some, pu_strip (by omega) (by omega) (by omega) (by omega), Option.bind_some, puT_e ho hD f2, pu_numberAt ho hR hS' (puBand_lt ho hR f2) (by omega), Option.bind_some, pu_bandOfC ho hB' t2, Option.bind_some, pu_first ho hp' t2, Option.bind_some, pu_strip (by omega) (by omega) (by omega) (by omega), Option.bind_some, puF_e ho hD t2, pu_numberAt ho hR hS' (puBand_lt ho hR t2) (by omega), Option.bind_some]
      rw [show puNo s R D (52 * puBand s R (puFm s n) + puT s D (puFm s n)) = (i : Int) from hi, show puNo s R D (52 * puBand s R (puTo s n) + puF s D (puTo s n)) = (i2 : Int) from hj, pu_putN a30 (by decide), Option.bind_some, pu_putN a30 (by decide), Option.bind_some]
      unfold DX2_draw_J162
      rw [show ((n : Int) + 1) = ((n + 1 : Nat) : Int) by omega]
      refine pu_if ⟨by omega, by omega⟩ ⟨by omega, by omega⟩ (fun hc1 => ?_) (fun hc1 => ?_)
      · have e : i2 = i := by omega
        subst e
        refine pu_b (pu_inside a30 hi2 h312 hi hj hI) (fun σ1 q => ?_)
        exact ih (n + 1) σ1 (by omega) (by omega) (hF.trans q.2) q.1
      · refine pu_b (pu_through a30 hi2 hj2 h312 (by omega) hi hj hI) (fun σ1 q => ?_)
        exact ih (n + 1) σ1 (by omega) (by omega) (hF.trans q.2) q.1
    · have e : n = (s 77).toNat := by omega
      subst e
      exact pu_some ⟨hI, hF⟩
def puEE (σ : gSt) (b : Nat) (s : Nat → Int) (R : Nat) (D : Int) : Prop := puEI σ b s R D (s 77).toNat
theorem pu_draw {σ : gSt} {b p1 p2 p3 R : Nat} {s : Nat → Int} (ho : puOk s) (hR : 3 ≤ R) (h12 : p1 + 12 < p2) (h23 : p2 + 8 < p3) (h3b : p3 + 8 < b) (hp : puPl σ p1 s) (hB : puBB σ p2 s R) (hS : puSS σ p3 s R (s 1)) : puP (DX2_draw b p1 p2 p3 σ) (fun σ' => puEE σ' b s R (s 1) ∧ puEF b σ σ') := by
  have hn := ho.arrows
  have hD := ho.days
  have h312 := puSheets_le (R := R) ho hD
  unfold DX2_draw DX6_count
  rw [pu_set1 hp, Option.bind_some, Option.bind_some, hS.1, pu_fill (by decide) (by omega) (by omega) (by omega) (by omega), Option.bind_some, Option.bind_some, show puFill σ (b + 9 + 1) 312 0 (puSheets s R (s 1) : Int) 0 p3 4 = (puSheets s R (s 1) : Int) by rw [puFill_K (by omega), hS.1], pu_fill (by decide) (by omega) (by omega) (by omega) (by omega), Option.bind_some]
  refine pu_mono (pu_draw_L (σ0 := σ) ho hR hD h12 h23 h3b hp hB hS gFuel 0 _ (by rw [gFuel_eq]; omega) (by omega) (fun k k1 k2 k3 k4 k5 k6 k7 => ?_) ⟨?_, fun a ha => absurd ha (Nat.not_lt_zero _), fun a ha => absurd ha (Nat.not_lt_zero _), fun k hk => ⟨?_, ?_⟩⟩) (fun σ' q => q)
  · rw [pu_upK k1, puFill_K k7, puFill_K k6]
  · rw [pu_upE]
    rfl
  · rw [pu_upK (by omega), puFill_K (by omega)]
    exact puFill_I (by omega) (by omega) (by omega)
  · rw [pu_upK (by omega)]
    exact puFill_I (by omega) (by omega) (by omega)
theorem puEE.same {σ σ' : gSt} {b R : Nat} {s : Nat → Int} {D : Int} (h : puEE σ b s R D) (hk : ∀ k, b ≤ k → k ≤ b + 12 → σ' k = σ k) : puEE σ' b s R D := by
  unfold puEE puEI at h ⊢
  rw [hk b (by omega) (by omega), hk (b + 2) (by omega) (by omega), hk (b + 4) (by omega) (by omega), hk (b + 6) (by omega) (by omega), hk (b + 8) (by omega) (by omega), hk (b + 10) (by omega) (by omega), hk (b + 12) (by omega) (by omega)]
  exact h
/-- all that the class holds of a plan -/
def puCV (σ : gSt) (s : Nat → Int) : Prop := puPl σ 1 s ∧ puBB σ 87 s (s 0).toNat ∧ puSS σ 96 s (s 0).toNat (s 1) ∧ puEE σ 105 s (s 0).toNat (s 1)
theorem pu_printAnew {σ : gSt} {s : Nat → Int} (ho : puOk s) (hp : puPl σ 1 s) : puP (DX8_printAnew σ) (fun σ' => puCV σ' s ∧ (∀ k, k < 87 ∨ 117 < k → σ' k = σ k)) := by
  have hR := ho.rows
  have hD := ho.days
  have eR : s 0 = ((s 0).toNat : Int) := by omega
  unfold DX8_printAnew
  rw [pu_set0 hp, Option.bind_some, eR]
  refine pu_b (pu_layS (R := (s 0).toNat) ho (by decide) (by omega) hp) (fun σ1 q1 => ?_)
  have hp1 : puPl σ1 1 s := hp.same (fun k k1 k2 => q1.2 k (by omega) (by omega) (by omega) (by omega) (by omega))
  rw [pu_set1 hp1, Option.bind_some]
  refine pu_b (pu_print (R := (s 0).toNat) ho (by omega) hD (by decide) (by decide) hp1 q1.1) (fun σ2 q2 => ?_)
  have hp2 : puPl σ2 1 s := hp1.same (fun k k1 k2 => q2.2 k (by omega) (by omega) (by omega) (by omega) (by omega))
  have hB2 : puBB σ2 87 s (s 0).toNat := q1.1.same (fun k hk => q2.2 k (by omega) (by omega) (by omega) (by omega) (by omega))
  refine pu_b (pu_draw (R := (s 0).toNat) ho (by omega) (by decide) (by decide) (by decide) hp2 hB2 q2.1) (fun σ3 q3 => pu_some ⟨⟨?_, ?_, ?_, q3.1⟩, fun k hk => ?_⟩)
  · exact hp2.same (fun k k1 k2 => q3.2 k (by omega) (by omega) (by omega) (by omega) (by omega) (by omega) (by omega))
  · exact hB2.same (fun k hk => q3.2 k (by omega) (by omega) (by omega) (by omega) (by omega) (by omega) (by omega))
  · exact q2.1.same (fun k hk => q3.2 k (by omega) (by omega) (by omega) (by omega) (by omega) (by omega) (by omega))
  · rw [q3.2 k (by omega) (by omega) (by omega) (by omega) (by omega) (by omega) (by omega), q2.2 k (by omega) (by omega) (by omega) (by omega) (by omega), q1.2 k (by omega) (by omega) (by omega) (by omega) (by omega)]
theorem puCV.same {σ σ' : gSt} {s : Nat → Int} (h : puCV σ s) (hk : ∀ k, (1 ≤ k ∧ k ≤ 13) ∨ (87 ≤ k ∧ k ≤ 117) → σ' k = σ k) : puCV σ' s :=
  ⟨h.1.same (fun k k1 k2 => hk k (by omega)), h.2.1.same (fun k q => hk k (by omega)), h.2.2.1.same (fun k q => hk k (by omega)), h.2.2.2.same (fun k k1 k2 => hk k (by omega))⟩
