/-! the beginning, on the pure side -/
def puS0 : gSt := fun k i => if k = 3 ∨ k = 16 ∨ k = 31 ∨ k = 44 ∨ k = 57 ∨ k = 70 then (if i = 0 then 8 else if i = 1 then 20 else if i = 2 then 1 else 0) else 0
def pvs0 : Nat → Int := fun i => if i = 0 then 8 else if i = 1 then 20 else if i = 2 then 1 else 0
theorem puS0_z {k : Nat} (h : ¬ (k = 3 ∨ k = 16 ∨ k = 31 ∨ k = 44 ∨ k = 57 ∨ k = 70)) (i : Nat) : puS0 k i = 0 := by
  unfold puS0
  rw [if_neg h]
theorem puS0_ok : puOk (pvs0) := by
  refine ⟨by decide, by decide, by decide, by decide, by decide, by decide, fun t ht => ?_, fun a ha => ?_⟩
  · have e : pvs0 4 = 0 := rfl
    rw [e] at ht
    omega
  · have e : pvs0 77 = 0 := rfl
    rw [e] at ha
    omega
theorem puS0_sort (g : Int) : puSort (pvs0) g = [] := rfl
theorem puS0_lay {R : Nat} {a : puA} : ∀ g : Nat, puLayN (pvs0) R a g = a := by
  intro g
  induction g with
  | zero => rfl
  | succ g ih =>
    show puGrp (pvs0) R (g : Int) (puLayN (pvs0) R a g) = a
    rw [ih]
    unfold puGrp
    rw [puS0_sort]
    exact if_pos rfl
theorem puS0_bands (R : Nat) : puBands (pvs0) R = 0 := by
  unfold puBands puL
  rw [puS0_lay]
  rfl
theorem puS0_pr {R : Nat} {D : Int} (k : Nat) : ¬ puPr (pvs0) R D k = true := by
  intro h
  have h1 := decide_eq_true_iff.mp h
  have e : puCnt (pvs0) R D k = 0 := rfl
  omega
theorem puS0_sheets (R : Nat) (D : Int) : puSheets (pvs0) R D = 0 := by
  unfold puSheets puRk
  exact puC_sk (a := 0) (b := 1248) (by decide) (fun j _ _ => puS0_pr _)
theorem pv_init : ∃ σ1, DL_first puS0 = some σ1 ∧ pvInv σ1 := by
  have hk : ∀ k, k ≠ 136 → gUp (gUp (gUp puS0 136 0 8) 136 1 20) 136 2 1 k = puS0 k := fun k h => by rw [pu_upK h, pu_upK h, pu_upK h]
  refine ⟨gUp (gUp (gUp puS0 136 0 8) 136 1 20) 136 2 1, ?_, pvs0, [], puS0_ok, ?_, ?_, ?_, ⟨rfl, fun i q hq => by cases hq⟩, Nat.zero_le _, (fun q hq => by cases hq), ?_⟩
  · unfold DL_first
    rw [pu_gat (by decide) (by decide), pu_gat (by decide) (by decide), pu_gat (by decide) (by decide)]
    rfl
  · refine puCV.same (σ := puS0) ?_ (fun k q => hk k (by omega))
    refine ⟨⟨rfl, rfl, fun i hi => rfl, fun t ht => ?_, fun a ha => ?_⟩, ⟨?_, fun i hi => ?_, fun t ht => ?_⟩, ⟨?_, fun k hk => ?_, fun i _ hp => absurd hp (puS0_pr _), fun k hk => ?_⟩, ⟨rfl, fun a ha => absurd ha (Nat.not_lt_zero _), fun a ha => absurd ha (Nat.not_lt_zero _), fun k hk => ?_⟩⟩
    · have e : pvs0 4 = 0 := rfl
      rw [e] at ht
      omega
    · have e : pvs0 77 = 0 := rfl
      rw [e] at ha
      omega
    · rw [puS0_bands]
      rfl
    · rw [puS0_bands] at hi
      omega
    · have e : pvs0 4 = 0 := rfl
      rw [e] at ht
      omega
    · rw [puS0_sheets]
      rfl
    · rw [puS0_bands] at hk
      omega
    · rw [puS0_bands] at hk
      omega
    · rw [puS0_sheets] at hk
      omega
  · exact pvHC.same (σ := puS0) ⟨0, 0, fun _ _ => 0, by decide, by decide, rfl, rfl, fun k hk => absurd hk (Nat.not_lt_zero _)⟩ (fun k k1 k2 => hk k (by omega))
  · refine ⟨fun i hi => ?_, rfl, fun t ht => ?_⟩
    · rcases (show i = 0 ∨ i = 1 ∨ i = 2 ∨ i = 3 by omega) with rfl | rfl | rfl | rfl <;> rfl
    · have e : pvs0 4 = 0 := rfl
      rw [e] at ht
      omega
  · exact ⟨rfl, fun i q hq => by cases hq⟩
