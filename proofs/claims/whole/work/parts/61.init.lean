/-! the beginning, on the pure side -/
def puS0 : gSt := fun k i => if k = 3 ∨ k = 16 ∨ k = 31 ∨ k = 44 ∨ k = 57 ∨ k = 70 ∨ k = 137 then (if i = 0 then 8 else if i = 1 then 20 else if i = 2 then 1 else 0) else 0
theorem puS0_137 (i : Nat) : puS0 137 i = if i = 0 then 8 else if i = 1 then 20 else if i = 2 then 1 else 0 := rfl
theorem puS0_z {k : Nat} (h : ¬ (k = 3 ∨ k = 16 ∨ k = 31 ∨ k = 44 ∨ k = 57 ∨ k = 70 ∨ k = 137)) (i : Nat) : puS0 k i = 0 := by
  unfold puS0
  rw [if_neg h]
theorem puS0_ok : puOk (puS0 137) := by
  refine ⟨by decide, by decide, by decide, by decide, by decide, by decide, fun t ht => ?_, fun a ha => ?_⟩
  · have e : puS0 137 4 = 0 := rfl
    rw [e] at ht
    omega
  · have e : puS0 137 77 = 0 := rfl
    rw [e] at ha
    omega
theorem puS0_sort (g : Int) : puSort (puS0 137) g = [] := rfl
theorem puS0_lay {R : Nat} {a : puA} : ∀ g : Nat, puLayN (puS0 137) R a g = a := by
  intro g
  induction g with
  | zero => rfl
  | succ g ih =>
    show puGrp (puS0 137) R (g : Int) (puLayN (puS0 137) R a g) = a
    rw [ih]
    unfold puGrp
    rw [puS0_sort]
    exact if_pos rfl
theorem puS0_bands (R : Nat) : puBands (puS0 137) R = 0 := by
  unfold puBands puL
  rw [puS0_lay]
  rfl
theorem puS0_pr {R : Nat} {D : Int} (k : Nat) : ¬ puPr (puS0 137) R D k = true := by
  intro h
  have h1 := decide_eq_true_iff.mp h
  have e : puCnt (puS0 137) R D k = 0 := rfl
  omega
theorem puS0_sheets (R : Nat) (D : Int) : puSheets (puS0 137) R D = 0 := by
  unfold puSheets puRk
  exact puC_sk (a := 0) (b := 1248) (by decide) (fun j _ _ => puS0_pr _)
theorem puS0_inv : puInv puS0 := by
  refine ⟨puS0_ok, ⟨⟨rfl, rfl, fun i hi => rfl, fun t ht => ?_, fun a ha => ?_⟩, ⟨?_, fun i hi => ?_, fun t ht => ?_⟩, ⟨?_, fun k hk => ?_, fun i _ hp => absurd hp (puS0_pr _), fun k hk => ?_⟩, ⟨rfl, fun a ha => absurd ha (Nat.not_lt_zero _), fun a ha => absurd ha (Nat.not_lt_zero _), fun k hk => ?_⟩⟩, ⟨0, 0, fun _ _ => 0, by decide, by decide, rfl, rfl, rfl, fun k hk => absurd hk (Nat.not_lt_zero _)⟩, ⟨0, by decide, rfl, rfl, fun i hi => absurd hi (Nat.not_lt_zero _)⟩⟩
  · have e : puS0 137 4 = 0 := rfl
    rw [e] at ht
    omega
  · have e : puS0 137 77 = 0 := rfl
    rw [e] at ha
    omega
  · rw [puS0_bands]
    rfl
  · rw [puS0_bands] at hi
    omega
  · have e : puS0 137 4 = 0 := rfl
    rw [e] at ht
    omega
  · rw [puS0_sheets]
    rfl
  · rw [puS0_bands] at hk
    omega
  · rw [puS0_bands] at hk
    omega
  · rw [puS0_sheets] at hk
    omega
