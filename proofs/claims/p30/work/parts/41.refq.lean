/-! what a plan answers; first the reference -/
def puRV (σ : gSt) (s : Nat → Int) (R : Nat) (D : Int) : Prop := σ 137 = s ∧ puRR σ s R ∧ puRS σ s R D
def puLate (s : Nat → Int) (a : Nat) : Prop := s (6 + 3 * puTo s a) ≤ puLast s (puFm s a)
section PUR
variable {σ : gSt} {s : Nat → Int} {R : Nat} {D : Int}
theorem pu_r4 (hs : σ 137 = s) : σ 137 (Int.toNat (4 : Int)) = s 4 := by rw [hs]; rfl
theorem pu_r77 (hs : σ 137 = s) : σ 137 (Int.toNat (77 : Int)) = s 77 := by rw [hs]; rfl
theorem pu_r0 (hs : σ 137 = s) : σ 137 (Int.toNat (0 : Int)) = s 0 := by rw [hs]; rfl
theorem pu_r1 (hs : σ 137 = s) : σ 137 (Int.toNat (1 : Int)) = s 1 := by rw [hs]; rfl
end PUR
