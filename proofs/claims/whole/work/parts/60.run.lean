/-! every step of the law's loop goes through, and so does the loop -/
theorem pu_step {σ : gSt} {μ : gLg} (xs : Nat → Int32) (j : Nat) (hI : puInv σ) : puP (DL_step xs j σ μ) (fun r => puInv r.1) := by
  unfold DL_step
  have hk0 : (xs (4 * j)).toBitVec.toNat % 32 < 32 := Nat.mod_lt _ (by decide)
  generalize (xs (4 * j)).toBitVec.toNat % 32 = k at hk0 ⊢
  rcases (show k = 0 ∨ k = 1 ∨ k = 2 ∨ k = 3 ∨ k = 4 ∨ k = 5 ∨ k = 6 ∨ k = 7 ∨ k = 8 ∨ k = 9 ∨ k = 10 ∨ k = 11 ∨ k = 12 ∨ k = 13 ∨ k = 14 ∨ k = 15 ∨ k = 16 ∨ k = 17 ∨ k = 18 ∨ k = 19 ∨ k = 20 ∨ k = 21 ∨ k = 22 ∨ k = 23 ∨ k = 24 ∨ k = 25 ∨ k = 26 ∨ 27 ≤ k by omega) with rfl | rfl | rfl | rfl | rfl | rfl | rfl | rfl | rfl | rfl | rfl | rfl | rfl | rfl | rfl | rfl | rfl | rfl | rfl | rfl | rfl | rfl | rfl | rfl | rfl | rfl | rfl | hk
  · exact pu_0 xs j hI
  · exact pu_1 xs j hI
  · exact pu_2 xs j hI
  · exact pu_3 xs j hI
  · exact pu_4 xs j hI
  · exact pu_5 xs j hI
  · exact pu_6 xs j hI
  · exact pu_7 xs j hI
  · exact pu_8 xs j hI
  · exact pu_9 xs j hI
  · exact pu_10 xs j hI
  · exact pu_11 xs j hI
  · exact pu_12 xs j hI
  · exact pu_13 xs j hI
  · exact pu_14 xs j hI
  · exact pu_15 xs j hI
  · exact pu_16 xs j hI
  · exact pu_17 hI
  · exact pu_18 xs j hI
  · exact pu_19 xs j hI
  · exact pu_20 xs j hI
  · exact pu_21 xs j hI
  · exact pu_22 xs j hI
  · exact pu_23 xs j hI
  · exact pu_24 xs j hI
  · exact pu_25 xs j hI
  · exact pu_26 xs j hI
  · obtain ⟨k', rfl⟩ : ∃ k', k = k' + 27 := ⟨k - 27, by omega⟩
    exact pu_some hI
theorem pu_run {xs : Nat → Int32} {L : Nat} (hL : L ≤ 2048) : ∀ (f j : Nat) (σ : gSt) (μ : gLg), 513 - j < f → j ≤ 512 → puInv σ → DL_run xs L f j σ μ = some () := by
  intro f
  induction f with
  | zero => intro j σ μ h; omega
  | succ f ih =>
    intro j σ μ hf hj hI
    rw [DL_run]
    by_cases c : (L : Int) - 4 < 4 * (j : Int)
    · rw [pu_ifT ⟨by omega, by omega⟩ ⟨by omega, by omega⟩ c]
    · rw [pu_ifF ⟨by omega, by omega⟩ ⟨by omega, by omega⟩ c]
      obtain ⟨q, e, hq⟩ := pu_step (μ := μ) xs j hI
      rw [e, Option.bind_some]
      exact ih (j + 1) q.1 q.2 (by omega) (by omega) hq
