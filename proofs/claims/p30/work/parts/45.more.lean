/-! the law's cases arrowOf, taskAt, covered, delay -/
/-! covered -/
def puSum (s : Nat → Int) : Nat → Int
  | 0 => 0
  | n + 1 => puSum s n + s (7 + 3 * n)
/-! delay -/
def puDl (s : Nat → Int) (t : Nat) : Nat → Int
  | 0 => 0
  | n + 1 => if puTo s n = t then max (puDl s t n) ((puLast s (puFm s n) + 1) - s (6 + 3 * t)) else puDl s t n
theorem puDl_in {s : Nat → Int} (ho : puOk s) {t : Nat} (ht : (t : Int) < s 4) : ∀ n : Nat, (n : Int) ≤ s 77 → 0 ≤ puDl s t n ∧ puDl s t n ≤ 1000 := by
  have l0 := ho.f ht
  intro n
  induction n with
  | zero => intro _; exact ⟨Int.le_refl 0, by show (0 : Int) ≤ 1000; decide⟩
  | succ n ih =>
    intro hn
    have h1 := ih (by omega)
    have f2 := (puFm_e ho (a := n) (by omega)).2
    have l1 := ho.last f2
    have l2 := ho.f f2
    unfold puDl
    split <;> omega
theorem pu_delayC_L {σ : gSt} {s : Nat → Int} (ho : puOk s) (hp : puPl σ 1 s) {t : Nat} (ht : (t : Int) < s 4) : ∀ (f x : Nat), (s 77).toNat - x < f → (x : Int) ≤ s 77 → DX8_delay_L9 σ (t : Int) f (x : Int) (puDl s t x) = some (.inr (puDl s t (s 77).toNat)) := by
  have hn := ho.arrows
  have hn4 := ho.tasks
  have l0 := ho.f ht
  intro f
  induction f with
  | zero => intro x h; omega
  | succ f ih =>
    intro x hf hx
    have hdl := puDl_in ho ht x hx
    rw [DX8_delay_L9, pu_arrows hp, Option.bind_some]
    by_cases c : (x : Int) < s 77
    · obtain ⟨f1, f2⟩ := puFm_e ho c
      obtain ⟨t1, t2⟩ := puTo_e ho c
      have l1 := ho.last f2
      have l2 := ho.f f2
      have hh := ih (x + 1) (by omega) (by omega)
      rw [pu_ifT ⟨by omega, by omega⟩ ⟨by omega, by omega⟩ c, pu_to ho hp c, Option.bind_some, t1]
      unfold DX8_delay_J63
      rw [show ((x : Int) + 1) = ((x + 1 : Nat) : Int) by omega]
      by_cases c2 : puTo s x = t
      · rw [pu_ifT ⟨by omega, by omega⟩ ⟨by omega, by omega⟩ (by omega), pu_from ho hp c, Option.bind_some, f1, pu_last ho hp f2, Option.bind_some, pu_first ho hp ht, Option.bind_some, pu_rr ⟨by omega, by omega⟩ ⟨by omega, by omega⟩]
        rw [show puDl s t (x + 1) = max (puDl s t x) ((puLast s (puFm s x) + 1) - s (6 + 3 * t)) by
          show (if puTo s x = t then _ else _) = _
          rw [if_pos c2]] at hh
        exact hh
      · rw [pu_ifF ⟨by omega, by omega⟩ ⟨by omega, by omega⟩ (by omega)]
        rw [show puDl s t (x + 1) = puDl s t x by
          show (if puTo s x = t then _ else _) = _
          rw [if_neg c2]] at hh
        exact hh
    · rw [pu_ifF ⟨by omega, by omega⟩ ⟨by omega, by omega⟩ c, show (s 77).toNat = x by omega]
