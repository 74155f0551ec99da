/-! a plan as a row of numbers: 0..3 settings, 4 how many tasks, 5 + 3 t .. the tasks, 77 how many arrows, 78 + 2 a .. the arrows -/
def puOk (s : Nat → Int) : Prop := (3 ≤ s 0 ∧ s 0 ≤ 20) ∧ (5 ≤ s 1 ∧ s 1 ≤ 60) ∧ (0 ≤ s 2 ∧ s 2 ≤ 1) ∧ (0 ≤ s 3 ∧ s 3 ≤ 1) ∧ (0 ≤ s 4 ∧ s 4 ≤ 24) ∧ (0 ≤ s 77 ∧ s 77 ≤ 30) ∧ (∀ t : Nat, (t : Int) < s 4 → (0 ≤ s (5 + 3 * t) ∧ s (5 + 3 * t) ≤ 5) ∧ (0 ≤ s (6 + 3 * t) ∧ s (6 + 3 * t) ≤ 199) ∧ (1 ≤ s (7 + 3 * t) ∧ s (7 + 3 * t) ≤ 60)) ∧ (∀ a : Nat, (a : Int) < s 77 → (0 ≤ s (78 + 2 * a) ∧ s (78 + 2 * a) < s 4) ∧ (0 ≤ s (79 + 2 * a) ∧ s (79 + 2 * a) < s 4))
def puPl (σ : gSt) (b : Nat) (s : Nat → Int) : Prop := σ b 6 = s 4 ∧ σ b 7 = s 77 ∧ (∀ i : Nat, i < 4 → σ (b + 2) i = s i) ∧ (∀ t : Nat, (t : Int) < s 4 → σ (b + 4) t = s (5 + 3 * t) ∧ σ (b + 6) t = s (6 + 3 * t) ∧ σ (b + 8) t = s (7 + 3 * t)) ∧ (∀ a : Nat, (a : Int) < s 77 → σ (b + 10) a = s (78 + 2 * a) ∧ σ (b + 12) a = s (79 + 2 * a))
def puLast (s : Nat → Int) (t : Nat) : Int := s (6 + 3 * t) + s (7 + 3 * t) - 1
theorem puOk.rows {s : Nat → Int} (h : puOk s) : 3 ≤ s 0 ∧ s 0 ≤ 20 := h.1
theorem puOk.days {s : Nat → Int} (h : puOk s) : 5 ≤ s 1 ∧ s 1 ≤ 60 := h.2.1
theorem puOk.keep {s : Nat → Int} (h : puOk s) : 0 ≤ s 2 ∧ s 2 ≤ 1 := h.2.2.1
theorem puOk.order {s : Nat → Int} (h : puOk s) : 0 ≤ s 3 ∧ s 3 ≤ 1 := h.2.2.2.1
theorem puOk.tasks {s : Nat → Int} (h : puOk s) : 0 ≤ s 4 ∧ s 4 ≤ 24 := h.2.2.2.2.1
theorem puOk.arrows {s : Nat → Int} (h : puOk s) : 0 ≤ s 77 ∧ s 77 ≤ 30 := h.2.2.2.2.2.1
theorem puOk.g {s : Nat → Int} (h : puOk s) {t : Nat} (ht : (t : Int) < s 4) : 0 ≤ s (5 + 3 * t) ∧ s (5 + 3 * t) ≤ 5 := (h.2.2.2.2.2.2.1 t ht).1
theorem puOk.f {s : Nat → Int} (h : puOk s) {t : Nat} (ht : (t : Int) < s 4) : 0 ≤ s (6 + 3 * t) ∧ s (6 + 3 * t) ≤ 199 := (h.2.2.2.2.2.2.1 t ht).2.1
theorem puOk.l {s : Nat → Int} (h : puOk s) {t : Nat} (ht : (t : Int) < s 4) : 1 ≤ s (7 + 3 * t) ∧ s (7 + 3 * t) ≤ 60 := (h.2.2.2.2.2.2.1 t ht).2.2
theorem puOk.last {s : Nat → Int} (h : puOk s) {t : Nat} (ht : (t : Int) < s 4) : s (6 + 3 * t) ≤ puLast s t ∧ puLast s t ≤ 258 ∧ puLast s t ≤ s (6 + 3 * t) + 59 := by
  have := h.f ht
  have := h.l ht
  unfold puLast
  omega
theorem puOk.fr {s : Nat → Int} (h : puOk s) {a : Nat} (ha : (a : Int) < s 77) : 0 ≤ s (78 + 2 * a) ∧ s (78 + 2 * a) < s 4 := (h.2.2.2.2.2.2.2 a ha).1
theorem puOk.to {s : Nat → Int} (h : puOk s) {a : Nat} (ha : (a : Int) < s 77) : 0 ≤ s (79 + 2 * a) ∧ s (79 + 2 * a) < s 4 := (h.2.2.2.2.2.2.2 a ha).2
theorem puOk.t24 {s : Nat → Int} (h : puOk s) {t : Nat} (ht : (t : Int) < s 4) : t < 24 := by
  have := h.tasks
  omega
theorem puOk.a30 {s : Nat → Int} (h : puOk s) {t : Nat} (ht : (t : Int) < s 77) : t < 30 := by
  have := h.arrows
  omega
theorem puPl.same {σ σ' : gSt} {b : Nat} {s : Nat → Int} (h : puPl σ b s) (hk : ∀ k, b ≤ k → k ≤ b + 12 → σ' k = σ k) : puPl σ' b s := by
  have e0 := hk b (by omega) (by omega)
  have e2 := hk (b + 2) (by omega) (by omega)
  have e4 := hk (b + 4) (by omega) (by omega)
  have e6 := hk (b + 6) (by omega) (by omega)
  have e8 := hk (b + 8) (by omega) (by omega)
  have e10 := hk (b + 10) (by omega) (by omega)
  have e12 := hk (b + 12) (by omega) (by omega)
  unfold puPl at h ⊢
  rw [e0, e2, e4, e6, e8, e10, e12]
  exact h
section PUG
variable {σ : gSt} {b : Nat} {s : Nat → Int}
theorem pu_tasks (hp : puPl σ b s) : DX5_taskCount b σ = some (s 4) := by
  rw [← hp.1]
  rfl
theorem pu_arrows (hp : puPl σ b s) : DX5_arrowCount b σ = some (s 77) := by
  rw [← hp.2.1]
  rfl
theorem pu_setting (hp : puPl σ b s) {i : Nat} (hi : i < 4) : DX5_setting b σ (i : Int) = some (s i) := by
  unfold DX5_setting
  rw [pu_atN hi (by decide), Option.bind_some]
  exact congrArg some (hp.2.2.1 i hi)
theorem pu_set0 (hp : puPl σ b s) : DX5_setting b σ 0 = some (s 0) := pu_setting hp (i := 0) (by decide)
theorem pu_set1 (hp : puPl σ b s) : DX5_setting b σ 1 = some (s 1) := pu_setting hp (i := 1) (by decide)
theorem pu_set2 (hp : puPl σ b s) : DX5_setting b σ 2 = some (s 2) := pu_setting hp (i := 2) (by decide)
theorem pu_set3 (hp : puPl σ b s) : DX5_setting b σ 3 = some (s 3) := pu_setting hp (i := 3) (by decide)
theorem pu_group (ho : puOk s) (hp : puPl σ b s) {t : Nat} (ht : (t : Int) < s 4) : DX5_group b σ (t : Int) = some (s (5 + 3 * t)) := by
  unfold DX5_group
  rw [pu_atN (ho.t24 ht) (by decide), Option.bind_some]
  exact congrArg some (hp.2.2.2.1 t ht).1
theorem pu_first (ho : puOk s) (hp : puPl σ b s) {t : Nat} (ht : (t : Int) < s 4) : DX5_first b σ (t : Int) = some (s (6 + 3 * t)) := by
  unfold DX5_first
  rw [pu_atN (ho.t24 ht) (by decide), Option.bind_some]
  exact congrArg some (hp.2.2.2.1 t ht).2.1
theorem pu_length (ho : puOk s) (hp : puPl σ b s) {t : Nat} (ht : (t : Int) < s 4) : DX5_length b σ (t : Int) = some (s (7 + 3 * t)) := by
  unfold DX5_length
  rw [pu_atN (ho.t24 ht) (by decide), Option.bind_some]
  exact congrArg some (hp.2.2.2.1 t ht).2.2
theorem pu_last (ho : puOk s) (hp : puPl σ b s) {t : Nat} (ht : (t : Int) < s 4) : DX5_last b σ (t : Int) = some (puLast s t) := by
  unfold DX5_last
  rw [pu_atN (ho.t24 ht) (by decide), Option.bind_some, pu_atN (ho.t24 ht) (by decide), Option.bind_some]
  show some ((σ (b + 6) t + σ (b + 8) t) - 1) = _
  rw [(hp.2.2.2.1 t ht).2.1, (hp.2.2.2.1 t ht).2.2]
  rfl
theorem pu_from (ho : puOk s) (hp : puPl σ b s) {a : Nat} (ha : (a : Int) < s 77) : DX5_from b σ (a : Int) = some (s (78 + 2 * a)) := by
  unfold DX5_from
  rw [pu_atN (ho.a30 ha) (by decide), Option.bind_some]
  exact congrArg some (hp.2.2.2.2 a ha).1
theorem pu_to (ho : puOk s) (hp : puPl σ b s) {a : Nat} (ha : (a : Int) < s 77) : DX5_to b σ (a : Int) = some (s (79 + 2 * a)) := by
  unfold DX5_to
  rw [pu_atN (ho.a30 ha) (by decide), Option.bind_some]
  exact congrArg some (hp.2.2.2.2 a ha).2
theorem pu_strip {d n : Int} (h0 : 0 ≤ d) (h1 : d ≤ 100000) (h2 : 0 < n) (h3 : n ≤ 100000) : DX8_stripOfDay σ d n = some (d / n) := by
  unfold DX8_stripOfDay
  rw [pu_ifT ⟨by omega, by omega⟩ (by decide) h2, pu_dv h0 (by omega) h2 (by omega)]
theorem pu_hasTask (hp : puPl σ b s) (ho : puOk s) {v : Int} (h1 : gR v) : DX5_hasTask b σ v = some (if 0 ≤ v ∧ v < s 4 then 1 else 0) := by
  have := ho.tasks
  unfold DX5_hasTask
  rw [hp.1, pu_ite h1 (by decide), pu_ite h1 ⟨by omega, by omega⟩, pu_bo (Or.inl rfl), pu_bo (Or.inr rfl)]
  by_cases a : v < 0
  · rw [if_pos a, if_neg (by omega)]
  · rw [if_neg a]
    by_cases c : v < s 4
    · rw [if_pos c, if_pos (by omega)]
    · rw [if_neg c, if_neg (by omega)]
theorem pu_hasArrow (hp : puPl σ b s) (ho : puOk s) {v : Int} (h1 : gR v) : DX5_hasArrow b σ v = some (if 0 ≤ v ∧ v < s 77 then 1 else 0) := by
  have := ho.arrows
  unfold DX5_hasArrow
  rw [hp.2.1, pu_ite h1 (by decide), pu_ite h1 ⟨by omega, by omega⟩, pu_bo (Or.inl rfl), pu_bo (Or.inr rfl)]
  by_cases a : v < 0
  · rw [if_pos a, if_neg (by omega)]
  · rw [if_neg a]
    by_cases c : v < s 77
    · rw [if_pos c, if_pos (by omega)]
    · rw [if_neg c, if_neg (by omega)]
end PUG
