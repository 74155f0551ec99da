/-! arrows as a list of pairs -/
def puHA (s : Nat → Int) (l : List (Int × Int)) : Prop := s 77 = (l.length : Int) ∧ ∀ (i : Nat) (q : Int × Int), l[i]? = some q → s (78 + 2 * i) = q.1 ∧ s (79 + 2 * i) = q.2
def puHB (σ : gSt) (b : Nat) (l : List (Int × Int)) : Prop := σ b 7 = (l.length : Int) ∧ ∀ (i : Nat) (q : Int × Int), l[i]? = some q → σ (b + 10) i = q.1 ∧ σ (b + 12) i = q.2
def puEnds (n : Int) (l : List (Int × Int)) : Prop := ∀ q ∈ l, (0 ≤ q.1 ∧ q.1 < n) ∧ (0 ≤ q.2 ∧ q.2 < n)
theorem puHA_of {s : Nat → Int} (ho : puOk s) : ∃ l, puHA s l ∧ l.length ≤ 30 ∧ puEnds (s 4) l := by
  have h77 := ho.arrows
  have hg : ∀ (i : Nat) (q : Int × Int), ((List.range (s 77).toNat).map (fun a => (s (78 + 2 * a), s (79 + 2 * a))))[i]? = some q → i < (s 77).toNat ∧ q = (s (78 + 2 * i), s (79 + 2 * i)) := by
    intro i q h
    rw [List.getElem?_map] at h
    by_cases e : i < (s 77).toNat
    · rw [List.getElem?_range e] at h
      exact ⟨e, (Option.some.inj h).symm⟩
    · rw [List.getElem?_eq_none (by simpa using e)] at h
      cases h
  refine ⟨(List.range (s 77).toNat).map (fun a => (s (78 + 2 * a), s (79 + 2 * a))), ⟨?_, fun i q h => ?_⟩, ?_, fun q hq => ?_⟩
  · simp
    omega
  · rw [(hg i q h).2]
    exact ⟨rfl, rfl⟩
  · simp
    omega
  · obtain ⟨i, hi⟩ := List.mem_iff_getElem?.mp hq
    obtain ⟨h1, h2⟩ := hg i q hi
    rw [h2]
    exact ⟨ho.fr (by omega), ho.to (by omega)⟩
theorem puHB_of {σ : gSt} {b : Nat} {s : Nat → Int} {l : List (Int × Int)} (hp : puPl σ b s) (h : puHA s l) : puHB σ b l := by
  refine ⟨by rw [hp.2.1, h.1], fun i q hi => ?_⟩
  have hlt := (List.getElem?_eq_some_iff.mp hi).1
  obtain ⟨g1, g2⟩ := hp.2.2.2.2 i (by rw [h.1]; omega)
  obtain ⟨e1, e2⟩ := h.2 i q hi
  exact ⟨by rw [g1, e1], by rw [g2, e2]⟩
theorem puOk_mk {s : Nat → Int} {l : List (Int × Int)} (h0 : 3 ≤ s 0 ∧ s 0 ≤ 20) (h1 : 5 ≤ s 1 ∧ s 1 ≤ 60) (h2 : 0 ≤ s 2 ∧ s 2 ≤ 1) (h3 : 0 ≤ s 3 ∧ s 3 ≤ 1) (h4 : 0 ≤ s 4 ∧ s 4 ≤ 24) (ht : ∀ t : Nat, (t : Int) < s 4 → (0 ≤ s (5 + 3 * t) ∧ s (5 + 3 * t) ≤ 5) ∧ (0 ≤ s (6 + 3 * t) ∧ s (6 + 3 * t) ≤ 199) ∧ (1 ≤ s (7 + 3 * t) ∧ s (7 + 3 * t) ≤ 60)) (h : puHA s l) (hl : l.length ≤ 30) (hm : puEnds (s 4) l) : puOk s := by
  refine ⟨h0, h1, h2, h3, h4, by rw [h.1]; omega, ht, fun a ha => ?_⟩
  rw [h.1] at ha
  obtain ⟨q, hq⟩ : ∃ q, l[a]? = some q := ⟨_, List.getElem?_eq_some_iff.mpr ⟨by omega, rfl⟩⟩
  obtain ⟨e1, e2⟩ := h.2 a q hq
  rw [e1, e2]
  exact hm q (List.mem_of_getElem? hq)
theorem puPl_mk {σ : gSt} {b : Nat} {s : Nat → Int} {l : List (Int × Int)} (h6 : σ b 6 = s 4) (h3 : ∀ i : Nat, i < 4 → σ (b + 2) i = s i) (ht : ∀ t : Nat, (t : Int) < s 4 → σ (b + 4) t = s (5 + 3 * t) ∧ σ (b + 6) t = s (6 + 3 * t) ∧ σ (b + 8) t = s (7 + 3 * t)) (hA : puHA s l) (hB : puHB σ b l) : puPl σ b s := by
  refine ⟨h6, by rw [hA.1, hB.1], h3, ht, fun a ha => ?_⟩
  rw [hA.1] at ha
  obtain ⟨q, hq⟩ : ∃ q, l[a]? = some q := ⟨_, List.getElem?_eq_some_iff.mpr ⟨by omega, rfl⟩⟩
  obtain ⟨e1, e2⟩ := hA.2 a q hq
  obtain ⟨e3, e4⟩ := hB.2 a q hq
  exact ⟨by rw [e1, e3], by rw [e2, e4]⟩
/-! is there such an arrow -/
def puHas (l : List (Int × Int)) (u v : Int) : Nat → Bool
  | 0 => false
  | n + 1 => puHas l u v n || decide (l[n]? = some (u, v))
theorem puHas_T {l : List (Int × Int)} {u v : Int} : ∀ n i : Nat, i < n → l[i]? = some (u, v) → puHas l u v n = true := by
  intro n
  induction n with
  | zero => intro i h; omega
  | succ n ih =>
    intro i hi h
    show (puHas l u v n || decide (l[n]? = some (u, v))) = true
    by_cases e : i = n
    · rw [← e, decide_eq_true h, Bool.or_true]
    · rw [ih i (by omega) h, Bool.true_or]
theorem pu_hasC_L {σ : gSt} {b : Nat} {l : List (Int × Int)} (hB : puHB σ b l) (hl : l.length ≤ 30) {u v : Int} (hu : gR u) (hv : gR v) (hr : ∀ q ∈ l, gR q.1 ∧ gR q.2) : ∀ (f x : Nat), l.length - x < f → x ≤ l.length → puHas l u v x = false → DX5_hasArrowBetween_L2 b σ u v f (x : Int) = some (if puHas l u v l.length = true then 1 else 0) := by
  intro f
  induction f with
  | zero => intro x h; omega
  | succ f ih =>
    intro x hf hx hno
    rw [DX5_hasArrowBetween_L2, hB.1]
    by_cases c : x < l.length
    · obtain ⟨q, hq⟩ : ∃ q, l[x]? = some q := ⟨_, List.getElem?_eq_some_iff.mpr ⟨c, rfl⟩⟩
      obtain ⟨e1, e2⟩ := hB.2 x q hq
      obtain ⟨r1, r2⟩ := hr q (List.mem_of_getElem? hq)
      rw [pu_ifT ⟨by omega, by omega⟩ ⟨by omega, by omega⟩ (by omega)]
      unfold DX5_from DX5_to DX5_hasArrowBetween_J30
      rw [pu_atN (by omega) (by decide), Option.bind_some, Option.bind_some, pu_atN (by omega) (by decide), Option.bind_some, Option.bind_some, show σ (b + 9 + 1) x = q.1 from e1, show σ (b + 11 + 1) x = q.2 from e2, pu_bo (Or.inr rfl), show ((x : Int) + 1) = ((x + 1 : Nat) : Int) by omega]
      have hnext : ¬ (q.1 = u ∧ q.2 = v) → DX5_hasArrowBetween_L2 b σ u v f ((x + 1 : Nat) : Int) = some (if puHas l u v l.length = true then 1 else 0) := by
        intro hne
        refine ih (x + 1) (by omega) (by omega) ?_
        show (puHas l u v x || decide (l[x]? = some (u, v))) = false
        rw [hno, Bool.false_or, hq]
        exact decide_eq_false (fun z => hne (by cases z; exact ⟨rfl, rfl⟩))
      by_cases c1 : q.1 = u
      · rw [pu_ifT r1 hu c1]
        by_cases c2 : q.2 = v
        · rw [pu_ifT r2 hv c2, if_pos (puHas_T l.length x c (by rw [hq, ← c1, ← c2]))]
        · rw [pu_ifF r2 hv c2]
          exact hnext (fun z => c2 z.2)
      · rw [pu_ifF r1 hu c1]
        exact hnext (fun z => c1 z.1)
    · rw [pu_ifF ⟨by omega, by omega⟩ ⟨by omega, by omega⟩ (by omega), pu_bo (Or.inl rfl), show l.length = x by omega, hno]; rfl
theorem pu_hasC {σ : gSt} {b : Nat} {l : List (Int × Int)} (hB : puHB σ b l) (hl : l.length ≤ 30) {u v : Int} (hu : gR u) (hv : gR v) (hr : ∀ q ∈ l, gR q.1 ∧ gR q.2) : DX5_hasArrowBetween b σ u v = some (if puHas l u v l.length = true then 1 else 0) :=
  pu_hasC_L hB hl hu hv hr gFuel 0 (by rw [gFuel_eq]; omega) (Nat.zero_le _) rfl
/-! one more arrow -/
theorem pu_snoc {l : List (Int × Int)} {a q : Int × Int} {i : Nat} (h : (l ++ [a])[i]? = some q) : (i < l.length ∧ l[i]? = some q) ∨ (i = l.length ∧ q = a) := by
  by_cases c : i < l.length
  · rw [List.getElem?_append_left c] at h
    exact Or.inl ⟨c, h⟩
  · rw [List.getElem?_append_right (by omega)] at h
    have hlt := (List.getElem?_eq_some_iff.mp h).1
    have e : i = l.length := by
      have : i - l.length < 1 := hlt
      omega
    subst e
    rw [Nat.sub_self] at h
    exact Or.inr ⟨rfl, (Option.some.inj h).symm⟩
theorem pu_tellArrow {σ : gSt} {b : Nat} {l : List (Int × Int)} (hB : puHB σ b l) (hl : l.length < 30) (u v : Int) : puP (DX5_tellArrow b σ u v) (fun r => r.1 = (l.length : Int) ∧ puHB r.2 b (l ++ [(u, v)]) ∧ (∀ k, k ≠ b → k ≠ b + 10 → k ≠ b + 12 → r.2 k = σ k) ∧ (∀ i, i ≠ 7 → r.2 b i = σ b i)) := by
  unfold DX5_tellArrow
  rw [hB.1, pu_ifT ⟨by omega, by omega⟩ (by decide) (by omega), pu_putN hl (by decide), Option.bind_some, show gUp σ (b + 9 + 1) l.length u b 7 = (l.length : Int) by rw [pu_upK (by omega), hB.1], pu_putN hl (by decide), Option.bind_some]
  have hK : ∀ k, k ≠ b + 10 → k ≠ b + 12 → gUp (gUp σ (b + 9 + 1) l.length u) (b + 11 + 1) l.length v k = σ k := fun k k1 k2 => by rw [pu_upK k2, pu_upK k1]
  have h7 : gUp (gUp σ (b + 9 + 1) l.length u) (b + 11 + 1) l.length v b 7 = (l.length : Int) := by rw [hK b (by omega) (by omega), hB.1]
  rw [h7, pu_upE]
  refine pu_some ⟨by show (l.length : Int) + 1 - 1 = (l.length : Int); omega, ⟨?_, fun i q hi => ?_⟩, fun k k1 k2 k3 => ?_, fun i hi => ?_⟩
  · show gUp _ b 7 ((l.length : Int) + 1) b 7 = _
    rw [pu_upE, List.length_append]
    show (l.length : Int) + 1 = ((l.length + 1 : Nat) : Int)
    omega
  · show gUp (gUp (gUp σ (b + 9 + 1) l.length u) (b + 11 + 1) l.length v) b 7 ((l.length : Int) + 1) (b + 10) i = _ ∧ gUp (gUp (gUp σ (b + 9 + 1) l.length u) (b + 11 + 1) l.length v) b 7 ((l.length : Int) + 1) (b + 12) i = _
    rw [pu_upK (k' := b + 10) (by omega), pu_upK (k' := b + 10) (by omega), pu_upK (k' := b + 12) (by omega)]
    rcases pu_snoc hi with ⟨c, h⟩ | ⟨c, h⟩
    · rw [pu_upI (by omega), pu_upI (by omega), pu_upK (k' := b + 12) (by omega)]
      exact hB.2 i q h
    · rw [h, c]
      exact ⟨pu_upE _ _ _ _, pu_upE _ _ _ _⟩
  · show gUp _ b 7 ((l.length : Int) + 1) k = _
    rw [pu_upK k1, hK k k2 k3]
  · show gUp _ b 7 ((l.length : Int) + 1) b i = _
    rw [pu_upI hi, hK b (by omega) (by omega)]
theorem puEnds.gR {n : Int} {l : List (Int × Int)} (h : puEnds n l) (hn : n ≤ 24) : ∀ q ∈ l, gR q.1 ∧ gR q.2 := fun q hq => by
  obtain ⟨⟨h1, h2⟩, h3, h4⟩ := h q hq
  exact ⟨⟨by omega, by omega⟩, ⟨by omega, by omega⟩⟩
