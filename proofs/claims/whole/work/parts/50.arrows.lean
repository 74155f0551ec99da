/-! arrows as a list of pairs -/
def puHA (s : Nat → Int) (l : List (Int × Int)) : Prop := s 77 = (l.length : Int) ∧ ∀ (i : Nat) (q : Int × Int), l[i]? = some q → s (78 + 2 * i) = q.1 ∧ s (79 + 2 * i) = q.2
def puHB (σ : gSt) (b : Nat) (l : List (Int × Int)) : Prop := σ b 7 = (l.length : Int) ∧ ∀ (i : Nat) (q : Int × Int), l[i]? = some q → σ (b + 10) i = q.1 ∧ σ (b + 12) i = q.2
def puEnds (n : Int) (l : List (Int × Int)) : Prop := ∀ q ∈ l, (0 ≤ q.1 ∧ q.1 < n) ∧ (0 ≤ q.2 ∧ q.2 < n)
theorem puHA_of {s : Nat → Int} (ho : puOk s) : ∃ l, puHA s l ∧ l.length ≤ 30 ∧ puEnds (s 4) l := by
  have h77 := ho.arrows
  have hg : ∀ (i : Nat) (q : Int × Int), ((List.range (s 77).toNat).map (fun a => (s (78 + 2 * a), s (79 + 2 * a))))[i]? = some q → i < (s 77).toNat ∧ q = (s (78 + 2 * i), s (79 + 2 * i)) := by
    intro i q h
    rw [List.getElem?_map] at h
    by_cases e : i < (s 77).toNat
    · rw [List.getElem?_range e] at h
      exact ⟨e, (Option.some.inj h).symm⟩
    · rw [List.getElem?_eq_none (by simpa using e)] at h
      cases h
  refine ⟨(List.range (s 77).toNat).map (fun a => (s (78 + 2 * a), s (79 + 2 * a))), ⟨?_, fun i q h => ?_⟩, ?_, fun q hq => ?_⟩
  · simp
    omega
  · rw [(hg i q h).2]
    exact ⟨rfl, rfl⟩
  · simp
    omega
  · obtain ⟨i, hi⟩ := List.mem_iff_getElem?.mp hq
    obtain ⟨h1, h2⟩ := hg i q hi
    rw [h2]
    exact ⟨ho.fr (by omega), ho.to (by omega)⟩
theorem puHB_of {σ : gSt} {b : Nat} {s : Nat → Int} {l : List (Int × Int)} (hp : puPl σ b s) (h : puHA s l) : puHB σ b l := by
  refine ⟨by rw [hp.2.1, h.1], fun i q hi => ?_⟩
  have hlt := (List.getElem?_eq_some_iff.mp hi).1
  obtain ⟨g1, g2⟩ := hp.2.2.2.2 i (by rw [h.1]; omega)
  obtain ⟨e1, e2⟩ := h.2 i q hi
  exact ⟨by rw [g1, e1], by rw [g2, e2]⟩
theorem puOk_mk {s : Nat → Int} {l : List (Int × Int)} (h0 : 3 ≤ s 0 ∧ s 0 ≤ 20) (h1 : 5 ≤ s 1 ∧ s 1 ≤ 60) (h2 : 0 ≤ s 2 ∧ s 2 ≤ 1) (h3 : 0 ≤ s 3 ∧ s 3 ≤ 1) (h4 : 0 ≤ s 4 ∧ s 4 ≤ 24) (ht : ∀ t : Nat, (t : Int) < s 4 → (0 ≤ s (5 + 3 * t) ∧ s (5 + 3 * t) ≤ 5) ∧ (0 ≤ s (6 + 3 * t) ∧ s (6 + 3 * t) ≤ 199) ∧ (1 ≤ s (7 + 3 * t) ∧ s (7 + 3 * t) ≤ 60)) (h : puHA s l) (hl : l.length ≤ 30) (hm : puEnds (s 4) l) : puOk s := by
  refine ⟨h0, h1, h2, h3, h4, by rw [h.1]; omega, ht, fun a ha => ?_⟩
  rw [h.1] at ha
  obtain ⟨q, hq⟩ : ∃ q, l[a]? = some q := ⟨_, List.getElem?_eq_some_iff.mpr ⟨by omega, rfl⟩⟩
  obtain ⟨e1, e2⟩ := h.2 a q hq
  rw [e1, e2]
  exact hm q (List.mem_of_getElem? hq)
theorem puPl_mk {σ : gSt} {b : Nat} {s : Nat → Int} {l : List (Int × Int)} (h6 : σ b 6 = s 4) (h3 : ∀ i : Nat, i < 4 → σ (b + 2) i = s i) (ht : ∀ t : Nat, (t : Int) < s 4 → σ (b + 4) t = s (5 + 3 * t) ∧ σ (b + 6) t = s (6 + 3 * t) ∧ σ (b + 8) t = s (7 + 3 * t)) (hA : puHA s l) (hB : puHB σ b l) : puPl σ b s := by
  refine ⟨h6, by rw [hA.1, hB.1], h3, ht, fun a ha => ?_⟩
  rw [hA.1] at ha
  obtain ⟨q, hq⟩ : ∃ q, l[a]? = some q := ⟨_, List.getElem?_eq_some_iff.mpr ⟨by omega, rfl⟩⟩
  obtain ⟨e1, e2⟩ := hA.2 a q hq
  obtain ⟨e3, e4⟩ := hB.2 a q hq
  exact ⟨by rw [e1, e3], by rw [e2, e4]⟩
/-! is there such an arrow -/
def puHas (l : List (Int × Int)) (u v : Int) : Nat → Bool
  | 0 => false
  | n + 1 => puHas l u v n || decide (l[n]? = some (u, v))
theorem puHas_T {l : List (Int × Int)} {u v : Int} : ∀ n i : Nat, i < n → l[i]? = some (u, v) → puHas l u v n = true := by
  intro n
  induction n with
  | zero => intro i h; omega
  | succ n ih =>
    intro i hi h
    show (puHas l u v n || decide (l[n]? = some (u, v))) = true
    by_cases e : i = n
    · rw [← e, decide_eq_true h, Bool.or_true]
    · rw [ih i (by omega) h, Bool.true_or]
theorem pu_hasC_L {σ : gSt} {b : Nat} {l : List (Int × Int)} (hB : puHB σ b l) (hl : l.length ≤ 30) {u v : Int} (hu : gR u) (hv : gR v) (hr : ∀ q ∈ l, gR q.1 ∧ gR q.2) : ∀ (f x : Nat), l.length - x < f → x ≤ l.length → puHas l u v x = false → DX5_hasArrowBetween_L2 b σ u v f (x : Int) = some (if puHas l u v l.length = true then 1 else 0) := by
  intro f
  induction f with
  | zero => intro x h; omega
  | succ f ih =>
    intro x hf hx hno
    rw [DX5_hasArrowBetween_L2, hB.1]
    by_cases c : x < l.length
    · obtain ⟨q, hq⟩ : ∃ q, l[x]? = some q := ⟨_, List.getElem?_eq_some_iff.mpr ⟨c, rfl⟩⟩
      obtain ⟨e1, e2⟩ := hB.2 x q hq
      obtain ⟨r1, r2⟩ := hr q (List.mem_of_getElem? hq)
      rw [pu_ifT ⟨by omega, by omega⟩ ⟨by omega, by omega⟩ (by omega)]
      unfold DX5_from DX5_to DX5_hasArrowBetween_J30
      rw [pu_atN (by omega) (by decide), Option.bind_some, Option.bind_some, pu_atN (by omega) (by decide), Option.bind_some, Option.bind_some, show σ (b + 9 + 1) x = q.1 from e1, show σ (b + 11 + 1) x = q.2 from e2, pu_bo (Or.inr rfl), show ((x : Int) + 1) = ((x + 1 : Nat) : Int) by omega]
      have hnext : ¬ (q.1 = u ∧ q.2 = v) → DX5_hasArrowBetween_L2 b σ u v f ((x + 1 : Nat) : Int) = some (if puHas l u v l.length = true then 1 else 0) := by
        intro hne
        refine ih (x + 1) (by omega) (by omega) ?_
        show (puHas l u v x || decide (l[x]? = some (u, v))) = false
        rw [hno, Bool.false_or, hq]
        exact decide_eq_false (fun z => hne (by cases z; exact ⟨rfl, rfl⟩))
      by_cases c1 : q.1 = u
      · rw [pu_ifT r1 hu c1]
        by_cases c2 : q.2 = v
        · rw [pu_ifT r2 hv c2, if_pos (puHas_T l.length x c (by rw [hq, ← c1, ← c2]))]
        · rw [pu_ifF r2 hv c2]
          exact hnext (fun z => c2 z.2)
      · rw [pu_ifF r1 hu c1]
        exact hnext (fun z => c1 z.1)
    · rw [pu_ifF ⟨by omega, by omega⟩ ⟨by omega, by omega⟩ (by omega), pu_bo (Or.inl rfl), show l.length = x by omega, hno]; rfl
theorem pu_hasC {σ : gSt} {b : Nat} {l : List (Int × Int)} (hB : puHB σ b l) (hl : l.length ≤ 30) {u v : Int} (hu : gR u) (hv : gR v) (hr : ∀ q ∈ l, gR q.1 ∧ gR q.2) : DX5_hasArrowBetween b σ u v = some (if puHas l u v l.length = true then 1 else 0) :=
  pu_hasC_L hB hl hu hv hr gFuel 0 (by rw [gFuel_eq]; omega) (Nat.zero_le _) rfl
theorem pu_hasR_L {σ : gSt} {l : List (Int × Int)} (hA : puHA (σ 137) l) (hl : l.length ≤ 30) {u v : Int} (hu : gR u) (hv : gR v) (hr : ∀ q ∈ l, gR q.1 ∧ gR q.2) : ∀ (f x : Nat), l.length - x < f → x ≤ l.length → DX9_hasArrow_L5 σ u v f (x : Int) (if puHas l u v x = true then 1 else 0) = some (if puHas l u v l.length = true then 1 else 0) := by
  intro f
  induction f with
  | zero => intro x h; omega
  | succ f ih =>
    intro x hf hx
    have e77 : σ 137 (Int.toNat (77 : Int)) = (l.length : Int) := hA.1
    rw [DX9_hasArrow_L5, pu_gat (by decide) (by decide), e77]
    by_cases c : x < l.length
    · obtain ⟨q, hq⟩ : ∃ q, l[x]? = some q := ⟨_, List.getElem?_eq_some_iff.mpr ⟨c, rfl⟩⟩
      obtain ⟨e1, e2⟩ := hA.2 x q hq
      obtain ⟨r1, r2⟩ := hr q (List.mem_of_getElem? hq)
      have hh := ih (x + 1) (by omega) (by omega)
      have hst : puHas l u v (x + 1) = (puHas l u v x || decide (l[x]? = some (u, v))) := rfl
      rw [pu_ifT ⟨by omega, by omega⟩ ⟨by omega, by omega⟩ (by omega)]
      unfold DX9_end DX9_hasArrow_J43 DX9_hasArrow_J47 DX9_hasArrow_J48
      rw [show ((x : Int) + 1) = ((x + 1 : Nat) : Int) by omega, pu_gat (by omega) (by omega), Option.bind_some, pu_gat (by omega) (by omega), Option.bind_some, show Int.toNat ((78 : Int) + 2 * (x : Int) + 0) = 78 + 2 * x by omega, show Int.toNat ((78 : Int) + 2 * (x : Int) + 1) = 79 + 2 * x by omega, e1, e2]
      cases hw : puHas l u v x
      · rw [if_neg (by decide), pu_ifT (by decide) (by decide) rfl]
        have hno : ¬ (q.1 = u ∧ q.2 = v) → puHas l u v (x + 1) = false := fun hne => by
          rw [hst, hw, Bool.false_or, hq]
          exact decide_eq_false (fun z => hne (by cases z; exact ⟨rfl, rfl⟩))
        by_cases c1 : q.1 = u
        · rw [pu_ifT r1 hu c1]
          by_cases c2 : q.2 = v
          · rw [pu_ifT r2 hv c2]
            rw [puHas_T (x + 1) x (Nat.lt_succ_self x) (by rw [hq, ← c1, ← c2]), if_pos rfl] at hh
            exact hh
          · rw [pu_ifF r2 hv c2]
            rw [hno (fun z => c2 z.2), if_neg (by decide)] at hh
            exact hh
        · rw [pu_ifF r1 hu c1]
          rw [hno (fun z => c1 z.1), if_neg (by decide)] at hh
          exact hh
      · rw [if_pos rfl, pu_ifF (by decide) (by decide) (by decide)]
        rw [show puHas l u v (x + 1) = true by rw [hst, hw, Bool.true_or], if_pos rfl] at hh
        exact hh
    · rw [pu_ifF ⟨by omega, by omega⟩ ⟨by omega, by omega⟩ (by omega), show l.length = x by omega]
      refine pu_bo ?_
      split
      · exact Or.inr rfl
      · exact Or.inl rfl
theorem pu_hasR {σ : gSt} {l : List (Int × Int)} (hA : puHA (σ 137) l) (hl : l.length ≤ 30) {u v : Int} (hu : gR u) (hv : gR v) (hr : ∀ q ∈ l, gR q.1 ∧ gR q.2) : DX9_hasArrow σ u v = some (if puHas l u v l.length = true then 1 else 0) :=
  pu_hasR_L hA hl hu hv hr gFuel 0 (by rw [gFuel_eq]; omega) (Nat.zero_le _)
/-! one more arrow -/
theorem pu_snoc {l : List (Int × Int)} {a q : Int × Int} {i : Nat} (h : (l ++ [a])[i]? = some q) : (i < l.length ∧ l[i]? = some q) ∨ (i = l.length ∧ q = a) := by
  by_cases c : i < l.length
  · rw [List.getElem?_append_left c] at h
    exact Or.inl ⟨c, h⟩
  · rw [List.getElem?_append_right (by omega)] at h
    have hlt := (List.getElem?_eq_some_iff.mp h).1
    have e : i = l.length := by
      have : i - l.length < 1 := hlt
      omega
    subst e
    rw [Nat.sub_self] at h
    exact Or.inr ⟨rfl, (Option.some.inj h).symm⟩
theorem pu_tellArrow {σ : gSt} {b : Nat} {l : List (Int × Int)} (hB : puHB σ b l) (hl : l.length < 30) (u v : Int) : puP (DX5_tellArrow b σ u v) (fun r => r.1 = (l.length : Int) ∧ puHB r.2 b (l ++ [(u, v)]) ∧ (∀ k, k ≠ b → k ≠ b + 10 → k ≠ b + 12 → r.2 k = σ k) ∧ (∀ i, i ≠ 7 → r.2 b i = σ b i)) := by
  unfold DX5_tellArrow
  rw [hB.1, pu_ifT ⟨by omega, by omega⟩ (by decide) (by omega), pu_putN hl (by decide), Option.bind_some, show gUp σ (b + 9 + 1) l.length u b 7 = (l.length : Int) by rw [pu_upK (by omega), hB.1], pu_putN hl (by decide), Option.bind_some]
  have hK : ∀ k, k ≠ b + 10 → k ≠ b + 12 → gUp (gUp σ (b + 9 + 1) l.length u) (b + 11 + 1) l.length v k = σ k := fun k k1 k2 => by rw [pu_upK k2, pu_upK k1]
  have h7 : gUp (gUp σ (b + 9 + 1) l.length u) (b + 11 + 1) l.length v b 7 = (l.length : Int) := by rw [hK b (by omega) (by omega), hB.1]
  rw [h7, pu_upE]
  refine pu_some ⟨by show (l.length : Int) + 1 - 1 = (l.length : Int); omega, ⟨?_, fun i q hi => ?_⟩, fun k k1 k2 k3 => ?_, fun i hi => ?_⟩
  · show gUp _ b 7 ((l.length : Int) + 1) b 7 = _
    rw [pu_upE, List.length_append]
    show (l.length : Int) + 1 = ((l.length + 1 : Nat) : Int)
    omega
  · show gUp (gUp (gUp σ (b + 9 + 1) l.length u) (b + 11 + 1) l.length v) b 7 ((l.length : Int) + 1) (b + 10) i = _ ∧ gUp (gUp (gUp σ (b + 9 + 1) l.length u) (b + 11 + 1) l.length v) b 7 ((l.length : Int) + 1) (b + 12) i = _
    rw [pu_upK (k' := b + 10) (by omega), pu_upK (k' := b + 10) (by omega), pu_upK (k' := b + 12) (by omega)]
    rcases pu_snoc hi with ⟨c, h⟩ | ⟨c, h⟩
    · rw [pu_upI (by omega), pu_upI (by omega), pu_upK (k' := b + 12) (by omega)]
      exact hB.2 i q h
    · rw [h, c]
      exact ⟨pu_upE _ _ _ _, pu_upE _ _ _ _⟩
  · show gUp _ b 7 ((l.length : Int) + 1) k = _
    rw [pu_upK k1, hK k k2 k3]
  · show gUp _ b 7 ((l.length : Int) + 1) b i = _
    rw [pu_upI hi, hK b (by omega) (by omega)]
theorem pu_arrowComes {σ : gSt} {l : List (Int × Int)} (hA : puHA (σ 137) l) (hl : l.length < 30) (u v : Int) : puP (DX9_arrowComes σ u v) (fun σ' => puHA (σ' 137) (l ++ [(u, v)]) ∧ (∀ j, j < 77 → σ' 137 j = σ 137 j) ∧ (∀ k, k ≠ 137 → σ' k = σ k)) := by
  have e77 : σ 137 (Int.toNat (77 : Int)) = (l.length : Int) := hA.1
  unfold DX9_arrowComes
  rw [e77, pu_gat (by decide) (by decide), pu_gat (by omega) (by omega), pu_gat (by decide) (by decide), show Int.toNat ((78 : Int) + 2 * (l.length : Int)) = 78 + 2 * l.length by omega, show Int.toNat (77 : Int) = 77 from rfl]
  have e7 : gUp σ 137 (78 + 2 * l.length) u 137 77 = (l.length : Int) := by rw [pu_upI (by omega)]; exact hA.1
  rw [e7, pu_gat (by omega) (by omega), pu_gat (by decide) (by decide), pu_gat (by decide) (by decide), show Int.toNat ((78 : Int) + 2 * (l.length : Int) + 1) = 79 + 2 * l.length by omega]
  have e8 : gUp (gUp σ 137 (78 + 2 * l.length) u) 137 (79 + 2 * l.length) v 137 77 = (l.length : Int) := by rw [pu_upI (by omega), e7]
  rw [e8]
  refine pu_some ⟨⟨?_, fun i q hi => ?_⟩, fun j hj => ?_, fun k hk => ?_⟩
  · rw [pu_upE, List.length_append]
    show (l.length : Int) + 1 = ((l.length + 1 : Nat) : Int)
    omega
  · rw [pu_upI (i' := 78 + 2 * i) (by omega), pu_upI (i' := 79 + 2 * i) (by omega), pu_upI (i' := 78 + 2 * i) (by omega)]
    rcases pu_snoc hi with ⟨c, h⟩ | ⟨c, h⟩
    · rw [pu_upI (by omega), pu_upI (by omega), pu_upI (by omega)]
      exact hA.2 i q h
    · rw [h, c]
      exact ⟨pu_upE _ _ _ _, pu_upE _ _ _ _⟩
  · rw [pu_upI (by omega), pu_upI (by omega), pu_upI (by omega)]
  · rw [pu_upK hk, pu_upK hk, pu_upK hk]
theorem puEnds.gR {n : Int} {l : List (Int × Int)} (h : puEnds n l) (hn : n ≤ 24) : ∀ q ∈ l, gR q.1 ∧ gR q.2 := fun q hq => by
  obtain ⟨⟨h1, h2⟩, h3, h4⟩ := h q hq
  exact ⟨⟨by omega, by omega⟩, ⟨by omega, by omega⟩⟩
theorem pu_5 {σ : gSt} {μ : gLg} (xs : Nat → Int32) (j : Nat) (hI : puInv σ) : puP (DL_c5 xs j σ μ) (fun r => puInv r.1) := by
  unfold DL_c5
  have hx := gR_x (xs (Int.toNat ((4 * (j : Int)) + (1 : Int))))
  have hy := gR_x (xs (Int.toNat ((4 * (j : Int)) + (2 : Int))))
  generalize (xs (Int.toNat ((4 * (j : Int)) + (1 : Int)))).toInt = u at hx ⊢
  generalize (xs (Int.toNat ((4 * (j : Int)) + (2 : Int)))).toInt = v at hy ⊢
  refine pu_stepS (y := fun τ => DX9_addArrow τ u v) ?_
  have ho := hI.1
  have hn := ho.tasks
  by_cases c : 0 ≤ u ∧ u < σ 137 4
  · by_cases c2 : 0 ≤ v ∧ v < σ 137 4
    · by_cases c3 : u = v
      · refine puAnsS.no (hI.six 2) (k := 1) (r := 0) ?_ rfl (Or.inr (Or.inl rfl)) ?_
        · unfold DX8_addArrow
          rw [pu_reqTask ho hI.2.1.1 hx, if_pos c, pu_xbR, pu_reqTask ho hI.2.1.1 hy, if_pos c2, pu_xbR, pu_ifT hx hy c3]
        · show DX9_addArrow σ u v = _
          unfold DX9_addArrow
          rw [pu_isTask ho hx, Option.bind_some, if_pos c, pu_ifF (by decide) (by decide) (by decide), pu_isTask ho hy, Option.bind_some, if_pos c2, pu_ifF (by decide) (by decide) (by decide), pu_ifT hx hy c3]; rfl
      · obtain ⟨l, hA, hl, hE⟩ := puHA_of ho
        have hB := puHB_of hI.2.1.1 hA
        have hr := hE.gR hn.2
        have hcC := pu_hasC hB hl hx hy hr
        have hcR := pu_hasR hA hl hx hy hr
        by_cases c4 : puHas l u v l.length = true ∨ l.length = 30
        · refine puAnsS.no (hI.six 3) (k := 2) (r := 0) ?_ rfl (Or.inr (Or.inr rfl)) ?_
          · unfold DX8_addArrow DX8_addArrow_J49
            rw [pu_reqTask ho hI.2.1.1 hx, if_pos c, pu_xbR, pu_reqTask ho hI.2.1.1 hy, if_pos c2, pu_xbR, pu_ifF hx hy c3, hcC, Option.bind_some]
            by_cases c5 : puHas l u v l.length = true
            · rw [if_pos c5, pu_ifF (by decide) (by decide) (by decide)]
            · rw [if_neg c5, pu_ifT (by decide) (by decide) rfl, pu_arrows hI.2.1.1, Option.bind_some, hA.1]
              have : l.length = 30 := c4.elim (fun z => absurd z c5) id
              rw [pu_ifF ⟨by omega, by omega⟩ (by decide) (by omega)]
          · show DX9_addArrow σ u v = _
            unfold DX9_addArrow DX9_addArrow_J54
            rw [pu_isTask ho hx, Option.bind_some, if_pos c, pu_ifF (by decide) (by decide) (by decide), pu_isTask ho hy, Option.bind_some, if_pos c2, pu_ifF (by decide) (by decide) (by decide), pu_ifF hx hy c3, hcR, Option.bind_some]
            by_cases c5 : puHas l u v l.length = true
            · rw [if_pos c5, pu_ifF (by decide) (by decide) (by decide)]; rfl
            · rw [if_neg c5, pu_ifT (by decide) (by decide) rfl, pu_gat (by decide) (by decide), show σ 137 (Int.toNat (77 : Int)) = (l.length : Int) from hA.1]
              have : l.length = 30 := c4.elim (fun z => absurd z c5) id
              rw [pu_ifT ⟨by omega, by omega⟩ (by decide) (by omega)]; rfl
        · have c5 : ¬ puHas l u v l.length = true := fun z => c4 (Or.inl z)
          have c6 : l.length < 30 := by
            have : ¬ l.length = 30 := fun z => c4 (Or.inr z)
            omega
          obtain ⟨nx, cc, p, hC, hR⟩ := puHis_to hI.2.2.1
          obtain ⟨σ1, e1, hC1, k1⟩ := pu_save ho hI.2.1.1 hC
          have hp1 : puPl σ1 1 (σ 137) := hI.2.1.1.same (fun k a1 a2 => k1 k (by omega))
          obtain ⟨⟨r, σ2⟩, e2, r1, hB2, k2, i2⟩ := pu_tellArrow (puHB_of hp1 hA) c6 u v
          have r1 : r = (l.length : Int) := r1
          have hB2 : puHB σ2 1 (l ++ [(u, v)]) := hB2
          have k2 : ∀ k, k ≠ 1 → k ≠ 11 → k ≠ 13 → σ2 k = σ1 k := k2
          have i2 : ∀ i, i ≠ 7 → σ2 1 i = σ1 1 i := i2
          -- the reference's new row, named ahead
          obtain ⟨τA, eA, hA2, jA, kA⟩ := pu_arrowComes (σ := σ) hA c6 u v
          have ho2 : puOk (τA 137) := by
            refine puOk_mk (l := l ++ [(u, v)]) (by rw [jA 0 (by decide)]; exact ho.rows) (by rw [jA 1 (by decide)]; exact ho.days) (by rw [jA 2 (by decide)]; exact ho.keep) (by rw [jA 3 (by decide)]; exact ho.order) (by rw [jA 4 (by decide)]; exact ho.tasks) (fun t ht => ?_) hA2 (by rw [List.length_append]; show l.length + 1 ≤ 30; omega) (fun q hq => ?_)
            · rw [jA 4 (by decide)] at ht
              have := ho.t24 ht
              rw [jA _ (by omega), jA _ (by omega), jA _ (by omega)]
              exact ⟨ho.g ht, ho.f ht, ho.l ht⟩
            · rw [jA 4 (by decide)]
              rcases List.mem_append.mp hq with hq | hq
              · exact hE q hq
              · rw [List.mem_singleton.mp hq]
                exact ⟨c, c2⟩
          have hp2 : puPl σ2 1 (τA 137) := by
            refine puPl_mk (l := l ++ [(u, v)]) ?_ (fun i hi => ?_) (fun t ht => ?_) hA2 hB2
            · rw [i2 6 (by decide), jA 4 (by decide)]; exact hp1.1
            · rw [k2 (1 + 2) (by decide) (by decide) (by decide), jA i (by omega)]; exact hp1.2.2.1 i hi
            · rw [jA 4 (by decide)] at ht
              have := ho.t24 ht
              rw [k2 (1 + 4) (by decide) (by decide) (by decide), k2 (1 + 6) (by decide) (by decide) (by decide), k2 (1 + 8) (by decide) (by decide) (by decide), jA _ (by omega), jA _ (by omega), jA _ (by omega)]
              exact hp1.2.2.2.1 t ht
          obtain ⟨σ3, e3, hV, k3⟩ := pu_printAnew ho2 hp2
          obtain ⟨hC3, hT3, kσ⟩ := pu_fin (σ2 := σ2) hI hC1 k1 (fun k hk => k2 k (by omega) (by omega) (by omega)) k3
          obtain ⟨τ1, e4, k4, a4⟩ := pu_hold σ3
          have e137 : τ1 137 = σ 137 := by rw [k4 137 (by decide), kσ 137 (by decide)]
          obtain ⟨τ2, e6, hA3, jB, k6⟩ := pu_arrowComes (σ := τ1) (by rw [e137]; exact hA) c6 u v
          have hp3 : puPl σ2 1 (τ2 137) := by
            refine puPl_mk (l := l ++ [(u, v)]) ?_ (fun i hi => ?_) (fun t ht => ?_) hA3 hB2
            · rw [i2 6 (by decide), jB 4 (by decide), e137]; exact hp1.1
            · rw [k2 (1 + 2) (by decide) (by decide) (by decide), jB i (by omega), e137]; exact hp1.2.2.1 i hi
            · rw [jB 4 (by decide), e137] at ht
              have := ho.t24 ht
              rw [k2 (1 + 4) (by decide) (by decide) (by decide), k2 (1 + 6) (by decide) (by decide) (by decide), k2 (1 + 8) (by decide) (by decide) (by decide), jB _ (by omega), jB _ (by omega), jB _ (by omega), e137]
              exact hp1.2.2.2.1 t ht
          have ho3 : puOk (τ2 137) := by
            refine puOk_mk (l := l ++ [(u, v)]) (by rw [jB 0 (by decide), e137]; exact ho.rows) (by rw [jB 1 (by decide), e137]; exact ho.days) (by rw [jB 2 (by decide), e137]; exact ho.keep) (by rw [jB 3 (by decide), e137]; exact ho.order) (by rw [jB 4 (by decide), e137]; exact ho.tasks) (fun t ht => ?_) hA3 (by rw [List.length_append]; show l.length + 1 ≤ 30; omega) (fun q hq => ?_)
            · rw [jB 4 (by decide), e137] at ht
              have := ho.t24 ht
              rw [jB _ (by omega), jB _ (by omega), jB _ (by omega), e137]
              exact ⟨ho.g ht, ho.f ht, ho.l ht⟩
            · rw [jB 4 (by decide), e137]
              rcases List.mem_append.mp hq with hq | hq
              · exact hE q hq
              · rw [List.mem_singleton.mp hq]
                exact ⟨c, c2⟩
          obtain ⟨σ3', e3', hV', k3'⟩ := pu_printAnew ho3 hp3
          have eS : σ3' = σ3 := Option.some.inj (e3'.symm.trans e3)
          rw [eS] at hV'
          obtain ⟨τ3, e5, hI3⟩ := pu_refEnd (τ2 := τ2) ho3 hV' hC.2.1 hC3 hT3 kσ hR (fun i hi => by rw [k6 139 (by decide), a4 i hi, kσ 137 (by decide)]) (fun k q1 q2 => by rw [k6 k q1, k4 k q2]) rfl (l.length : Int)
          refine puAnsS.ok (v := (l.length : Int)) (σ1 := σ3) (σ2 := τ3) hI3 ?_ ?_
          · unfold DX8_addArrow
            rw [pu_reqTask ho hI.2.1.1 hx, if_pos c, pu_xbR, pu_reqTask ho hI.2.1.1 hy, if_pos c2, pu_xbR, pu_ifF hx hy c3, hcC, Option.bind_some, if_neg c5, pu_ifT (by decide) (by decide) rfl, pu_arrows hI.2.1.1, Option.bind_some, hA.1, pu_ifT ⟨by omega, by omega⟩ (by decide) (by omega), e1, Option.bind_some, e2, Option.bind_some, e3, Option.bind_some, r1]
          · show DX9_addArrow σ3 u v = _
            have h137 : σ3 137 = σ 137 := kσ 137 (by decide)
            unfold DX9_addArrow
            rw [pu_isTask (by rw [h137]; exact ho) hx, h137, Option.bind_some, if_pos c, pu_ifF (by decide) (by decide) (by decide), pu_isTask (by rw [h137]; exact ho) hy, h137, Option.bind_some, if_pos c2, pu_ifF (by decide) (by decide) (by decide), pu_ifF hx hy c3, pu_hasR (l := l) (by rw [h137]; exact hA) hl hx hy hr, Option.bind_some, if_neg c5, pu_ifT (by decide) (by decide) rfl, pu_gat (by decide) (by decide), show σ 137 (Int.toNat (77 : Int)) = (l.length : Int) from hA.1, pu_ifF ⟨by omega, by omega⟩ (by decide) (by omega), e4, Option.bind_some, e6, Option.bind_some, pu_gat (by decide) (by decide), show τ2 137 (Int.toNat (77 : Int)) = ((l ++ [(u, v)]).length : Int) from hA3.1, List.length_append, show ((l.length + [(u, v)].length : Nat) : Int) - 1 = (l.length : Int) by show ((l.length + 1 : Nat) : Int) - 1 = (l.length : Int); omega, e5]; rfl
    · refine puAnsS.no (hI.six 1) (k := 3) (r := 0) ?_ rfl (Or.inl rfl) ?_
      · unfold DX8_addArrow
        rw [pu_reqTask ho hI.2.1.1 hx, if_pos c, pu_xbR, pu_reqTask ho hI.2.1.1 hy, if_neg c2, pu_xbL]
      · show DX9_addArrow σ u v = _
        unfold DX9_addArrow DX9_addArrow_J16
        rw [pu_isTask ho hx, Option.bind_some, if_pos c, pu_ifF (by decide) (by decide) (by decide), pu_isTask ho hy, Option.bind_some, if_neg c2, pu_ifT (by decide) (by decide) rfl]; rfl
  · refine puAnsS.no (hI.six 1) (k := 3) (r := 0) ?_ rfl (Or.inl rfl) ?_
    · unfold DX8_addArrow
      rw [pu_reqTask ho hI.2.1.1 hx, if_neg c, pu_xbL]
    · show DX9_addArrow σ u v = _
      unfold DX9_addArrow DX9_addArrow_J16
      rw [pu_isTask ho hx, Option.bind_some, if_neg c, pu_ifT (by decide) (by decide) rfl]; rfl
