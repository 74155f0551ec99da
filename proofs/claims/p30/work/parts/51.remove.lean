/-! removeArrow, removeTask, undo -/
theorem pu_gap30 {σ : gSt} {n : Nat} {a : Nat} (ha : a < 30) : DX4_closeGap n 30 σ (a : Int) = some (puGap σ (n + 1) (a : Int) 30) := pu_gap (by decide) (by omega) (by omega)
theorem puErase_len {l : List (Int × Int)} {a : Nat} (h : a < l.length) : ((l.eraseIdx a).length : Int) = (l.length : Int) - 1 := by
  rw [List.length_eraseIdx_of_lt h]
  omega
theorem pu_dropC {σ : gSt} {l : List (Int × Int)} (hB : puHB σ 1 l) (hl : l.length ≤ 30) {a : Nat} (ha : a < l.length) : puP (DX5_dropArrow 1 σ (a : Int)) (fun σ' => puHB σ' 1 (l.eraseIdx a) ∧ (∀ k, k ≠ 1 → k ≠ 11 → k ≠ 13 → σ' k = σ k) ∧ (∀ i, i ≠ 7 → σ' 1 i = σ 1 i)) := by
  have e7 : σ 1 7 = (l.length : Int) := hB.1
  unfold DX5_dropArrow DX5_hasArrow
  rw [e7, pu_ifF ⟨by omega, by omega⟩ (by decide) (by omega), pu_ifT ⟨by omega, by omega⟩ ⟨by omega, by omega⟩ (by omega), pu_bo (Or.inr rfl), Option.bind_some, pu_ifF (by decide) (by decide) (by decide), pu_gap30 (by omega), Option.bind_some, pu_gap30 (by omega), Option.bind_some]
  have hK : ∀ k, k ≠ 11 → k ≠ 13 → puGap (puGap σ (1 + 9 + 1) (a : Int) 30) (1 + 11 + 1) (a : Int) 30 k = σ k := fun k k1 k2 => by rw [puGap_K k2, puGap_K k1]
  refine pu_some ⟨⟨?_, fun i q hi => ?_⟩, fun k k1 k2 k3 => ?_, fun i hi => ?_⟩
  · rw [pu_upE, hK 1 (by decide) (by decide), e7, puErase_len ha]
  · have hlt := (List.getElem?_eq_some_iff.mp hi).1
    rw [List.length_eraseIdx_of_lt ha] at hlt
    rw [List.getElem?_eraseIdx] at hi
    rw [pu_upK (k' := 1 + 10) (by decide), pu_upK (k' := 1 + 12) (by decide), puGap_K (k' := 1 + 10) (by decide)]
    show (if (11 : Nat) = 11 ∧ (a : Int) ≤ (i : Int) ∧ i + 1 < 30 then σ 11 (i + 1) else σ 11 i) = q.1 ∧ (if (13 : Nat) = 13 ∧ (a : Int) ≤ (i : Int) ∧ i + 1 < 30 then puGap σ (1 + 9 + 1) (a : Int) 30 13 (i + 1) else puGap σ (1 + 9 + 1) (a : Int) 30 13 i) = q.2
    rw [puGap_K (k' := 13) (by decide)]
    by_cases c : i < a
    · rw [if_pos c] at hi
      rw [if_neg (by omega), if_neg (by omega)]
      exact hB.2 i q hi
    · rw [if_neg c] at hi
      rw [if_pos (by omega), if_pos (by omega)]
      exact hB.2 (i + 1) q hi
  · rw [pu_upK k1, hK k k2 k3]
  · rw [pu_upI hi, hK 1 (by decide) (by decide)]
theorem puEnds.erase {n : Int} {l : List (Int × Int)} (h : puEnds n l) (a : Nat) : puEnds n (l.eraseIdx a) := fun q hq => h q (List.mem_of_mem_eraseIdx hq)
/-! removeTask -/
def puKeep (t : Int) (q : Int × Int) : Bool := !(decide (q.1 = t) || decide (q.2 = t))
def puRen (t : Int) (q : Int × Int) : Int × Int := (if t < q.1 then q.1 - 1 else q.1, if t < q.2 then q.2 - 1 else q.2)
theorem puKeep_F {t : Int} {q : Int × Int} (h : q.1 = t ∨ q.2 = t) : ¬ puKeep t q = true := by
  unfold puKeep
  rcases h with h | h <;> simp [h]
theorem puKeep_T {t : Int} {q : Int × Int} (h1 : ¬ q.1 = t) (h2 : ¬ q.2 = t) : puKeep t q = true := by
  unfold puKeep
  simp [h1, h2]
theorem puKeep_e {t : Int} {q : Int × Int} (h : puKeep t q = true) : ¬ q.1 = t ∧ ¬ q.2 = t := by
  unfold puKeep at h
  simpa using h
/-- the row of numbers without a task -/
def puLess (s s' : Nat → Int) (t n : Nat) : Prop := s' 4 = ((n - 1 : Nat) : Int) ∧ (∀ i : Nat, i < 4 → s' i = s i) ∧ (∀ u : Nat, u < n - 1 → ∀ w : Nat, w < 3 → s' (5 + 3 * u + w) = if u < t then s (5 + 3 * u + w) else s (5 + 3 * (u + 1) + w))
/-- the class drops the arrows of a task -/
theorem pu_rmC_L {σ0 : gSt} {l : List (Int × Int)} (hl : l.length ≤ 30) {n t : Int} (hE : puEnds n l) (hn : n ≤ 24) (ht : gR t) (h7 : σ0 1 7 = (l.length : Int)) : ∀ (f x : Nat) (σ : gSt), l.length - x < f → x ≤ l.length → (∀ k, k ≠ 11 → k ≠ 13 → σ k = σ0 k) → (∀ (i : Nat) (q : Int × Int), (((l.take x).filter (puKeep t)).map (puRen t))[i]? = some q → σ 11 i = q.1 ∧ σ 13 i = q.2) → (∀ (i : Nat) (q : Int × Int), x ≤ i → l[i]? = some q → σ 11 i = q.1 ∧ σ 13 i = q.2) → puP (DX5_dropArrowsOf_L4 (DX5_dropArrowsOf_K93 1) 1 t f (x : Int) (((l.take x).filter (puKeep t)).length : Int) σ) (fun r => r.1 = (l.length : Int) - ((l.filter (puKeep t)).length : Int) ∧ puHB r.2 1 ((l.filter (puKeep t)).map (puRen t)) ∧ (∀ k, k ≠ 1 → k ≠ 11 → k ≠ 13 → r.2 k = σ0 k) ∧ (∀ i, i ≠ 7 → r.2 1 i = σ0 1 i)) := by
  intro f
  induction f with
  | zero => intro x σ h; omega
  | succ f ih =>
    intro x σ hf hx hK hA hB
    have e7 : σ 1 7 = (l.length : Int) := by rw [hK 1 (by decide) (by decide), h7]
    rw [DX5_dropArrowsOf_L4, e7]
    refine pu_if ⟨by omega, by omega⟩ ⟨by omega, by omega⟩ (fun c => ?_) (fun c => ?_)
    · obtain ⟨q, hq⟩ : ∃ q, l[x]? = some q := ⟨_, List.getElem?_eq_some_iff.mpr ⟨by omega, rfl⟩⟩
      have hqm := hE q (List.mem_of_getElem? hq)
      obtain ⟨g1, g2⟩ := hB x q (Nat.le_refl _) hq
      have htk : l.take (x + 1) = l.take x ++ [q] := by
        rw [List.take_add_one, hq]
        rfl
      have hkl : ((l.take x).filter (puKeep t)).length ≤ x := by
        have h1 := List.length_filter_le (puKeep t) (l.take x)
        rw [List.length_take] at h1
        omega
      have hskip : ¬ puKeep t q = true → puP (DX5_dropArrowsOf_J87 (DX5_dropArrowsOf_L4 (DX5_dropArrowsOf_K93 1) 1 t f) (x : Int) (((l.take x).filter (puKeep t)).length : Int) σ) (fun r => r.1 = (l.length : Int) - ((l.filter (puKeep t)).length : Int) ∧ puHB r.2 1 ((l.filter (puKeep t)).map (puRen t)) ∧ (∀ k, k ≠ 1 → k ≠ 11 → k ≠ 13 → r.2 k = σ0 k) ∧ (∀ i, i ≠ 7 → r.2 1 i = σ0 1 i)) := by
        intro hk
        have e3 : (l.take (x + 1)).filter (puKeep t) = (l.take x).filter (puKeep t) := by
          rw [htk, List.filter_append, List.filter_cons_of_neg hk]
          simp
        unfold DX5_dropArrowsOf_J87
        rw [show ((x : Int) + 1) = ((x + 1 : Nat) : Int) by omega, ← e3]
        exact ih (x + 1) σ (by omega) (by omega) hK (by rw [e3]; exact hA) (fun i p hi hp => hB i p (by omega) hp)
      have hput : puKeep t q = true → ∀ σ1 : gSt, (∀ k, k ≠ 11 → k ≠ 13 → σ1 k = σ k) → (∀ i, σ1 11 i = if i = ((l.take x).filter (puKeep t)).length then (puRen t q).1 else σ 11 i) → (∀ i, σ1 13 i = if i = ((l.take x).filter (puKeep t)).length then (puRen t q).2 else σ 13 i) → puP (DX5_dropArrowsOf_J87 (DX5_dropArrowsOf_L4 (DX5_dropArrowsOf_K93 1) 1 t f) (x : Int) ((((l.take x).filter (puKeep t)).length : Int) + 1) σ1) (fun r => r.1 = (l.length : Int) - ((l.filter (puKeep t)).length : Int) ∧ puHB r.2 1 ((l.filter (puKeep t)).map (puRen t)) ∧ (∀ k, k ≠ 1 → k ≠ 11 → k ≠ 13 → r.2 k = σ0 k) ∧ (∀ i, i ≠ 7 → r.2 1 i = σ0 1 i)) := by
        intro hk σ1 k1 a1 b1
        have e3 : (l.take (x + 1)).filter (puKeep t) = (l.take x).filter (puKeep t) ++ [q] := by
          rw [htk, List.filter_append, List.filter_cons_of_pos hk]
          simp
        unfold DX5_dropArrowsOf_J87
        rw [show ((x : Int) + 1) = ((x + 1 : Nat) : Int) by omega, show (((l.take x).filter (puKeep t)).length : Int) + 1 = (((l.take (x + 1)).filter (puKeep t)).length : Int) by rw [e3, List.length_append]; show _ = ((((l.take x).filter (puKeep t)).length + 1 : Nat) : Int); omega]
        refine ih (x + 1) σ1 (by omega) (by omega) (fun k q1 q2 => by rw [k1 k q1 q2, hK k q1 q2]) (fun i p hi => ?_) (fun i p hi hp => ?_)
        · rw [e3, List.map_append] at hi
          rw [a1 i, b1 i]
          rcases pu_snoc (show (((l.take x).filter (puKeep t)).map (puRen t) ++ [puRen t q])[i]? = some p from hi) with ⟨w1, w2⟩ | ⟨w1, w2⟩
          · rw [List.length_map] at w1
            rw [if_neg (by omega), if_neg (by omega)]
            exact hA i p w2
          · rw [List.length_map] at w1
            rw [if_pos w1, if_pos w1, w2]
            exact ⟨rfl, rfl⟩
        · rw [a1 i, b1 i, if_neg (by omega), if_neg (by omega)]
          exact hB i p (by omega) hp
      unfold DX5_from DX5_to
      rw [pu_atN (by omega) (by decide), Option.bind_some, Option.bind_some, pu_atN (by omega) (by decide), Option.bind_some, Option.bind_some, show σ (1 + 9 + 1) x = q.1 from g1, show σ (1 + 11 + 1) x = q.2 from g2]
      refine pu_if ⟨by omega, by omega⟩ ht (fun c1 => hskip (puKeep_F (Or.inl c1))) (fun c1 => ?_)
      refine pu_if ⟨by omega, by omega⟩ ht (fun c2 => hskip (puKeep_F (Or.inr c2))) (fun c2 => ?_)
      have hk := puKeep_T c1 c2
      have hJ58 : ∀ d : Int, d = (puRen t q).1 → puP (DX5_dropArrowsOf_J58 1 t (DX5_dropArrowsOf_L4 (DX5_dropArrowsOf_K93 1) 1 t f) (x : Int) (((l.take x).filter (puKeep t)).length : Int) σ q.2 d) (fun r => r.1 = (l.length : Int) - ((l.filter (puKeep t)).length : Int) ∧ puHB r.2 1 ((l.filter (puKeep t)).map (puRen t)) ∧ (∀ k, k ≠ 1 → k ≠ 11 → k ≠ 13 → r.2 k = σ0 k) ∧ (∀ i, i ≠ 7 → r.2 1 i = σ0 1 i)) := by
        intro d hd
        have hJ81 : ∀ e : Int, e = (puRen t q).2 → puP (DX5_dropArrowsOf_J81 1 (DX5_dropArrowsOf_L4 (DX5_dropArrowsOf_K93 1) 1 t f) (x : Int) (((l.take x).filter (puKeep t)).length : Int) (gUp σ (1 + 9 + 1) ((l.take x).filter (puKeep t)).length d) e) (fun r => r.1 = (l.length : Int) - ((l.filter (puKeep t)).length : Int) ∧ puHB r.2 1 ((l.filter (puKeep t)).map (puRen t)) ∧ (∀ k, k ≠ 1 → k ≠ 11 → k ≠ 13 → r.2 k = σ0 k) ∧ (∀ i, i ≠ 7 → r.2 1 i = σ0 1 i)) := by
          intro e he
          unfold DX5_dropArrowsOf_J81
          rw [pu_putN (by omega) (by decide), Option.bind_some]
          refine hput hk _ (fun k k1 k2 => by rw [pu_upK k2, pu_upK k1]) (fun i => ?_) (fun i => ?_)
          · rw [pu_upK (by decide), ← hd]
            show (if (11 : Nat) = 11 ∧ i = _ then d else σ 11 i) = _
            by_cases w : i = ((l.take x).filter (puKeep t)).length
            · rw [if_pos ⟨rfl, w⟩, if_pos w]
            · rw [if_neg (fun z => w z.2), if_neg w]
          · rw [← he]
            show (if (13 : Nat) = 13 ∧ i = _ then e else gUp σ (1 + 9 + 1) ((l.take x).filter (puKeep t)).length d 13 i) = _
            rw [pu_upK (k' := 13) (by decide)]
            by_cases w : i = ((l.take x).filter (puKeep t)).length
            · rw [if_pos ⟨rfl, w⟩, if_pos w]
            · rw [if_neg (fun z => w z.2), if_neg w]
        unfold DX5_dropArrowsOf_J58
        rw [pu_putN (by omega) (by decide), Option.bind_some]
        refine pu_if ⟨by omega, by omega⟩ ht (fun c3 => hJ81 _ ?_) (fun c3 => hJ81 _ ?_)
        · show _ = if t < q.2 then q.2 - 1 else q.2
          rw [if_pos c3]
        · show _ = if t < q.2 then q.2 - 1 else q.2
          rw [if_neg c3]
      refine pu_if ⟨by omega, by omega⟩ ht (fun c3 => hJ58 _ ?_) (fun c3 => hJ58 _ ?_)
      · show _ = if t < q.1 then q.1 - 1 else q.1
        rw [if_pos c3]
      · show _ = if t < q.1 then q.1 - 1 else q.1
        rw [if_neg c3]
    · have e : x = l.length := by omega
      subst e
      rw [List.take_length] at hA ⊢
      unfold DX5_dropArrowsOf_K93
      rw [e7]
      refine pu_some ⟨rfl, ⟨?_, fun i q hi => ?_⟩, fun k k1 k2 k3 => ?_, fun i hi => ?_⟩
      · show gUp σ 1 7 ((l.filter (puKeep t)).length : Int) 1 7 = _
        rw [pu_upE, List.length_map]
      · show gUp σ 1 7 ((l.filter (puKeep t)).length : Int) (1 + 10) i = _ ∧ gUp σ 1 7 ((l.filter (puKeep t)).length : Int) (1 + 12) i = _
        rw [pu_upK (by decide), pu_upK (by decide)]
        exact hA i q hi
      · show gUp σ 1 7 ((l.filter (puKeep t)).length : Int) k = _
        rw [pu_upK k1, hK k k2 k3]
      · show gUp σ 1 7 ((l.filter (puKeep t)).length : Int) 1 i = _
        rw [pu_upI hi, hK 1 (by decide) (by decide)]
theorem pu_rmC {σ : gSt} {s : Nat → Int} {l : List (Int × Int)} (hp : puPl σ 1 s) (hA : puHA s l) (hl : l.length ≤ 30) {t n : Nat} (h4 : s 4 = (n : Int)) (hn : n ≤ 24) (htn : t < n) (hE : puEnds (n : Int) l) : puP (DX5_dropTask 1 σ (t : Int)) (fun r => r.1 = (l.length : Int) - ((l.filter (puKeep (t : Int))).length : Int) ∧ puHB r.2 1 ((l.filter (puKeep (t : Int))).map (puRen (t : Int))) ∧ r.2 1 6 = ((n - 1 : Nat) : Int) ∧ r.2 3 = σ 3 ∧ (∀ u : Nat, u < n - 1 → r.2 5 u = (if u < t then σ 5 u else σ 5 (u + 1)) ∧ r.2 7 u = (if u < t then σ 7 u else σ 7 (u + 1)) ∧ r.2 9 u = (if u < t then σ 9 u else σ 9 (u + 1))) ∧ (∀ k, 13 < k → r.2 k = σ k)) := by
  have e6 : σ 1 6 = (n : Int) := by rw [hp.1, h4]
  have hB := puHB_of hp hA
  have e7 : σ 1 7 = (l.length : Int) := hB.1
  have hgap : ∀ (τ : gSt) (m : Nat), DX4_closeGap m 24 τ (t : Int) = some (puGap τ (m + 1) (t : Int) 24) := fun τ m => pu_gap (by decide) (by omega) (by omega)
  unfold DX5_dropTask DX5_hasTask
  rw [e6, pu_ifF ⟨by omega, by omega⟩ (by decide) (by omega), pu_ifT ⟨by omega, by omega⟩ ⟨by omega, by omega⟩ (by omega), pu_bo (Or.inr rfl), Option.bind_some, pu_ifF (by decide) (by decide) (by decide), hgap, Option.bind_some, hgap, Option.bind_some, hgap, Option.bind_some]
  have hK : ∀ k, k ≠ 5 → k ≠ 7 → k ≠ 9 → puGap (puGap (puGap σ (1 + 3 + 1) (t : Int) 24) (1 + 5 + 1) (t : Int) 24) (1 + 7 + 1) (t : Int) 24 k = σ k := fun k k1 k2 k3 => by rw [puGap_K k3, puGap_K k2, puGap_K k1]
  have hG : ∀ u : Nat, u < n - 1 → puGap (puGap (puGap σ (1 + 3 + 1) (t : Int) 24) (1 + 5 + 1) (t : Int) 24) (1 + 7 + 1) (t : Int) 24 5 u = (if u < t then σ 5 u else σ 5 (u + 1)) ∧ puGap (puGap (puGap σ (1 + 3 + 1) (t : Int) 24) (1 + 5 + 1) (t : Int) 24) (1 + 7 + 1) (t : Int) 24 7 u = (if u < t then σ 7 u else σ 7 (u + 1)) ∧ puGap (puGap (puGap σ (1 + 3 + 1) (t : Int) 24) (1 + 5 + 1) (t : Int) 24) (1 + 7 + 1) (t : Int) 24 9 u = (if u < t then σ 9 u else σ 9 (u + 1)) := by
    intro u hu
    refine ⟨?_, ?_, ?_⟩
    · rw [puGap_K (by decide), puGap_K (by decide)]
      show (if (5 : Nat) = 5 ∧ (t : Int) ≤ (u : Int) ∧ u + 1 < 24 then σ 5 (u + 1) else σ 5 u) = _
      by_cases e : u < t
      · rw [if_neg (by omega), if_pos e]
      · rw [if_pos (by omega), if_neg e]
    · rw [puGap_K (by decide)]
      show (if (7 : Nat) = 7 ∧ (t : Int) ≤ (u : Int) ∧ u + 1 < 24 then puGap σ (1 + 3 + 1) (t : Int) 24 7 (u + 1) else puGap σ (1 + 3 + 1) (t : Int) 24 7 u) = _
      rw [puGap_K (k' := 7) (by decide)]
      by_cases e : u < t
      · rw [if_neg (by omega), if_pos e]
      · rw [if_pos (by omega), if_neg e]
    · show (if (9 : Nat) = 9 ∧ (t : Int) ≤ (u : Int) ∧ u + 1 < 24 then puGap (puGap σ (1 + 3 + 1) (t : Int) 24) (1 + 5 + 1) (t : Int) 24 9 (u + 1) else puGap (puGap σ (1 + 3 + 1) (t : Int) 24) (1 + 5 + 1) (t : Int) 24 9 u) = _
      rw [puGap_K (k' := 9) (by decide), puGap_K (k' := 9) (by decide)]
      by_cases e : u < t
      · rw [if_neg (by omega), if_pos e]
      · rw [if_pos (by omega), if_neg e]
  generalize puGap (puGap (puGap σ (1 + 3 + 1) (t : Int) 24) (1 + 5 + 1) (t : Int) 24) (1 + 7 + 1) (t : Int) 24 = σ1 at hK hG ⊢
  rw [hK 1 (by decide) (by decide) (by decide), e6]
  unfold DX5_dropArrowsOf
  have h := pu_rmC_L (σ0 := gUp σ1 1 6 ((n : Int) - 1)) (l := l) hl hE (by omega) (t := (t : Int)) ⟨by omega, by omega⟩ (by rw [pu_upI (by decide), hK 1 (by decide) (by decide) (by decide), e7]) gFuel 0 (gUp σ1 1 6 ((n : Int) - 1)) (by rw [gFuel_eq]; omega) (Nat.zero_le _) (fun _ _ _ => rfl) (fun i q hi => by
    rw [List.take_zero] at hi
    cases hi) (fun i q _ hi => by
    rw [pu_upK (by decide), pu_upK (by decide), hK 11 (by decide) (by decide) (by decide), hK 13 (by decide) (by decide) (by decide)]
    exact hB.2 i q hi)
  refine pu_b h (fun r w => pu_some ?_)
  obtain ⟨w1, w2, w3, w4⟩ := w
  refine ⟨w1, w2, ?_, ?_, fun u hu => ?_, fun k hk => ?_⟩
  · show r.2 1 6 = _
    rw [w4 6 (by decide), pu_upE]
    omega
  · show r.2 3 = _
    rw [w3 3 (by decide) (by decide) (by decide), pu_upK (by decide), hK 3 (by decide) (by decide) (by decide)]
  · show r.2 5 u = _ ∧ r.2 7 u = _ ∧ r.2 9 u = _
    rw [w3 5 (by decide) (by decide) (by decide), w3 7 (by decide) (by decide) (by decide), w3 9 (by decide) (by decide) (by decide), pu_upK (by decide), pu_upK (by decide), pu_upK (by decide)]
    exact hG u hu
  · show r.2 k = _
    rw [w3 k (by omega) (by omega) (by omega), pu_upK (by omega), hK k (by omega) (by omega) (by omega)]
