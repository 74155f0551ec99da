/-! the law's own numbers beside the class; a turn of the law -/
/-- the law's arrows, its settings and tasks -/
def pvW (σ : gSt) (l : List (Int × Int)) : Prop := σ 136 5 = (l.length : Int) ∧ ∀ (i : Nat) (q : Int × Int), l[i]? = some q → σ 140 i = 32 * q.1 + q.2
def pvT (σ : gSt) (s : Nat → Int) : Prop := (∀ i : Nat, i < 4 → σ 136 i = s i) ∧ σ 136 4 = s 4 ∧ ∀ t : Nat, (t : Int) < s 4 → σ 137 t = s (5 + 3 * t) ∧ σ 138 t = s (6 + 3 * t) ∧ σ 139 t = s (7 + 3 * t)
def pvSt (σ : gSt) (s : Nat → Int) (l : List (Int × Int)) : Prop := puOk s ∧ puCV σ s ∧ pvHC σ ∧ pvT σ s ∧ puHA s l ∧ l.length ≤ 30 ∧ puEnds (s 4) l ∧ pvW σ l
def pvInv (σ : gSt) : Prop := ∃ (s : Nat → Int) (l : List (Int × Int)), pvSt σ s l
theorem pvW.same {σ σ' : gSt} {l : List (Int × Int)} (h : pvW σ l) (h5 : σ' 136 5 = σ 136 5) (hk : σ' 140 = σ 140) : pvW σ' l := ⟨by rw [h5]; exact h.1, fun i q hq => by rw [hk]; exact h.2 i q hq⟩
theorem pvT.same {σ σ' : gSt} {s : Nat → Int} (h : pvT σ s) (h136 : ∀ i, i ≠ 5 → σ' 136 i = σ 136 i) (hk : ∀ k, 137 ≤ k → k ≤ 139 → σ' k = σ k) : pvT σ' s := by
  refine ⟨fun i hi => by rw [h136 i (by omega)]; exact h.1 i hi, by rw [h136 4 (by decide)]; exact h.2.1, fun t ht => ?_⟩
  rw [hk 137 (by decide) (by decide), hk 138 (by decide) (by decide), hk 139 (by decide) (by decide)]
  exact h.2.2 t ht
theorem pv_fin {τ σ' : gSt} {s' : Nat → Int} {l' : List (Int × Int)} (h : pvOk τ σ' s') (hT : pvT τ s') (hA : puHA s' l') (hl : l'.length ≤ 30) (hE : puEnds (s' 4) l') (hW : pvW τ l') : pvInv σ' :=
  ⟨s', l', h.1, h.2.1, h.2.2.1, hT.same (fun i _ => by rw [h.2.2.2 136 (by decide)]) (fun k k1 k2 => h.2.2.2 k (by omega)), hA, hl, hE, hW.same (by rw [h.2.2.2 136 (by decide)]) (h.2.2.2 140 (by decide))⟩
theorem pu_bp {β : Type} {x : Option (Int × gSt)} {v : Int} {τ : gSt} {f : Int × gSt → Option β} {Q : β → Prop} (h : x = some (v, τ)) (h2 : ∀ q : Int × gSt, q.1 = v → q.2 = τ → puP (f q) Q) : puP (x.bind f) Q := by
  rw [h]
  exact h2 _ rfl rfl
theorem pv_low (σ : gSt) (v : Int) {n : Int} (h : 0 < n ∧ n ≤ 2147483647) : ∃ r, DL_low σ v n = some r ∧ 0 ≤ r ∧ r < n := by
  have h1 := gAnd_in v
  refine ⟨_, pu_dv h1.1 h1.2 h.1 h.2, Int.emod_nonneg _ (by omega), Int.emod_lt_of_pos _ h.1⟩
theorem pv_index_L {σ : gSt} {l : List (Int × Int)} (hW : pvW σ l) (hl : l.length ≤ 30) {n : Int} (hE : puEnds n l) (hn : n ≤ 24) {u v : Int} (hu : 0 ≤ u ∧ u < 24) (hv : 0 ≤ v ∧ v < 24) : ∀ (f x : Nat) (r : Int), l.length - x < f → x ≤ l.length → -1 ≤ r ∧ r ≤ 30 → (0 ≤ r ↔ puHas l u v x = true) → puP (DL_indexOf_L6 σ u v f (x : Int) r) (fun r' => (-1 ≤ r' ∧ r' ≤ 30) ∧ (0 ≤ r' ↔ puHas l u v l.length = true)) := by
  intro f
  induction f with
  | zero => intro x r h; omega
  | succ f ih =>
    intro x r hf hx hr hi
    rw [DL_indexOf_L6, pu_gat (by decide) (by decide), show σ 136 (Int.toNat (5 : Int)) = (l.length : Int) from hW.1]
    refine pu_if ⟨by omega, by omega⟩ ⟨by omega, by omega⟩ (fun c => ?_) (fun c => ?_)
    · obtain ⟨q, hq⟩ : ∃ q, l[x]? = some q := ⟨_, List.getElem?_eq_some_iff.mpr ⟨by omega, rfl⟩⟩
      have hqm := hE q (List.mem_of_getElem? hq)
      have hs : puHas l u v (x + 1) = (puHas l u v x || decide (l[x]? = some (u, v))) := rfl
      rw [pu_gat (by omega) (by omega), Int.toNat_natCast, hW.2 x q hq]
      unfold DL_indexOf_J34
      rw [show (x : Int) + 1 = ((x + 1 : Nat) : Int) by omega]
      refine pu_if ⟨by omega, by omega⟩ ⟨by omega, by omega⟩ (fun c2 => ?_) (fun c2 => ?_)
      · have e : q = (u, v) := Prod.ext (by show q.1 = u; omega) (by show q.2 = v; omega)
        refine ih (x + 1) (x : Int) (by omega) (by omega) ⟨by omega, by omega⟩ ?_
        rw [hs, hq, e, decide_eq_true rfl, Bool.or_true]
        exact ⟨fun _ => rfl, fun _ => by omega⟩
      · refine ih (x + 1) r (by omega) (by omega) hr ?_
        have e : ¬ l[x]? = some (u, v) := fun z => by
          rw [hq] at z
          have z2 := Option.some.inj z
          rw [z2] at c2
          exact c2 rfl
        rw [hs, decide_eq_false e, Bool.or_false]
        exact hi
    · have e : x = l.length := by omega
      subst e
      exact pu_some ⟨hr, hi⟩
theorem pv_index {σ : gSt} {l : List (Int × Int)} (hW : pvW σ l) (hl : l.length ≤ 30) {n : Int} (hE : puEnds n l) (hn : n ≤ 24) {u v : Int} (hu : 0 ≤ u ∧ u < 24) (hv : 0 ≤ v ∧ v < 24) : puP (DL_indexOf σ u v) (fun r' => (-1 ≤ r' ∧ r' ≤ 30) ∧ (0 ≤ r' ↔ puHas l u v l.length = true)) :=
  pv_index_L hW hl hE hn hu hv gFuel 0 (-1) (by rw [gFuel_eq]; omega) (Nat.zero_le _) ⟨by decide, by decide⟩ ⟨fun h => absurd h (by decide), fun h => by cases h⟩
theorem pv_drop_L {σ0 : gSt} {n a : Nat} (hn : n ≤ 30) (h5 : σ0 136 5 = (n : Int)) : ∀ (f x : Nat) (σ : gSt), n - x < f → a ≤ x → x < n → (∀ k, k ≠ 140 → σ k = σ0 k) → (∀ i : Nat, σ 140 i = if a ≤ i ∧ i < x then σ0 140 (i + 1) else σ0 140 i) → puP (DL_drop_L2 DL_drop_K25 f (x : Int) σ) (fun σ' => (∀ k, k ≠ 136 → k ≠ 140 → σ' k = σ0 k) ∧ (∀ i, i ≠ 5 → σ' 136 i = σ0 136 i) ∧ σ' 136 5 = (n : Int) - 1 ∧ (∀ i : Nat, σ' 140 i = if a ≤ i ∧ i < n - 1 then σ0 140 (i + 1) else σ0 140 i)) := by
  intro f
  induction f with
  | zero => intro x σ h; omega
  | succ f ih =>
    intro x σ hf hax hx hk hi
    have e5 : σ 136 (Int.toNat (5 : Int)) = (n : Int) := by rw [hk 136 (by decide)]; exact h5
    rw [DL_drop_L2, pu_gat (by decide) (by decide), e5]
    refine pu_if ⟨by omega, by omega⟩ ⟨by omega, by omega⟩ (fun c => ?_) (fun c => ?_)
    · rw [pu_gat (by omega) (by omega), pu_gat (by omega) (by omega), show (x : Int) + 1 = ((x + 1 : Nat) : Int) by omega, Int.toNat_natCast, Int.toNat_natCast]
      refine ih (x + 1) _ (by omega) (by omega) (by omega) (fun k h => by rw [pu_upK h, hk k h]) (fun i => ?_)
      rw [pu_up, hi (x + 1), hi i]
      by_cases e : i = x
      · rw [if_pos ⟨rfl, e⟩, if_neg (by omega), e, if_pos (by omega)]
      · rw [if_neg (fun z => e z.2)]
        by_cases e2 : a ≤ i ∧ i < x
        · rw [if_pos e2, if_pos (by omega)]
        · rw [if_neg e2, if_neg (by omega)]
    · have e : x = n - 1 := by omega
      unfold DL_drop_K25
      rw [pu_gat (by decide) (by decide), pu_gat (by decide) (by decide), e5]
      refine pu_some ⟨fun k k1 k2 => by rw [pu_upK k1, hk k k2], fun i h => by show gUp σ 136 5 ((n : Int) - 1) 136 i = σ0 136 i; rw [pu_upI h, hk 136 (by decide)], pu_upE _ _ _ _, fun i => ?_⟩
      rw [pu_upK (by decide), hi i, e]
theorem pv_drops {σ : gSt} {l : List (Int × Int)} (hW : pvW σ l) (hl : l.length ≤ 30) {a : Nat} (ha : a < l.length) : puP (DL_drop σ (a : Int)) (fun σ' => pvW σ' (l.eraseIdx a) ∧ (∀ k, k ≠ 136 → k ≠ 140 → σ' k = σ k) ∧ (∀ i, i ≠ 5 → σ' 136 i = σ 136 i)) := by
  refine pu_mono (pv_drop_L (a := a) hl hW.1 gFuel a σ (by rw [gFuel_eq]; omega) (Nat.le_refl _) ha (fun _ _ => rfl) (fun i => by rw [if_neg (by omega)])) (fun σ' w => ⟨⟨?_, fun i q hq => ?_⟩, w.1, w.2.1⟩)
  · rw [w.2.2.1, puErase_len ha]
  · rw [List.getElem?_eraseIdx] at hq
    rw [w.2.2.2 i]
    by_cases e : i < a
    · rw [if_pos e] at hq
      rw [if_neg (by omega)]
      exact hW.2 i q hq
    · rw [if_neg e] at hq
      have := (List.getElem?_eq_some_iff.mp hq).1
      rw [if_pos (by omega)]
      exact hW.2 (i + 1) q hq
theorem pv_goes {σ : gSt} (h : pvInv σ) {a : Int} (ha : 0 ≤ a ∧ a < σ 136 5) : puP (DL_goes σ a) (fun r => r.1 = 1 ∧ pvInv r.2) := by
  obtain ⟨s, l, ho, hV, hC, hT, hA, hl, hE, hW⟩ := h
  obtain ⟨a, rfl⟩ : ∃ k : Nat, a = (k : Int) := ⟨a.toNat, by omega⟩
  have hal : a < l.length := by have := hW.1; omega
  unfold DL_goes
  refine pu_b (pv_drops hW hl hal) (fun τ w => ?_)
  obtain ⟨w1, w2, w3⟩ := w
  have hV1 : puCV τ s := hV.same (fun k hk => w2 k (by omega) (by omega))
  have hC1 : pvHC τ := hC.same (fun k k1 k2 => w2 k (by omega) (by omega))
  obtain ⟨σ2, e2, h2⟩ := pv_unpoint ho hV1 hC1 hA hl hE hal
  have e5 : σ2 136 (Int.toNat (5 : Int)) = (l.length : Int) - 1 := by
    rw [h2.2.2.2 136 (by decide), ← puErase_len hal]
    exact w1.1
  refine pu_bp (v := (l.length : Int) - 1) (τ := σ2) (by rw [e2]; rfl) (fun q9 b1 b2 => ?_)
  rw [b1, b2, pu_gat (by decide) (by decide), e5, pu_ifT ⟨by omega, by omega⟩ ⟨by omega, by omega⟩ rfl, pu_bo (Or.inr rfl)]
  refine pu_some ⟨rfl, pv_fin h2 ?_ (pvMk_A _ _) (by rw [List.length_eraseIdx_of_lt hal]; omega) (by rw [pvMk_j (by decide)]; exact hE.erase a) w1⟩
  have hT1 := hT.same w3 (fun k k1 k2 => w2 k (by omega) (by omega))
  refine ⟨fun i hi => by rw [pvMk_j (by omega)]; exact hT1.1 i hi, by rw [pvMk_j (by decide)]; exact hT1.2.1, fun t ht => ?_⟩
  rw [pvMk_j (by decide)] at ht
  have := ho.t24 ht
  rw [pvMk_j (by omega), pvMk_j (by omega), pvMk_j (by omega)]
  exact hT1.2.2 t ht
/-! removing a task -/
theorem pv_rm_L407 {σ0 : gSt} {l : List (Int × Int)} (hl : l.length ≤ 30) {n t : Int} (hE : puEnds n l) (hn : n ≤ 24) (ht : 0 ≤ t ∧ t < 24) {K : Int → gSt → Option (Int × gSt)} {Q : Int × gSt → Prop} : ∀ (f m : Nat) (g : Int) (σ : gSt), m < f → m ≤ l.length → pvW σ (l.take m ++ (l.drop m).filter (puKeep t)) → g = ((l.length - m : Nat) : Int) - (((l.drop m).filter (puKeep t)).length : Int) → (∀ k, k ≠ 136 → k ≠ 140 → σ k = σ0 k) → (∀ i, i ≠ 5 → σ 136 i = σ0 136 i) → (∀ σ', pvW σ' (l.filter (puKeep t)) → (∀ k, k ≠ 136 → k ≠ 140 → σ' k = σ0 k) → (∀ i, i ≠ 5 → σ' 136 i = σ0 136 i) → puP (K ((l.length : Int) - ((l.filter (puKeep t)).length : Int)) σ') Q) → puP (DL_acts_L407 K t f ((m : Int) - 1) g σ) Q := by
  intro f
  induction f with
  | zero => intro m g σ h; omega
  | succ f ih =>
    intro m g σ hf hm hA hg hK hj kk
    rw [DL_acts_L407]
    cases m with
    | zero =>
      rw [pu_ifT (by decide) (by decide) (by decide)]
      have e : g = (l.length : Int) - ((l.filter (puKeep t)).length : Int) := by
        rw [hg]
        show ((l.length - 0 : Nat) : Int) - ((l.filter (puKeep t)).length : Int) = _
        omega
      rw [e]
      exact kk σ hA hK hj
    | succ m =>
      obtain ⟨q, hq⟩ : ∃ q, l[m]? = some q := ⟨_, List.getElem?_eq_some_iff.mpr ⟨by omega, rfl⟩⟩
      have hqm := hE q (List.mem_of_getElem? hq)
      have htk : l.take (m + 1) = l.take m ++ [q] := by
        rw [List.take_add_one, hq]
        rfl
      have hdr : l.drop m = q :: l.drop (m + 1) := by
        obtain ⟨h1, h2⟩ := List.getElem?_eq_some_iff.mp hq
        rw [List.drop_eq_getElem_cons h1, h2]
      have htl : (l.take m).length = m := by
        rw [List.length_take]
        omega
      generalize hrest : (l.drop (m + 1)).filter (puKeep t) = rest at hA hg
      have hLq : (l.take (m + 1) ++ rest)[m]? = some q := by
        rw [htk, List.append_assoc, List.getElem?_append_right (by omega), htl, Nat.sub_self]
        rfl
      have e1 := hA.2 m q hLq
      have hlen : (l.take (m + 1) ++ rest).length ≤ 30 := by
        have h1 := List.length_filter_le (puKeep t) (l.drop (m + 1))
        rw [hrest, List.length_drop] at h1
        rw [List.length_append, List.length_take]
        omega
      have hgone : ¬ puKeep t q = true → puP (DL_acts_J438 (DL_acts_L407 K t f) (m : Int) g σ) Q := by
        intro hk
        have hrest2 : (l.drop m).filter (puKeep t) = rest := by
          rw [hdr, List.filter_cons_of_neg hk, hrest]
        unfold DL_acts_J438 DL_acts_J449
        refine pu_b (pv_drops hA hlen (a := m) (by rw [List.length_append, htk, List.length_append, htl]; show m < m + 1 + rest.length; omega)) (fun σ1 w => ?_)
        rw [show (m : Int) + -1 = (m : Int) - 1 by omega]
        refine ih m (g + 1) σ1 (by omega) (by omega) ?_ ?_ (fun k k1 k2 => by rw [w.2.1 k k1 k2, hK k k1 k2]) (fun i hi => by rw [w.2.2 i hi, hj i hi]) kk
        · rw [hrest2]
          have e3 : (l.take (m + 1) ++ rest).eraseIdx m = l.take m ++ rest := by
            rw [htk, List.append_assoc, List.eraseIdx_append_of_length_le (by omega), htl, Nat.sub_self]
            rfl
          rw [← e3]
          exact w.1
        · rw [hrest2, hg]
          omega
      have hstay : puKeep t q = true → puP (DL_acts_J449 (DL_acts_L407 K t f) (m : Int) g σ) Q := by
        intro hk
        have hrest2 : (l.drop m).filter (puKeep t) = q :: rest := by
          rw [hdr, List.filter_cons_of_pos hk, hrest]
        unfold DL_acts_J449
        rw [show (m : Int) + -1 = (m : Int) - 1 by omega]
        refine ih m g σ (by omega) (by omega) ?_ ?_ hK hj kk
        · rw [hrest2]
          have e3 : l.take m ++ q :: rest = l.take (m + 1) ++ rest := by rw [htk, List.append_assoc]; rfl
          rw [e3]
          exact hA
        · rw [hrest2, hg]
          show _ = _ - ((rest.length + 1 : Nat) : Int)
          omega
      rw [show ((m + 1 : Nat) : Int) - 1 = (m : Int) by omega, pu_ifF ⟨by omega, by omega⟩ (by decide) (by omega), pu_gat (by omega) (by omega), Int.toNat_natCast, e1, pu_dv (by omega) (by omega) (by decide) (by decide), show (32 * q.1 + q.2) / 32 = q.1 by omega]
      refine pu_if ⟨by omega, by omega⟩ ⟨by omega, by omega⟩ (fun c => hgone (puKeep_F (Or.inl c))) (fun c => ?_)
      rw [pu_gat (by omega) (by omega), pu_dv (by omega) (by omega) (by decide) (by decide), show (32 * q.1 + q.2) % 32 = q.2 by omega]
      refine pu_if ⟨by omega, by omega⟩ ⟨by omega, by omega⟩ (fun c2 => hgone (puKeep_F (Or.inr c2))) (fun c2 => hstay (puKeep_T c c2))
theorem pv_rm_L458 {σ0 : gSt} {l : List (Int × Int)} (hl : l.length ≤ 30) {n t : Int} (hE : puEnds n l) (hn : n ≤ 24) (ht : 0 ≤ t ∧ t < 24) (h5 : σ0 136 5 = (l.length : Int)) {K : gSt → Option (Int × gSt)} {Q : Int × gSt → Prop} : ∀ (f x : Nat) (σ : gSt), l.length - x < f → x ≤ l.length → (∀ k, k ≠ 140 → σ k = σ0 k) → (∀ (i : Nat) (q : Int × Int), l[i]? = some q → σ 140 i = if i < x then 32 * (puRen t q).1 + (puRen t q).2 else 32 * q.1 + q.2) → (∀ σ', (∀ k, k ≠ 140 → σ' k = σ0 k) → (∀ (i : Nat) (q : Int × Int), l[i]? = some q → σ' 140 i = 32 * (puRen t q).1 + (puRen t q).2) → puP (K σ') Q) → puP (DL_acts_L458 K t f (x : Int) σ) Q := by
  intro f
  induction f with
  | zero => intro x σ h; omega
  | succ f ih =>
    intro x σ hf hx hk hi kk
    have e5 : σ 136 (Int.toNat (5 : Int)) = (l.length : Int) := by rw [hk 136 (by decide)]; exact h5
    rw [DL_acts_L458, pu_gat (by decide) (by decide), e5]
    refine pu_if ⟨by omega, by omega⟩ ⟨by omega, by omega⟩ (fun c => ?_) (fun c => ?_)
    · obtain ⟨q, hq⟩ : ∃ q, l[x]? = some q := ⟨_, List.getElem?_eq_some_iff.mpr ⟨by omega, rfl⟩⟩
      have hqm := hE q (List.mem_of_getElem? hq)
      have e1 := hi x q hq
      rw [if_neg (Nat.lt_irrefl x)] at e1
      have hlast : ∀ a b : Int, 32 * q.1 + q.2 - (a + b) = 32 * (puRen t q).1 + (puRen t q).2 → puP (DL_acts_J509 (DL_acts_L458 K t f) (x : Int) σ a b) Q := by
        intro a b hab
        unfold DL_acts_J509
        rw [pu_gat (by omega) (by omega), Int.toNat_natCast, show (x : Int) + 1 = ((x + 1 : Nat) : Int) by omega, e1, hab]
        refine ih (x + 1) _ (by omega) (by omega) (fun k h => by rw [pu_upK h, hk k h]) (fun i p hp => ?_) kk
        rw [pu_up]
        by_cases e : i = x
        · rw [if_pos ⟨rfl, e⟩, if_pos (by omega)]
          rw [e, hq] at hp
          cases hp
          rfl
        · rw [if_neg (fun z => e z.2), hi i p hp]
          by_cases e2 : i < x
          · rw [if_pos e2, if_pos (by omega)]
          · rw [if_neg e2, if_neg (by omega)]
      have hmid : ∀ a : Int, (∀ b : Int, b = (if t < q.2 then 1 else 0) → 32 * q.1 + q.2 - (a + b) = 32 * (puRen t q).1 + (puRen t q).2) → puP (DL_acts_J491 t (DL_acts_L458 K t f) (x : Int) σ a) Q := by
        intro a ha
        unfold DL_acts_J491
        rw [pu_gat (by omega) (by omega), Int.toNat_natCast, e1, pu_dv (by omega) (by omega) (by decide) (by decide), show (32 * q.1 + q.2) % 32 = q.2 by omega]
        refine pu_if ⟨by omega, by omega⟩ ⟨by omega, by omega⟩ (fun c2 => hlast a 1 (ha 1 (by rw [if_pos c2]))) (fun c2 => hlast a 0 (ha 0 (by rw [if_neg c2])))
      rw [pu_gat (by omega) (by omega), pu_gat (by omega) (by omega), Int.toNat_natCast, e1, pu_dv (by omega) (by omega) (by decide) (by decide), show (32 * q.1 + q.2) / 32 = q.1 by omega]
      refine pu_if ⟨by omega, by omega⟩ ⟨by omega, by omega⟩ (fun c2 => hmid 32 (fun b hb => ?_)) (fun c2 => hmid 0 (fun b hb => ?_))
      · show 32 * q.1 + q.2 - (32 + b) = 32 * (if t < q.1 then q.1 - 1 else q.1) + (if t < q.2 then q.2 - 1 else q.2)
        rw [if_pos c2, hb]
        split <;> omega
      · show 32 * q.1 + q.2 - (0 + b) = 32 * (if t < q.1 then q.1 - 1 else q.1) + (if t < q.2 then q.2 - 1 else q.2)
        rw [if_neg c2, hb]
        split <;> omega
    · have e : x = l.length := by omega
      subst e
      refine kk σ hk (fun i q hq => ?_)
      have := (List.getElem?_eq_some_iff.mp hq).1
      rw [hi i q hq, if_pos this]
theorem pv_rm_L529 {σ0 : gSt} {m t : Nat} (hm : m ≤ 23) (h4 : σ0 136 4 = (m : Int)) {K : gSt → Option (Int × gSt)} {Q : Int × gSt → Prop} : ∀ (f x : Nat) (σ : gSt), m - x < f → t ≤ x → x ≤ m → (∀ k, k ≠ 137 → k ≠ 138 → k ≠ 139 → σ k = σ0 k) → (∀ k, 137 ≤ k → k ≤ 139 → ∀ u : Nat, σ k u = if t ≤ u ∧ u < x then σ0 k (u + 1) else σ0 k u) → (∀ σ', (∀ k, k ≠ 137 → k ≠ 138 → k ≠ 139 → σ' k = σ0 k) → (∀ k, 137 ≤ k → k ≤ 139 → ∀ u : Nat, σ' k u = if t ≤ u ∧ u < m then σ0 k (u + 1) else σ0 k u) → puP (K σ') Q) → puP (DL_acts_L529 K f (x : Int) σ) Q := by
  intro f
  induction f with
  | zero => intro x σ h; omega
  | succ f ih =>
    intro x σ hf htx hx hk hi kk
    have e4 : σ 136 (Int.toNat (4 : Int)) = (m : Int) := by rw [hk 136 (by decide) (by decide) (by decide)]; exact h4
    rw [DL_acts_L529, pu_gat (by decide) (by decide), e4]
    refine pu_if ⟨by omega, by omega⟩ ⟨by omega, by omega⟩ (fun c => ?_) (fun c => ?_)
    · rw [pu_gat (by omega) (by omega), pu_gat (by omega) (by omega), pu_gat (by omega) (by omega), pu_gat (by omega) (by omega), pu_gat (by omega) (by omega), pu_gat (by omega) (by omega), show (x : Int) + 1 = ((x + 1 : Nat) : Int) by omega, Int.toNat_natCast, Int.toNat_natCast, pu_upK (σ := σ) (k := 137) (k' := 138) (by decide)]
      rw [pu_upK (k := 138) (k' := 139) (by decide), pu_upK (k := 137) (k' := 139) (by decide)]
      refine ih (x + 1) _ (by omega) (by omega) (by omega) (fun k k1 k2 k3 => by rw [pu_upK k3, pu_upK k2, pu_upK k1, hk k k1 k2 k3]) (fun k k1 k2 u => ?_) kk
      have hone : gUp (gUp (gUp σ 137 x (σ 137 (x + 1))) 138 x (σ 138 (x + 1))) 139 x (σ 139 (x + 1)) k u = if u = x then σ k (x + 1) else σ k u := by
        rcases (show k = 137 ∨ k = 138 ∨ k = 139 by omega) with rfl | rfl | rfl
        · rw [pu_upK (k' := 137) (by decide), pu_upK (k' := 137) (by decide), pu_up]
          by_cases e : u = x
          · rw [if_pos ⟨rfl, e⟩, if_pos e]
          · rw [if_neg (fun z => e z.2), if_neg e]
        · rw [pu_upK (k' := 138) (by decide), pu_up]
          by_cases e : u = x
          · rw [if_pos ⟨rfl, e⟩, if_pos e]
          · rw [if_neg (fun z => e z.2), if_neg e, pu_upK (k' := 138) (by decide)]
        · rw [pu_up]
          by_cases e : u = x
          · rw [if_pos ⟨rfl, e⟩, if_pos e]
          · rw [if_neg (fun z => e z.2), if_neg e, pu_upK (k' := 139) (by decide), pu_upK (k' := 139) (by decide)]
      rw [hone, hi k k1 k2 (x + 1), hi k k1 k2 u]
      by_cases e : u = x
      · rw [if_pos e, if_neg (by omega), if_pos (by omega), e]
      · rw [if_neg e]
        by_cases e2 : t ≤ u ∧ u < x
        · rw [if_pos e2, if_pos (by omega)]
        · rw [if_neg e2, if_neg (by omega)]
    · have e : x = m := by omega
      subst e
      exact kk σ hk hi
theorem pv_rm {σ : gSt} (h : pvInv σ) {t : Int} (ht : 0 ≤ t ∧ t < σ 136 4) : puP (DL_acts_L407 (DL_acts_K455 t) t gFuel ((σ 136 (Int.toNat (5 : Int))) - (1 : Int)) (0 : Int) σ) (fun r => r.1 = 1 ∧ pvInv r.2) := by
  obtain ⟨s, l, ho, hV, hC, hT, hA, hl, hE, hW⟩ := h
  have hn := ho.tasks
  obtain ⟨n, hn4⟩ : ∃ n : Nat, s 4 = (n : Int) := ⟨(s 4).toNat, by omega⟩
  have h4 : σ 136 4 = (n : Int) := by rw [hT.2.1, hn4]
  obtain ⟨t, rfl⟩ : ∃ k : Nat, t = (k : Int) := ⟨t.toNat, by omega⟩
  have htn : t < n := by omega
  rw [hn4] at hE
  rw [show σ 136 (Int.toNat (5 : Int)) = (l.length : Int) from hW.1]
  refine pv_rm_L407 (σ0 := σ) hl hE (by omega) (by omega) gFuel l.length 0 σ (by rw [gFuel_eq]; omega) (Nat.le_refl _) (by rw [List.take_length, List.drop_length]; exact hW.same rfl rfl |> fun z => by simpa using z) (by rw [List.drop_length]; show (0 : Int) = ((l.length - l.length : Nat) : Int) - ((0 : Nat) : Int); omega) (fun _ _ _ => rfl) (fun _ _ => rfl) (fun τ1 w1 k1 i1 => ?_)
  have hlf : (l.filter (puKeep (t : Int))).length ≤ 30 := by
    have := List.length_filter_le (puKeep (t : Int)) l
    omega
  have hEf : puEnds (n : Int) (l.filter (puKeep (t : Int))) := fun q hq => hE q (List.mem_filter.mp hq).1
  unfold DL_acts_K455
  refine pv_rm_L458 (σ0 := τ1) (l := l.filter (puKeep (t : Int))) (n := (n : Int)) hlf hEf (by omega) (by omega) w1.1 gFuel 0 τ1 (by rw [gFuel_eq]; omega) (Nat.zero_le _) (fun _ _ => rfl) (fun i q hq => by rw [if_neg (Nat.not_lt_zero _)]; exact w1.2 i q hq) (fun τ2 k2 w2 => ?_)
  unfold DL_acts_K518
  have e24 : τ2 136 (Int.toNat (4 : Int)) = (n : Int) := by
    rw [k2 136 (by decide)]
    show τ1 136 4 = _
    rw [i1 4 (by decide), h4]
  rw [pu_gat (by decide) (by decide), pu_gat (by decide) (by decide), e24, show Int.toNat (4 : Int) = 4 from rfl]
  refine pv_rm_L529 (σ0 := gUp τ2 136 4 ((n : Int) - 1)) (m := n - 1) (t := t) (by omega) (by rw [pu_upE]; omega) gFuel t _ (by rw [gFuel_eq]; omega) (Nat.le_refl _) (by omega) (fun _ _ _ _ => rfl) (fun k _ _ u => by rw [if_neg (by omega)]) (fun τ3 k3 w3 => ?_)
  have kk : ∀ k, k ≠ 136 → k ≠ 137 → k ≠ 138 → k ≠ 139 → k ≠ 140 → τ3 k = σ k := fun k a0 a1 a2 a3 a4 => by rw [k3 k a1 a2 a3, pu_upK a0, k2 k a4, k1 k a0 a4]
  have hV3 : puCV τ3 s := hV.same (fun k hk => kk k (by omega) (by omega) (by omega) (by omega) (by omega))
  have hC3 : pvHC τ3 := hC.same (fun k q1 q2 => kk k (by omega) (by omega) (by omega) (by omega) (by omega))
  obtain ⟨σ4, e4, h4'⟩ := pv_drop ho hV3 hC3 hA hl hn4 htn hE
  unfold DL_acts_K575
  refine pu_bp (v := (l.length : Int) - ((l.filter (puKeep (t : Int))).length : Int)) (τ := σ4) (by rw [e4]; rfl) (fun q9 b1 b2 => ?_)
  rw [b1, b2, pu_ifT ⟨by omega, by omega⟩ ⟨by omega, by omega⟩ rfl, pu_bo (Or.inr rfl)]
  have hL := pvDel_less s ((l.filter (puKeep (t : Int))).map (puRen (t : Int))) (t := t) (n := n) (by omega)
  have hA' := pvMk_A (pvDel s t n) ((l.filter (puKeep (t : Int))).map (puRen (t : Int)))
  generalize pvMk (pvDel s t n) ((l.filter (puKeep (t : Int))).map (puRen (t : Int))) = s' at hL hA' h4'
  have hLl : ((l.filter (puKeep (t : Int))).map (puRen (t : Int))).length ≤ 30 := by rw [List.length_map]; exact hlf
  refine pu_some ⟨rfl, pv_fin h4' ⟨fun i hi => ?_, ?_, fun u hu => ?_⟩ hA' hLl (by rw [hL.1]; exact puEnds_ren hE htn) ⟨?_, fun i q hq => ?_⟩⟩
  · rw [k3 136 (by decide) (by decide) (by decide), pu_upI (by omega), k2 136 (by decide), i1 i (by omega), hT.1 i hi, hL.2.1 i hi]
  · rw [k3 136 (by decide) (by decide) (by decide), pu_upE, hL.1]
    omega
  · rw [hL.1] at hu
    obtain ⟨g1, g2, g3⟩ := puLess_t hL (u := u) (by omega)
    have hτ : ∀ k, 137 ≤ k → k ≤ 139 → τ3 k u = if u < t then σ k u else σ k (u + 1) := fun k a1 a2 => by
      rw [w3 k a1 a2 u, pu_upK (by omega), k2 k (by omega), k1 k (by omega) (by omega)]
      by_cases e : u < t
      · rw [if_neg (by omega), if_pos e]
      · rw [if_pos (by omega), if_neg e]
    rw [g1, g2, g3, hτ 137 (by decide) (by decide), hτ 138 (by decide) (by decide), hτ 139 (by decide) (by decide)]
    by_cases e : u < t
    · rw [if_pos e, if_pos e, if_pos e, if_pos e, if_pos e, if_pos e]
      exact hT.2.2 u (by omega)
    · rw [if_neg e, if_neg e, if_neg e, if_neg e, if_neg e, if_neg e]
      exact hT.2.2 (u + 1) (by omega)
  · rw [k3 136 (by decide) (by decide) (by decide), pu_upI (by decide), k2 136 (by decide), w1.1, List.length_map]
  · rw [List.getElem?_map] at hq
    obtain ⟨q0, h0, rfl⟩ := Option.map_eq_some_iff.mp hq
    rw [k3 140 (by decide) (by decide) (by decide), pu_upK (by decide)]
    exact w2 i q0 h0
/-! the other turns -/
theorem pv_setT {σ : gSt} (h : pvInv σ) {q v : Int} (hq : 0 ≤ q ∧ q < 100000) (c : puRg (q % 4) v) : puP (DL_acts_J259 σ q v) (fun r => r.1 = 1 ∧ pvInv r.2) := by
  obtain ⟨s, l, ho, hV, hC, hT, hA, hl, hE, hW⟩ := h
  obtain ⟨w, hw⟩ : ∃ w : Nat, q % 4 = (w : Int) := ⟨(q % 4).toNat, by omega⟩
  have hw4 : w < 4 := by omega
  unfold DL_acts_J259
  rw [hw] at c ⊢
  have hV1 : puCV (gUp σ 136 w v) s := hV.same (fun k hk => pu_upK (by omega))
  have hC1 : pvHC (gUp σ 136 w v) := hC.same (fun k k1 k2 => pu_upK (by omega))
  obtain ⟨σ2, e2, h2⟩ := pv_set ho hV1 hC1 c
  have hsr : gR (s w) := by
    have h0 := ho.rows
    have h1 := ho.days
    have h2 := ho.keep
    have h3 := ho.order
    rcases (show w = 0 ∨ w = 1 ∨ w = 2 ∨ w = 3 by omega) with rfl | rfl | rfl | rfl
    · exact ⟨by omega, by omega⟩
    · exact ⟨by omega, by omega⟩
    · exact ⟨by omega, by omega⟩
    · exact ⟨by omega, by omega⟩
  rw [pu_gat (by omega) (by omega), pu_gat (by omega) (by omega), Int.toNat_natCast]
  refine pu_bp (v := s w) (τ := σ2) (by rw [e2]; rfl) (fun q9 b1 b2 => ?_)
  rw [b1, b2, hT.1 w hw4, pu_ifT hsr hsr rfl, pu_bo (Or.inr rfl)]
  refine pu_some ⟨rfl, pv_fin (l' := l) h2 ⟨fun i hi => ?_, ?_, fun t ht => ?_⟩ ⟨by rw [puSet_n (by omega)]; exact hA.1, fun i p hp => by rw [puSet_n (by omega), puSet_n (by omega)]; exact hA.2 i p hp⟩ hl (by rw [puSet_n (by omega)]; exact hE) (hW.same (pu_upI (by omega)) (pu_upK (by decide)))⟩
  · rw [puSet_up]
    by_cases e : i = w
    · rw [e, puSet_e, puSet_e]
    · rw [puSet_n e, puSet_n e]
      exact hT.1 i hi
  · rw [pu_upI (by omega), puSet_n (by omega)]
    exact hT.2.1
  · rw [puSet_n (by omega)] at ht
    rw [pu_upK (by decide), pu_upK (by decide), pu_upK (by decide), puSet_n (by omega), puSet_n (by omega), puSet_n (by omega)]
    exact hT.2.2 t ht
theorem pv_setJ {σ : gSt} (h : pvInv σ) {q : Int} (hq : 0 ≤ q ∧ q < 100000) : puP (DL_acts_J212 σ q) (fun r => r.1 = 1 ∧ pvInv r.2) := by
  unfold DL_acts_J212
  rw [pu_dv (by omega) (by omega) (by decide) (by decide)]
  refine pu_if ⟨by omega, by omega⟩ (by decide) (fun c => ?_) (fun c => ?_)
  · rw [pu_dv (by omega) (by omega) (by decide) (by decide), pu_dv (by omega) (by omega) (by decide) (by decide)]
    exact pv_setT h hq (Or.inl ⟨c, by omega, by omega⟩)
  · refine pu_if ⟨by omega, by omega⟩ (by decide) (fun c2 => ?_) (fun c2 => ?_)
    · rw [pu_dv (by omega) (by omega) (by decide) (by decide), pu_dv (by omega) (by omega) (by decide) (by decide)]
      exact pv_setT h hq (Or.inr (Or.inl ⟨c2, by omega, by omega⟩))
    · rw [pu_dv (by omega) (by omega) (by decide) (by decide), pu_dv (by omega) (by omega) (by decide) (by decide)]
      refine pv_setT h hq (Or.inr (Or.inr ?_))
      have := Int.emod_lt_of_pos q (show (0 : Int) < 4 by decide)
      have := Int.emod_nonneg q (show (4 : Int) ≠ 0 by decide)
      by_cases c3 : q % 4 = 2
      · exact Or.inl ⟨c3, by omega, by omega⟩
      · exact Or.inr ⟨by omega, by omega, by omega⟩
theorem pv_addT {σ : gSt} (h : pvInv σ) {g q d : Int} (hg : 0 ≤ g ∧ g < 6) (hq : 0 ≤ q ∧ q < 100000) (hd : d = 60 ∨ d = 15) : puP (DL_acts_J78 σ q g d) (fun r => r.1 = 1 ∧ pvInv r.2) := by
  obtain ⟨s, l, ho, hV, hC, hT, hA, hl, hE, hW⟩ := h
  have hn := ho.tasks
  obtain ⟨n, hn4⟩ : ∃ n : Nat, s 4 = (n : Int) := ⟨(s 4).toNat, by omega⟩
  have h4 : σ 136 (Int.toNat (4 : Int)) = (n : Int) := by
    show σ 136 4 = _
    rw [hT.2.1, hn4]
  have c1 : 0 ≤ q % 200 ∧ q % 200 ≤ 199 := by omega
  have c2 : 1 ≤ 1 + q / 200 % d ∧ 1 + q / 200 % d ≤ 60 := by rcases hd with rfl | rfl <;> omega
  unfold DL_acts_J78
  rw [pu_dv (by omega) (by omega) (by omega) (by omega), h4]
  generalize 1 + q / 200 % d = len at c2 ⊢
  generalize q % 200 = fst at c1 ⊢
  refine pu_if ⟨by omega, by omega⟩ (by decide) (fun c => ?_) (fun c => ?_)
  · refine pu_bp (v := -100003) (τ := σ) (by rw [pv_add24 hV (by rw [hn4]; exact c) ⟨hg.1, by omega⟩ c1 c2]; rfl) (fun q9 b1 b2 => ?_)
    rw [b1, b2, pu_ifT (by decide) (by decide) rfl, pu_bo (Or.inr rfl)]
    exact pu_some ⟨rfl, s, l, ho, hV, hC, hT, hA, hl, hE, hW⟩
  · have hn24 : n < 24 := by omega
    rw [pu_gat (by omega) (by omega), pu_gat (by omega) (by omega), pu_gat (by omega) (by omega), pu_gat (by decide) (by decide), pu_gat (by decide) (by decide), Int.toNat_natCast, show gUp (gUp (gUp σ 137 n g) 138 n fst) 139 n len 136 (Int.toNat (4 : Int)) = (n : Int) by rw [pu_upK (by decide), pu_upK (by decide), pu_upK (by decide)]; exact h4, show Int.toNat (4 : Int) = 4 from rfl]
    obtain ⟨τ, hτ⟩ : ∃ τ, τ = gUp (gUp (gUp (gUp σ 137 n g) 138 n fst) 139 n len) 136 4 ((n : Int) + 1) := ⟨_, rfl⟩
    rw [← hτ]
    have hk : ∀ k, k ≠ 136 → k ≠ 137 → k ≠ 138 → k ≠ 139 → τ k = σ k := fun k a0 a1 a2 a3 => by rw [hτ, pu_upK a0, pu_upK a3, pu_upK a2, pu_upK a1]
    have h136 : ∀ i, i ≠ 4 → τ 136 i = σ 136 i := fun i hi => by rw [hτ, pu_upI hi, pu_upK (by decide), pu_upK (by decide), pu_upK (by decide)]
    have hV1 : puCV τ s := hV.same (fun k hk2 => hk k (by omega) (by omega) (by omega) (by omega))
    have hC1 : pvHC τ := hC.same (fun k k1 k2 => hk k (by omega) (by omega) (by omega) (by omega))
    obtain ⟨σ2, e2, h2⟩ := pv_add ho hV1 hC1 hn4 hn24 ⟨hg.1, by omega⟩ c1 c2
    refine pu_bp (v := (n : Int)) (τ := σ2) (by rw [e2]; rfl) (fun q9 b1 b2 => ?_)
    rw [b1, b2, pu_ifT ⟨by omega, by omega⟩ ⟨by omega, by omega⟩ rfl, pu_bo (Or.inr rfl)]
    have h77 : ∀ i : Nat, 77 ≤ i → puAddT s n g fst len i = s i := fun i hi => puAddT_o (by omega) (by omega)
    refine pu_some ⟨rfl, pv_fin (l' := l) h2 ⟨fun i hi => ?_, ?_, fun t ht => ?_⟩ ⟨by rw [h77 77 (by omega)]; exact hA.1, fun i p hp => by rw [h77 _ (by omega), h77 _ (by omega)]; exact hA.2 i p hp⟩ hl (fun p hp => ?_) (hW.same (h136 5 (by decide)) (hk 140 (by decide) (by decide) (by decide) (by decide)))⟩
    · rw [h136 i (by omega), puAddT_o (by omega) (by omega)]
      exact hT.1 i hi
    · rw [hτ, pu_upE, puAddT_4]
    · rw [puAddT_4] at ht
      rw [hτ, pu_upK (k' := 137) (by decide), pu_upK (k' := 137) (by decide), pu_upK (k' := 137) (by decide), pu_upK (k' := 138) (by decide), pu_upK (k' := 138) (by decide), pu_upK (k' := 139) (by decide)]
      by_cases e : t = n
      · subst e
        rw [puAddT_n.1, puAddT_n.2.1, puAddT_n.2.2]
        exact ⟨pu_upE _ _ _ _, pu_upE _ _ _ _, pu_upE _ _ _ _⟩
      · obtain ⟨g1, g2, g3⟩ := hT.2.2 t (by omega)
        rw [puAddT_o (by omega) (by omega), puAddT_o (by omega) (by omega), puAddT_o (by omega) (by omega)]
        exact ⟨by rw [pu_upI e]; exact g1, by rw [pu_upI e, pu_upK (by decide)]; exact g2, by rw [pu_upI e, pu_upK (by decide), pu_upK (by decide)]; exact g3⟩
    · rw [puAddT_4]
      have := hE p hp
      omega
theorem pv_addJ {σ : gSt} (h : pvInv σ) {z q : Int} (hq : 0 ≤ q ∧ q < 100000) : puP (DL_acts_J38 σ z q) (fun r => r.1 = 1 ∧ pvInv r.2) := by
  obtain ⟨g, eg, g0, g1⟩ := pv_low σ (gShr z (4 : Int)) (n := 6) (by decide)
  unfold DL_acts_J38
  rw [eg, Option.bind_some, pu_dv (by omega) (by omega) (by decide) (by decide), pu_dv (by omega) (by omega) (by decide) (by decide), pu_dv (by omega) (by omega) (by decide) (by decide)]
  exact pu_if ⟨by omega, by omega⟩ (by decide) (fun _ => pv_addT h ⟨g0, g1⟩ hq (Or.inl rfl)) (fun _ => pv_addT h ⟨g0, g1⟩ hq (Or.inr rfl))
theorem pv_moveT {σ : gSt} (h : pvInv σ) {t q : Int} (ht : 0 ≤ t ∧ t < σ 136 4) (hq : 0 ≤ q ∧ q < 100000) : puP (DL_acts_J292 q t σ) (fun r => r.1 = 1 ∧ pvInv r.2) := by
  obtain ⟨s, l, ho, hV, hC, hT, hA, hl, hE, hW⟩ := h
  have hn := ho.tasks
  have h4 := hT.2.1
  obtain ⟨t, rfl⟩ : ∃ k : Nat, t = (k : Int) := ⟨t.toNat, by omega⟩
  have ht4 : (t : Int) < s 4 := by omega
  have ht24 := ho.t24 ht4
  have c1 : 0 ≤ q % 200 ∧ q % 200 ≤ 199 := by omega
  have c2 : 1 ≤ 1 + q / 200 % 60 ∧ 1 + q / 200 % 60 ≤ 60 := by omega
  unfold DL_acts_J292
  rw [pu_gat (by omega) (by omega), pu_dv (by omega) (by omega) (by decide) (by decide), pu_gat (by omega) (by omega), pu_dv (by omega) (by omega) (by decide) (by decide), pu_dv (by omega) (by omega) (by decide) (by decide), pu_gat (by omega) (by omega), pu_gat (by omega) (by omega), pu_gat (by omega) (by omega), Int.toNat_natCast]
  generalize 1 + q / 200 % 60 = len at c2 ⊢
  generalize q % 200 = fst at c1 ⊢
  rw [show gUp (gUp σ 138 t fst) 139 t len 138 t = fst by rw [pu_upK (by decide), pu_upE], show gUp (gUp σ 138 t fst) 139 t len 139 t = len from pu_upE _ _ _ _]
  obtain ⟨τ, hτ⟩ : ∃ τ, τ = gUp (gUp σ 138 t fst) 139 t len := ⟨_, rfl⟩
  rw [← hτ]
  have hk : ∀ k, k ≠ 138 → k ≠ 139 → τ k = σ k := fun k a2 a3 => by rw [hτ, pu_upK a3, pu_upK a2]
  have hV1 : puCV τ s := hV.same (fun k hk2 => hk k (by omega) (by omega))
  have hC1 : pvHC τ := hC.same (fun k k1 k2 => hk k (by omega) (by omega))
  obtain ⟨σ2, e2, h2⟩ := pv_move ho hV1 hC1 ht4 c1 c2
  have hf := ho.f ht4
  refine pu_bp (v := s (6 + 3 * t)) (τ := σ2) (by rw [e2]; rfl) (fun q9 b1 b2 => ?_)
  rw [b1, b2, (hT.2.2 t ht4).2.1, pu_ifT ⟨by omega, by omega⟩ ⟨by omega, by omega⟩ rfl, pu_bo (Or.inr rfl)]
  refine pu_some ⟨rfl, pv_fin (l' := l) h2 ⟨fun i hi => ?_, ?_, fun u hu => ?_⟩ ⟨by rw [puMov_o (by omega) (by omega)]; exact hA.1, fun i p hp => by rw [puMov_o (by omega) (by omega), puMov_o (by omega) (by omega)]; exact hA.2 i p hp⟩ hl (by rw [puMov_o (by omega) (by omega)]; exact hE) (hW.same (by rw [hk 136 (by decide) (by decide)]) (hk 140 (by decide) (by decide)))⟩
  · rw [hk 136 (by decide) (by decide), puMov_o (by omega) (by omega)]
    exact hT.1 i hi
  · rw [hk 136 (by decide) (by decide), puMov_o (by omega) (by omega)]
    exact h4
  · rw [puMov_o (by omega) (by omega)] at hu
    rw [hk 137 (by decide) (by decide), puMov_o (j := 5 + 3 * u) (by omega) (by omega), hτ, pu_upK (k' := 138) (by decide)]
    obtain ⟨g1, g2, g3⟩ := hT.2.2 u hu
    by_cases e : u = t
    · subst e
      rw [puMov_n.1, puMov_n.2]
      exact ⟨g1, pu_upE _ _ _ _, pu_upE _ _ _ _⟩
    · rw [puMov_o (by omega) (by omega), puMov_o (by omega) (by omega)]
      exact ⟨g1, by rw [pu_upI e]; exact g2, by rw [pu_upI e, pu_upK (by decide)]; exact g3⟩
theorem pv_full {σ : gSt} {s : Nat → Int} {l : List (Int × Int)} (hS : pvSt σ s l) {t q : Int} (ht : 0 ≤ t ∧ t < s 4) (c3 : t ≠ q % s 4) (c4 : puHas l t (q % s 4) l.length = true ∨ l.length = 30) : puP (DL_acts_J639 σ q t) (fun r => r.1 = 1 ∧ pvInv r.2) := by
  have hI : pvInv σ := ⟨s, l, hS⟩
  obtain ⟨ho, hV, hC, hT, hA, hl, hE, hW⟩ := hS
  unfold DL_acts_J639
  rw [show σ 136 (Int.toNat (4 : Int)) = s 4 from hT.2.1]
  refine pu_bp (v := -100003) (τ := σ) (by rw [pv_pointF ho hV hA hl hE ht ⟨Int.emod_nonneg _ (by omega), Int.emod_lt_of_pos _ (by omega)⟩ c3 c4]; rfl) (fun q9 b1 b2 => ?_)
  rw [b1, b2, pu_ifT (by decide) (by decide) rfl, pu_bo (Or.inr rfl)]
  exact pu_some ⟨rfl, hI⟩
theorem pv_acts {σ : gSt} (h : pvInv σ) (z : Int) : puP (DL_acts σ z) (fun r => r.1 = 1 ∧ pvInv r.2) := by
  have hI := h
  obtain ⟨s, l, ho, hV, hC, hT, hA, hl, hE, hW⟩ := h
  have hn := ho.tasks
  have h4 : σ 136 (Int.toNat (4 : Int)) = s 4 := hT.2.1
  have h5 : σ 136 (Int.toNat (5 : Int)) = (l.length : Int) := hW.1
  obtain ⟨q, eq, q0, q1⟩ := pv_low σ (gShr z (8 : Int)) (n := 100000) (by decide)
  obtain ⟨k, ek, k0, k1⟩ := pv_low σ z (n := 16) (by decide)
  unfold DL_acts
  rw [eq, Option.bind_some, pu_gat (by decide) (by decide), ek, Option.bind_some, h4]
  refine pu_if ⟨by omega, by omega⟩ (by decide) (fun _ => pv_addJ hI ⟨q0, q1⟩) (fun c1 => ?_)
  refine pu_if ⟨by omega, by omega⟩ (by decide) (fun _ => pv_addJ hI ⟨q0, q1⟩) (fun c2 => ?_)
  obtain ⟨t, et, t0, t1⟩ := pv_low σ (gShr z (4 : Int)) (n := s 4) ⟨by omega, by omega⟩
  have ht : 0 ≤ t ∧ t < σ 136 4 := ⟨t0, by rw [hT.2.1]; exact t1⟩
  rw [et, Option.bind_some, pu_dv (by omega) (by omega) (by omega) (by omega)]
  refine pu_if ⟨by omega, by omega⟩ (by decide) (fun _ => pv_setJ hI ⟨q0, q1⟩) (fun _ => ?_)
  refine pu_if ⟨by omega, by omega⟩ (by decide) (fun _ => pv_setJ hI ⟨q0, q1⟩) (fun _ => ?_)
  refine pu_if ⟨by omega, by omega⟩ (by decide) (fun _ => pv_moveT hI ht ⟨q0, q1⟩) (fun _ => ?_)
  refine pu_if ⟨by omega, by omega⟩ (by decide) (fun _ => pv_moveT hI ht ⟨q0, q1⟩) (fun _ => ?_)
  refine pu_if ⟨by omega, by omega⟩ (by decide) (fun _ => ?_) (fun _ => ?_)
  · rw [pu_dv (by omega) (by omega) (by decide) (by decide)]
    refine pu_if ⟨by omega, by omega⟩ (by decide) (fun _ => ?_) (fun _ => ?_)
    · rw [pu_gat (by decide) (by decide), h5]
      refine pu_if ⟨by omega, by omega⟩ (by decide) (fun c3 => ?_) (fun c3 => ?_)
      · have h77 := hA.1
        refine pu_bp (v := -100001) (τ := σ) (by rw [pv_unpointX ho hV (v := 0) (by decide) (by omega)]; rfl) (fun q9 b1 b2 => ?_)
        rw [b1, b2, pu_ifT (by decide) (by decide) rfl, pu_bo (Or.inr rfl)]
        exact pu_some ⟨rfl, hI⟩
      · rw [pu_dv (by omega) (by omega) (by decide) (by decide), pu_gat (by decide) (by decide), pu_dv (by omega) (by omega) (by omega) (by omega)]
        refine pu_b (pv_goes hI ⟨Int.emod_nonneg _ (by omega), by rw [hW.1]; exact Int.emod_lt_of_pos _ (by omega)⟩) (fun r w => ?_)
        rw [w.1, pu_bo (Or.inr rfl)]
        exact pu_some ⟨rfl, w.2⟩
    · rw [pu_gat (by decide) (by decide)]
      exact pv_rm hI ht
  · have hfull := fun c3 c4 => pv_full ⟨ho, hV, hC, hT, hA, hl, hE, hW⟩ (t := t) (q := q) ⟨t0, t1⟩ c3 c4
    have hv0 : 0 ≤ q % s 4 := Int.emod_nonneg _ (by omega)
    have hv1 : q % s 4 < s 4 := Int.emod_lt_of_pos _ (by omega)
    generalize q % s 4 = v at hv0 hv1 hfull ⊢
    refine pu_if ⟨by omega, by omega⟩ ⟨by omega, by omega⟩ (fun c3 => ?_) (fun c3 => ?_)
    · rw [← c3]
      refine pu_bp (v := -100002) (τ := σ) (by rw [pv_pointE ho hV ⟨t0, t1⟩]; rfl) (fun q9 b1 b2 => ?_)
      rw [b1, b2, pu_ifT (by decide) (by decide) rfl, pu_bo (Or.inr rfl)]
      exact pu_some ⟨rfl, hI⟩
    · refine pu_b (pv_index hW hl hE hn.2 ⟨by omega, by omega⟩ ⟨by omega, by omega⟩) (fun r w => ?_)
      refine pu_if ⟨by omega, by omega⟩ (by decide) (fun c5 => ?_) (fun c5 => hfull c3 (Or.inl (w.2.mp (by omega))))
      rw [pu_gat (by decide) (by decide), h5]
      refine pu_if ⟨by omega, by omega⟩ (by decide) (fun c6 => hfull c3 (Or.inr (by omega))) (fun c6 => ?_)
      have hl30 : l.length < 30 := by omega
      have hno : ¬ puHas l t v l.length = true := fun z => absurd (w.2.mpr z) (by omega)
      rw [pu_gat (by decide) (by decide), pu_gat (by omega) (by omega), pu_gat (by decide) (by decide), pu_gat (by decide) (by decide), Int.toNat_natCast, show gUp σ 140 l.length (32 * t + v) 136 (Int.toNat (5 : Int)) = (l.length : Int) by rw [pu_upK (by decide)]; exact h5, show Int.toNat (5 : Int) = 5 from rfl]
      obtain ⟨τ, hτ⟩ : ∃ τ, τ = gUp (gUp σ 140 l.length (32 * t + v)) 136 5 ((l.length : Int) + 1) := ⟨_, rfl⟩
      rw [← hτ]
      have hk : ∀ k, k ≠ 136 → k ≠ 140 → τ k = σ k := fun k a0 a1 => by rw [hτ, pu_upK a0, pu_upK a1]
      have h136 : ∀ i, i ≠ 5 → τ 136 i = σ 136 i := fun i hi => by rw [hτ, pu_upI hi, pu_upK (by decide)]
      have hV1 : puCV τ s := hV.same (fun k hk2 => hk k (by omega) (by omega))
      have hC1 : pvHC τ := hC.same (fun k k1 k2 => hk k (by omega) (by omega))
      obtain ⟨σ2, e2, h2⟩ := pv_point ho hV1 hC1 hA hl30 hE ⟨t0, t1⟩ ⟨hv0, hv1⟩ c3 hno
      have e25 : σ2 136 5 = (l.length : Int) + 1 := by rw [h2.2.2.2 136 (by decide), hτ, pu_upE]
      refine pu_bp (v := (l.length : Int)) (τ := σ2) (by rw [e2]; rfl) (fun q9 b1 b2 => ?_)
      rw [b1, b2, pu_gat (by decide) (by decide), e25, pu_ifT ⟨by omega, by omega⟩ ⟨by omega, by omega⟩ (by show (l.length : Int) = (l.length : Int) + 1 - 1; omega), pu_bo (Or.inr rfl)]
      have hT1 := hT.same h136 (fun k k1 k2 => hk k (by omega) (by omega))
      refine pu_some ⟨rfl, pv_fin h2 ⟨fun i hi => by rw [pvMk_j (by omega)]; exact hT1.1 i hi, by rw [pvMk_j (by decide)]; exact hT1.2.1, fun u hu => ?_⟩ (pvMk_A _ _) (by rw [List.length_append]; show l.length + 1 ≤ 30; omega) (fun p hp => ?_) ⟨?_, fun i p hp => ?_⟩⟩
      · rw [pvMk_j (by decide)] at hu
        have := ho.t24 hu
        rw [pvMk_j (by omega), pvMk_j (by omega), pvMk_j (by omega)]
        exact hT1.2.2 u hu
      · rw [pvMk_j (by decide)]
        rcases List.mem_append.mp hp with hp | hp
        · exact hE p hp
        · rw [List.mem_singleton.mp hp]
          exact ⟨⟨t0, t1⟩, hv0, hv1⟩
      · rw [hτ, pu_upE, List.length_append]
        show (l.length : Int) + 1 = ((l.length + 1 : Nat) : Int)
        omega
      · rw [hτ, pu_upK (by decide), pu_up]
        rcases pu_snoc hp with ⟨hi, hp⟩ | ⟨hi, hp⟩
        · rw [if_neg (fun z => by omega)]
          exact hW.2 i p hp
        · rw [if_pos ⟨rfl, hi⟩, hp]
