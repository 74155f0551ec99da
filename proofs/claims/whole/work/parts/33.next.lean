/-! gather (the class), sizeOf and next (the reference) over one list -/
theorem pu_gather_L {σ0 : gSt} {b p1 : Nat} {s : Nat → Int} (ho : puOk s) (hb : p1 + 12 < b) (g : Int) (hg : 0 ≤ g ∧ g ≤ 5) : ∀ (f t : Nat) (σ : gSt), (s 4).toNat - t < f → (t : Int) ≤ s 4 → puPl σ p1 s → puHold σ (b + 8) (puSrt s g t) → σ b 4 = ((puSrt s g t).length : Int) → (∀ k, k ≠ b → k ≠ b + 8 → σ k = σ0 k) → (∀ i, i ≠ 4 → σ b i = σ0 b i) → puP (DX0_gather_L7 b p1 g f (t : Int) σ) (fun σ' => puHold σ' (b + 8) (puSort s g) ∧ σ' b 4 = ((puSort s g).length : Int) ∧ (∀ k, k ≠ b → k ≠ b + 8 → σ' k = σ0 k) ∧ (∀ i, i ≠ 4 → σ' b i = σ0 b i)) := by
  have hn := ho.tasks
  intro f
  induction f with
  | zero => intro t σ h; omega
  | succ f ih =>
    intro t σ hf htn hp hh hc hK hI
    rw [DX0_gather_L7, pu_tasks hp, Option.bind_some]
    refine pu_if ⟨by omega, by omega⟩ ⟨by omega, by omega⟩ (fun ht => ?_) (fun ht => ?_)
    · have hgt := ho.g ht
      rw [pu_group ho hp ht, Option.bind_some]
      have e1 : ((t : Int) + 1) = ((t + 1 : Nat) : Int) := by omega
      refine pu_if ⟨by omega, by omega⟩ ⟨by omega, by omega⟩ (fun hc1 => ?_) (fun hc1 => ?_)
      · have hlen := puSrt_len (s := s) (g := g) t
        have h24 := ho.t24 ht
        refine pu_b (pu_insert ho hb ht (l := puSrt s g t) (by omega) (puSrt_pw t) (fun u hu => by
          have := ((puSrt_mem t u).mp hu).1
          omega) hp hh hc) (fun σ1 h1 => ?_)
        obtain ⟨a1, a2, a3⟩ := h1
        unfold DX0_gather_J30
        rw [e1]
        have eS : puSrt s g (t + 1) = puIns s t (puSrt s g t) := by
          show (if s (5 + 3 * t) = g then _ else _) = _
          rw [if_pos hc1]
        refine ih (t + 1) σ1 (by omega) (by omega) (hp.same (fun k h1 h2 => a2 k (by omega) (by omega))) (by rw [eS]; exact a1) ?_ (fun k h1 h2 => by rw [a2 k h1 h2, hK k h1 h2]) (fun i hi => by rw [a3, pu_upI hi, hI i hi])
        rw [eS, puIns_len, a3, pu_upE, hc]
        omega
      · unfold DX0_gather_J30
        rw [e1]
        have eS : puSrt s g (t + 1) = puSrt s g t := by
          show (if s (5 + 3 * t) = g then _ else _) = _
          rw [if_neg hc1]
        exact ih (t + 1) σ (by omega) (by omega) hp (by rw [eS]; exact hh) (by rw [eS]; exact hc) hK hI
    · have e : t = (s 4).toNat := by omega
      subst e
      exact pu_some ⟨hh, hc, hK, hI⟩
theorem pu_gather {σ : gSt} {b p1 : Nat} {s : Nat → Int} (ho : puOk s) (hb : p1 + 12 < b) {g : Int} (hg : 0 ≤ g ∧ g ≤ 5) (hp : puPl σ p1 s) : puP (DX0_gather b p1 σ g) (fun σ' => puHold σ' (b + 8) (puSort s g) ∧ σ' b 4 = ((puSort s g).length : Int) ∧ (∀ k, k ≠ b → k ≠ b + 8 → σ' k = σ k) ∧ (∀ i, i ≠ 4 → σ' b i = σ b i)) := by
  have hn := ho.tasks
  unfold DX0_gather
  refine pu_gather_L ho hb g hg gFuel 0 _ (by rw [gFuel_eq]; omega) (by omega) (hp.same (fun k h1 h2 => pu_upK (by omega))) (fun i u hi => by cases hi) (pu_upE _ _ _ _) (fun k h1 h2 => pu_upK h1) (fun i hi => pu_upI hi)
theorem pu_sizeOf_L {σ : gSt} (ho : puOk (σ 137)) (g : Int) (hg : 0 ≤ g ∧ g ≤ 5) : ∀ (f t : Nat), (σ 137 4).toNat - t < f → (t : Int) ≤ σ 137 4 → DX9_sizeOf_L4 σ g f (t : Int) ((puSrt (σ 137) g t).length : Int) = some ((puSort (σ 137) g).length : Int) := by
  have hn := ho.tasks
  intro f
  induction f with
  | zero => intro t h; omega
  | succ f ih =>
    intro t hf htn
    rw [DX9_sizeOf_L4, pu_gat (by decide) (by decide), show Int.toNat (4 : Int) = 4 from rfl]
    have e1 : ((t : Int) + 1) = ((t + 1 : Nat) : Int) := by omega
    by_cases ht : (t : Int) < σ 137 4
    · have hgt := ho.g ht
      rw [pu_ifT ⟨by omega, by omega⟩ ⟨by omega, by omega⟩ ht, pu_of0 ho ht, Option.bind_some]
      by_cases hc1 : σ 137 (5 + 3 * t) = g
      · rw [pu_ifT ⟨by omega, by omega⟩ ⟨by omega, by omega⟩ hc1]
        unfold DX9_sizeOf_J30
        rw [e1]
        have eS : puSrt (σ 137) g (t + 1) = puIns (σ 137) t (puSrt (σ 137) g t) := by
          show (if σ 137 (5 + 3 * t) = g then _ else _) = _
          rw [if_pos hc1]
        have := ih (t + 1) (by omega) (by omega)
        rw [eS, puIns_len] at this
        exact this
      · rw [pu_ifF ⟨by omega, by omega⟩ ⟨by omega, by omega⟩ hc1]
        unfold DX9_sizeOf_J30
        rw [e1, Int.add_zero]
        have eS : puSrt (σ 137) g (t + 1) = puSrt (σ 137) g t := by
          show (if σ 137 (5 + 3 * t) = g then _ else _) = _
          rw [if_neg hc1]
        have := ih (t + 1) (by omega) (by omega)
        rw [eS] at this
        exact this
    · rw [pu_ifF ⟨by omega, by omega⟩ ⟨by omega, by omega⟩ ht]
      have e : t = (σ 137 4).toNat := by omega
      subst e
      rfl
theorem pu_sizeOf {σ : gSt} (ho : puOk (σ 137)) {g : Int} (hg : 0 ≤ g ∧ g ≤ 5) : DX9_sizeOf σ g = some ((puSort (σ 137) g).length : Int) := by
  have hn := ho.tasks
  exact pu_sizeOf_L ho g hg gFuel 0 (by rw [gFuel_eq]; omega) (by omega)
/-- what next looks for -/
def puLater (s : Nat → Int) (before : Int) (t : Nat) : Prop := before = -1 ∨ ∃ u : Nat, before = (u : Int) ∧ puLt s u t
def puNx (s : Nat → Int) (g : Int) (before : Int) (t : Nat) : Prop := s (5 + 3 * t) = g ∧ puLater s before t
def puBest (s : Nat → Int) (g : Int) (before : Int) (n : Nat) (r : Int) : Prop := (r = -1 ∧ ∀ t, t < n → ¬ puNx s g before t) ∨ ∃ m : Nat, r = (m : Int) ∧ m < n ∧ puNx s g before m ∧ ∀ t, t < n → puNx s g before t → t = m ∨ puLt s m t
theorem pu_next_L {σ : gSt} (ho : puOk (σ 137)) (g : Int) (hg : 0 ≤ g ∧ g ≤ 5) (before : Int) (hbf : before = -1 ∨ (0 ≤ before ∧ before < σ 137 4)) : ∀ (f t : Nat) (r : Int), (σ 137 4).toNat - t < f → (t : Int) ≤ σ 137 4 → puBest (σ 137) g before t r → puP (DX9_next_L5 σ g before f (t : Int) r) (fun r' => puBest (σ 137) g before (σ 137 4).toNat r') := by
  have hn := ho.tasks
  intro f
  induction f with
  | zero => intro t r h; omega
  | succ f ih =>
    intro t r hf htn hB
    have hrR : gR r := by
      rcases hB with ⟨h, -⟩ | ⟨m, h, h2, -⟩
      · rw [h]; decide
      · exact ⟨by omega, by omega⟩
    rw [DX9_next_L5, pu_gat (by decide) (by decide), show Int.toNat (4 : Int) = 4 from rfl]
    have e1 : ((t : Int) + 1) = ((t + 1 : Nat) : Int) := by omega
    refine pu_if ⟨by omega, by omega⟩ ⟨by omega, by omega⟩ (fun ht => ?_) (fun ht => ?_)
    · have hgt := ho.g ht
      have hft := ho.f ht
      -- the next round
      have hskip : ¬ puNx (σ 137) g before t → puP (DX9_next_J106 (DX9_next_L5 σ g before f) (t : Int) r) (fun r' => puBest (σ 137) g before (σ 137 4).toNat r') := by
        intro hno
        unfold DX9_next_J106
        rw [e1]
        refine ih (t + 1) r (by omega) (by omega) ?_
        rcases hB with ⟨h, h2⟩ | ⟨m, h, h2, h3, h4⟩
        · refine Or.inl ⟨h, fun u hu => ?_⟩
          by_cases q : u = t
          · rw [q]; exact hno
          · exact h2 u (by omega)
        · refine Or.inr ⟨m, h, by omega, h3, fun u hu hP => ?_⟩
          by_cases q : u = t
          · exact absurd (q ▸ hP) hno
          · exact h4 u (by omega) hP
      have hJ64 : ∀ later : Int, (later = 0 ∨ later = 1) → (later = 1 → puLater (σ 137) before t) → (later = 0 → ¬ puLater (σ 137) before t) → puP (DX9_next_J64 σ g (DX9_next_L5 σ g before f) (t : Int) r later) (fun r' => puBest (σ 137) g before (σ 137 4).toNat r') := by
        intro later hl01 hl1 hl0
        unfold DX9_next_J64
        rw [pu_of0 ho ht, Option.bind_some]
        refine pu_if ⟨by omega, by omega⟩ ⟨by omega, by omega⟩ (fun hc1 => ?_) (fun hc1 => hskip (fun q => hc1 q.1))
        refine pu_if ⟨by omega, by omega⟩ (by decide) (fun hc2 => hskip (fun q => hl0 hc2 q.2)) (fun hc2 => ?_)
        have hP : puNx (σ 137) g before t := ⟨hc1, hl1 (by omega)⟩
        refine pu_if hrR (by decide) (fun hc3 => ?_) (fun hc3 => ?_)
        · unfold DX9_next_J103 DX9_next_J106
          rw [e1]
          refine ih (t + 1) t (by omega) (by omega) (Or.inr ⟨t, rfl, by omega, hP, fun u hu hPu => ?_⟩)
          rcases hB with ⟨h, h2⟩ | ⟨m, h, h2, h3, h4⟩
          · by_cases q : u = t
            · exact Or.inl q
            · exact absurd hPu (h2 u (by omega))
          · omega
        · rcases hB with ⟨h, h2⟩ | ⟨m, h, h2, h3, h4⟩
          · exact absurd h hc3
          · subst h
            have hm : (m : Int) < σ 137 4 := by omega
            have hfm := ho.f hm
            rw [pu_of1 ho ht, Option.bind_some, pu_of1 ho hm, Option.bind_some]
            refine pu_if ⟨by omega, by omega⟩ ⟨by omega, by omega⟩ (fun hc4 => ?_) (fun hc4 => ?_)
            · unfold DX9_next_J103 DX9_next_J106
              rw [e1]
              refine ih (t + 1) t (by omega) (by omega) (Or.inr ⟨t, rfl, by omega, hP, fun u hu hPu => ?_⟩)
              by_cases q : u = t
              · exact Or.inl q
              · refine Or.inr (Or.inl ?_)
                rcases h4 u (by omega) hPu with q2 | q2
                · rw [q2]; exact hc4
                · unfold puLt at q2
                  omega
            · unfold DX9_next_J106
              rw [e1]
              refine ih (t + 1) m (by omega) (by omega) (Or.inr ⟨m, rfl, by omega, h3, fun u hu hPu => ?_⟩)
              by_cases q : u = t
              · refine Or.inr ?_
                rw [q]
                unfold puLt
                omega
              · exact h4 u (by omega) hPu
      have hJ59 : puLater (σ 137) before t → puP (DX9_next_J59 σ g (DX9_next_L5 σ g before f) (t : Int) r) (fun r' => puBest (σ 137) g before (σ 137 4).toNat r') := fun h => hJ64 1 (Or.inr rfl) (fun _ => h) (fun q => absurd q (by decide))
      have hJ63 : ¬ puLater (σ 137) before t → puP (DX9_next_J63 σ g (DX9_next_L5 σ g before f) (t : Int) r) (fun r' => puBest (σ 137) g before (σ 137 4).toNat r') := fun h => hJ64 0 (Or.inl rfl) (fun q => absurd q (by decide)) (fun _ => h)
      refine pu_if ⟨by omega, by omega⟩ (by decide) (fun hb1 => hJ59 (Or.inl hb1)) (fun hb1 => ?_)
      obtain ⟨v, hv⟩ : ∃ v : Nat, before = (v : Int) := ⟨before.toNat, by omega⟩
      subst hv
      have hv4 : (v : Int) < σ 137 4 := by omega
      have hfv := ho.f hv4
      rw [pu_of1 ho ht, Option.bind_some, pu_of1 ho hv4, Option.bind_some]
      refine pu_if ⟨by omega, by omega⟩ ⟨by omega, by omega⟩ (fun hb2 => hJ59 (Or.inr ⟨v, rfl, Or.inl hb2⟩)) (fun hb2 => ?_)
      rw [Option.bind_some, Option.bind_some]
      refine pu_if ⟨by omega, by omega⟩ ⟨by omega, by omega⟩ (fun hb3 => ?_) (fun hb3 => ?_)
      · refine pu_if ⟨by omega, by omega⟩ ⟨by omega, by omega⟩ (fun hb4 => hJ59 (Or.inr ⟨v, rfl, Or.inr ⟨hb3.symm, by omega⟩⟩)) (fun hb4 => hJ63 ?_)
        rintro (q | ⟨u, q, q2⟩)
        · exact hb1 q
        · have : v = u := by omega
          subst this
          unfold puLt at q2
          omega
      · refine hJ63 ?_
        rintro (q | ⟨u, q, q2⟩)
        · exact hb1 q
        · have : v = u := by omega
          subst this
          unfold puLt at q2
          omega
    · have e : t = (σ 137 4).toNat := by omega
      subst e
      exact pu_some hB
theorem pu_next {σ : gSt} (ho : puOk (σ 137)) {g : Int} (hg : 0 ≤ g ∧ g ≤ 5) {before : Int} (hbf : before = -1 ∨ (0 ≤ before ∧ before < σ 137 4)) : puP (DX9_next σ g before) (fun r' => puBest (σ 137) g before (σ 137 4).toNat r') := by
  have hn := ho.tasks
  exact pu_next_L ho g hg before hbf gFuel 0 (-1) (by rw [gFuel_eq]; omega) (by omega) (Or.inl ⟨rfl, fun t ht => absurd ht (Nat.not_lt_zero _)⟩)
theorem pu_next0 {σ : gSt} (ho : puOk (σ 137)) {g : Int} (hg : 0 ≤ g ∧ g ≤ 5) : DX9_next σ g (-1) = some (puAt (puSort (σ 137) g) 0) := by
  obtain ⟨r, e, hB⟩ := pu_next ho hg (Or.inl rfl)
  rw [e]
  congr 1
  have hm := fun u => puSrt_mem (s := σ 137) (g := g) (σ 137 4).toNat u
  have hpw := puSrt_pw (s := σ 137) (g := g) (σ 137 4).toNat
  unfold puAt puSort
  generalize puSrt (σ 137) g (σ 137 4).toNat = l at hm hpw
  cases h0 : l[0]? with
  | none =>
    have hl : l = [] := by
      cases l with
      | nil => rfl
      | cons a r => cases h0
    rcases hB with ⟨h, -⟩ | ⟨m, h, h2, h3, h4⟩
    · exact h
    · have := (hm m).mpr ⟨h2, h3.1⟩
      rw [hl] at this
      cases this
  | some v =>
    have hv := (hm v).mp (List.mem_of_getElem? h0)
    rcases hB with ⟨h, h2⟩ | ⟨m, h, h2, h3, h4⟩
    · exact absurd ⟨hv.2, Or.inl rfl⟩ (h2 v hv.1)
    · show r = (v : Int)
      rw [h]
      obtain ⟨j, hj⟩ := List.getElem?_of_mem ((hm m).mpr ⟨h2, h3.1⟩)
      rcases Nat.eq_zero_or_pos j with q | q
      · subst q
        rw [h0] at hj
        cases hj
        rfl
      · have q2 := puPw_get hpw h0 hj q
        rcases h4 v hv.1 ⟨hv.2, Or.inl rfl⟩ with q3 | q3
        · rw [q3]
        · exact absurd q2 (puLt_asy q3)
theorem pu_nextS {σ : gSt} (ho : puOk (σ 137)) {g : Int} (hg : 0 ≤ g ∧ g ≤ 5) {i u : Nat} (hi : (puSort (σ 137) g)[i]? = some u) : DX9_next σ g (u : Int) = some (puAt (puSort (σ 137) g) (i + 1)) := by
  have hn := ho.tasks
  have hm := fun u => puSrt_mem (s := σ 137) (g := g) (σ 137 4).toNat u
  have hpw := puSrt_pw (s := σ 137) (g := g) (σ 137 4).toNat
  have hu := (hm u).mp (List.mem_of_getElem? hi)
  obtain ⟨r, e, hB⟩ := pu_next ho hg (before := (u : Int)) (Or.inr ⟨by omega, by omega⟩)
  rw [e]
  congr 1
  unfold puAt puSort at *
  generalize puSrt (σ 137) g (σ 137 4).toNat = l at hm hpw hi
  cases h0 : l[i + 1]? with
  | none =>
    rcases hB with ⟨h, -⟩ | ⟨m, h, h2, h3, h4⟩
    · exact h
    · exfalso
      obtain ⟨j, hj⟩ := List.getElem?_of_mem ((hm m).mpr ⟨h2, h3.1⟩)
      rcases h3.2 with q | ⟨w, q, q2⟩
      · omega
      · have : w = u := by omega
        subst this
        have hjl := (List.getElem?_eq_some_iff.mp hj).1
        have hil := List.getElem?_eq_none_iff.mp h0
        by_cases c : j = i
        · subst c
          rw [hi] at hj
          cases hj
          exact puLt_irr q2
        · exact puLt_asy q2 (puPw_get hpw hj hi (by omega))
  | some v =>
    have hv := (hm v).mp (List.mem_of_getElem? h0)
    have huv : puLt (σ 137) u v := puPw_get hpw hi h0 (by omega)
    rcases hB with ⟨h, h2⟩ | ⟨m, h, h2, h3, h4⟩
    · exact absurd ⟨hv.2, Or.inr ⟨u, rfl, huv⟩⟩ (h2 v hv.1)
    · show r = (v : Int)
      rw [h]
      obtain ⟨j, hj⟩ := List.getElem?_of_mem ((hm m).mpr ⟨h2, h3.1⟩)
      rcases h3.2 with q | ⟨w, q, q2⟩
      · omega
      · have : w = u := by omega
        subst this
        by_cases c : j ≤ i
        · exfalso
          by_cases c2 : j = i
          · subst c2
            rw [hi] at hj
            cases hj
            exact puLt_irr q2
          · exact puLt_asy q2 (puPw_get hpw hj hi (by omega))
        · by_cases c2 : j = i + 1
          · subst c2
            rw [h0] at hj
            cases hj
            rfl
          · have q3 := puPw_get hpw h0 hj (by omega)
            rcases h4 v hv.1 ⟨hv.2, Or.inr ⟨w, rfl, huv⟩⟩ with q4 | q4
            · rw [q4]
            · exact absurd q3 (puLt_asy q4)
