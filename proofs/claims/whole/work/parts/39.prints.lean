/-! the reference prints -/
def puRS (σ : gSt) (s : Nat → Int) (R : Nat) (D : Int) : Prop := σ 136 12 = (puSheets s R D : Int) ∧ (∀ k : Nat, k < 1248 → σ 144 k = puNo s R D k) ∧ (∀ i : Nat, i < 1248 → puPr s R D (puOrd s i) = true → σ 145 (puRk s R D i) = (puOrd s i : Int))
def puPF (σ σ' : gSt) : Prop := (∀ k, k ≠ 136 → k ≠ 141 → k ≠ 142 → k ≠ 143 → k ≠ 144 → k ≠ 145 → σ' k = σ k) ∧ (∀ i, i ≠ 7 → i ≠ 8 → i ≠ 12 → σ' 136 i = σ 136 i)
theorem puPF.trans {σ σ1 σ2 : gSt} (h1 : puPF σ σ1) (h2 : puPF σ1 σ2) : puPF σ σ2 := ⟨fun k a1 a2 a3 a4 a5 a6 => by rw [h2.1 k a1 a2 a3 a4 a5 a6, h1.1 k a1 a2 a3 a4 a5 a6], fun i a1 a2 a3 => by rw [h2.2 i a1 a2 a3, h1.2 i a1 a2 a3]⟩
theorem puPF.s {σ σ' : gSt} (h : puPF σ σ') : σ' 137 = σ 137 := h.1 137 (by decide) (by decide) (by decide) (by decide) (by decide) (by decide)
theorem puRF.pf {σ σ' : gSt} (h : puRF σ σ') : puPF σ σ' := ⟨fun k a1 a2 a3 a4 _ _ => h.1 k a1 a2 a3 a4, fun i a1 a2 _ => h.2 i a1 a2⟩
theorem puRR.same {σ σ' : gSt} {s : Nat → Int} {R : Nat} (h : puRR σ s R) (h7 : σ' 136 7 = σ 136 7) (h1 : σ' 141 = σ 141) (h2 : σ' 142 = σ 142) (h3 : σ' 143 = σ 143) : puRR σ' s R := by
  unfold puRR at h ⊢
  rw [h7, h1, h2, h3]
  exact h
theorem pu_prints_L7 {σ0 : gSt} {K : gSt → Option gSt} {Q : gSt → Prop} : ∀ (f x : Nat) (σ : gSt), 1248 - x < f → x ≤ 1248 → (∀ k, k ≠ 144 → σ k = σ0 k) → (∀ k : Nat, k < x → σ 144 k = -1) → (∀ σ', (∀ k, k ≠ 144 → σ' k = σ0 k) → (∀ k : Nat, k < 1248 → σ' 144 k = -1) → puP (K σ') Q) → puP (DX9_printsBy_L7 K f (x : Int) σ) Q := by
  intro f
  induction f with
  | zero => intro x σ h; omega
  | succ f ih =>
    intro x σ hf hx hK hA kk
    rw [DX9_printsBy_L7]
    refine pu_if ⟨by omega, by omega⟩ (by decide) (fun hc => ?_) (fun hc => ?_)
    · rw [pu_gat (by omega) (by omega), Int.toNat_natCast, show ((x : Int) + 1) = ((x + 1 : Nat) : Int) by omega]
      refine ih (x + 1) _ (by omega) (by omega) (fun k hk => by rw [pu_upK hk, hK k hk]) (fun k hk => ?_) kk
      by_cases e : k = x
      · rw [e, pu_upE]
      · rw [pu_upI e]
        exact hA k (by omega)
    · exact kk σ hK (fun k hk => hA k (by omega))
theorem pu_prints_L49 {σ0 : gSt} {R t : Nat} {s : Nat → Int} {D : Int} (ho : puOk s) (hR : 3 ≤ R) (hD : 5 ≤ D ∧ D ≤ 60) (ht : (t : Int) < s 4) (hs : σ0 137 = s) (hB : puRR σ0 s R) {K : gSt → Option gSt} {Q : gSt → Prop} : ∀ (f x : Nat) (σ : gSt), puT s D t + 1 - x < f → puF s D t ≤ x → x ≤ puT s D t + 1 → (∀ k, k ≠ 144 → σ k = σ0 k) → (∀ k : Nat, σ 144 k = if puBand s R t = k / 52 ∧ puF s D t ≤ k % 52 ∧ k % 52 < x then 0 else σ0 144 k) → (∀ σ', (∀ k, k ≠ 144 → σ' k = σ0 k) → (∀ k : Nat, σ' 144 k = if puOn s R D k t = true then 0 else σ0 144 k) → puP (K σ') Q) → puP (DX9_printsBy_L49 K D (t : Int) f (x : Int) σ) Q := by
  have hft := puFT ho hD ht
  have hbl := puBand_lt ho hR ht
  have hb24 := puBands_le ho hR
  have hl := ho.last ht
  have hf2 := ho.f ht
  intro f
  induction f with
  | zero => intro x σ h; omega
  | succ f ih =>
    intro x σ hf hx hx1 hK hA kk
    have e137 : σ 137 = s := by rw [hK 137 (by decide), hs]
    have hld := pu_lastDay (σ := σ) (t := t) (by rw [e137]; exact ho) (by rw [e137]; exact ht)
    rw [DX9_printsBy_L49, hld, Option.bind_some, e137, pu_dv (by omega) (by omega) (by omega) (by omega), puT_e ho hD ht]
    refine pu_if ⟨by omega, by omega⟩ ⟨by omega, by omega⟩ (fun hc => ?_) (fun hc => ?_)
    · refine kk σ hK (fun k => ?_)
      rw [hA k]
      by_cases e : puOn s R D k t = true
      · rw [if_pos e]
        have e1 := puOn_e.mp e
        rw [if_pos ⟨e1.1, e1.2.1, by omega⟩]
      · rw [if_neg e]
        rw [if_neg (fun q => e (puOn_e.mpr ⟨q.1, q.2.1, by omega⟩))]
    · have h24 := ho.t24 ht
      have hbd : σ 142 t = (puBand s R t : Int) := by
        rw [hK 142 (by decide)]
        exact (hB.2.2 t ht).1
      rw [pu_gat (by omega) (by omega), Int.toNat_natCast, hbd, pu_gat (by omega) (by omega), show Int.toNat ((52 : Int) * (puBand s R t : Int) + (x : Int)) = 52 * puBand s R t + x by omega, show ((x : Int) + 1) = ((x + 1 : Nat) : Int) by omega]
      refine ih (x + 1) _ (by omega) (by omega) (by omega) (fun k hk => by rw [pu_upK hk, hK k hk]) (fun k => ?_) kk
      show (if (144 : Nat) = 144 ∧ k = 52 * puBand s R t + x then (0 : Int) else σ 144 k) = _
      by_cases e : k = 52 * puBand s R t + x
      · rw [if_pos ⟨rfl, e⟩, if_pos (by omega)]
      · rw [if_neg (fun q => e q.2), hA k]
        by_cases e2 : puBand s R t = k / 52 ∧ puF s D t ≤ k % 52 ∧ k % 52 < x
        · rw [if_pos e2, if_pos ⟨e2.1, e2.2.1, by omega⟩]
        · rw [if_neg e2, if_neg (fun q => by
            have h9 : k % 52 = x := by
              rcases Nat.lt_or_ge (k % 52) x with h9 | h9
              · exact absurd ⟨q.1, q.2.1, h9⟩ e2
              · omega
            omega)]
theorem pu_prints_L29 {σ0 : gSt} {R : Nat} {s : Nat → Int} {D : Int} (ho : puOk s) (hR : 3 ≤ R) (hD : 5 ≤ D ∧ D ≤ 60) (hs : σ0 137 = s) (hB : puRR σ0 s R) {K : gSt → Option gSt} {Q : gSt → Prop} : ∀ (f t : Nat) (σ : gSt), (s 4).toNat - t < f → (t : Int) ≤ s 4 → (∀ k, k ≠ 144 → σ k = σ0 k) → (∀ k : Nat, k < 1248 → σ 144 k = if 0 < puC (puOn s R D k) t then 0 else -1) → (∀ σ', (∀ k, k ≠ 144 → σ' k = σ0 k) → (∀ k : Nat, k < 1248 → σ' 144 k = if puPr s R D k = true then 0 else -1) → puP (K σ') Q) → puP (DX9_printsBy_L29 K D f (t : Int) σ) Q := by
  have hn := ho.tasks
  intro f
  induction f with
  | zero => intro t σ h; omega
  | succ f ih =>
    intro t σ hf htn hK hA kk
    have e137 : σ 137 = s := by rw [hK 137 (by decide), hs]
    rw [DX9_printsBy_L29, pu_gat (by decide) (by decide), show Int.toNat (4 : Int) = 4 from rfl, e137]
    refine pu_if ⟨by omega, by omega⟩ ⟨by omega, by omega⟩ (fun hc => ?_) (fun hc => ?_)
    · have h1 := ho.last hc
      have h2 := ho.f hc
      have hft := puFT ho hD hc
      have hof := pu_of1 (σ := σ) (t := t) (by rw [e137]; exact ho) (by rw [e137]; exact hc)
      rw [hof, Option.bind_some, e137, pu_dv (by omega) (by omega) (by omega) (by omega), puF_e ho hD hc]
      refine pu_prints_L49 (σ0 := σ) ho hR hD hc e137 (hB.same (by rw [hK 136 (by decide)]) (hK 141 (by decide)) (hK 142 (by decide)) (hK 143 (by decide))) gFuel (puF s D t) σ (by rw [gFuel_eq]; omega) (Nat.le_refl _) (by omega) (fun _ _ => rfl) (fun k => ?_) (fun σ1 k1 a1 => ?_)
      · rw [if_neg (by omega)]
      · unfold DX9_printsBy_K85
        rw [show ((t : Int) + 1) = ((t + 1 : Nat) : Int) by omega]
        refine ih (t + 1) σ1 (by omega) (by omega) (fun k hk => by rw [k1 k hk, hK k hk]) (fun k hk => ?_) kk
        rw [a1 k, hA k hk]
        show _ = (if 0 < puC (puOn s R D k) t + (if puOn s R D k t = true then 1 else 0) then (0 : Int) else -1)
        by_cases e : puOn s R D k t = true
        · rw [if_pos e, if_pos e, if_pos (by omega)]
        · rw [if_neg e, if_neg e, Nat.add_zero]
    · refine kk σ hK (fun k hk => ?_)
      rw [hA k hk]
      unfold puPr puCnt
      rw [show (s 4).toNat = t by omega]
      by_cases e : 0 < puC (puOn s R D k) t
      · rw [if_pos e, if_pos (decide_eq_true_iff.mpr e)]
      · rw [if_neg e, if_neg (fun q => e (decide_eq_true_iff.mp q))]
theorem pu_prints_J130 {σ : gSt} {R j : Nat} {s : Nat → Int} {D : Int} (hj : j < 1248) (h1 : σ 136 12 = (puRk s R D j : Int)) (h2 : ∀ k : Nat, k < 1248 → σ 144 k = if puPr s R D k = true then (if puPos s k < j then (puRk s R D (puPos s k) : Int) else 0) else -1) (h3 : ∀ i : Nat, i < j → puPr s R D (puOrd s i) = true → σ 145 (puRk s R D i) = (puOrd s i : Int)) {RR : Int → gSt → Option gSt} {Q : gSt → Prop} (kk : ∀ σ' : gSt, (∀ k, k ≠ 136 → k ≠ 144 → k ≠ 145 → σ' k = σ k) → (∀ i, i ≠ 12 → σ' 136 i = σ 136 i) → σ' 136 12 = (puRk s R D (j + 1) : Int) → (∀ k : Nat, k < 1248 → σ' 144 k = if puPr s R D k = true then (if puPos s k < j + 1 then (puRk s R D (puPos s k) : Int) else 0) else -1) → (∀ i : Nat, i < j + 1 → puPr s R D (puOrd s i) = true → σ' 145 (puRk s R D i) = (puOrd s i : Int)) → puP (RR ((j + 1 : Nat) : Int) σ') Q) : puP (DX9_printsBy_J130 RR (j : Int) σ (puOrd s j : Int)) Q := by
  have ho1 := puOrd_lt (s := s) hj
  have hpos := puPos_ord (s := s) hj
  unfold DX9_printsBy_J130 DX9_printsBy_J175
  rw [pu_gat (by omega) (by omega), Int.toNat_natCast, show ((j : Int) + 1) = ((j + 1 : Nat) : Int) by omega, h2 _ ho1, hpos, if_neg (Nat.lt_irrefl j)]
  by_cases e : puPr s R D (puOrd s j) = true
  · have hrk : puRk s R D j ≤ 1247 := by
      have := puC_le (p := fun j => puPr s R D (puOrd s j)) j
      unfold puRk
      omega
    have hrk1 : puRk s R D (j + 1) = puRk s R D j + 1 := puC_T e
    rw [if_pos e, pu_ifF (by decide) (by decide) (by decide), pu_gat (by omega) (by omega), h1]
    have e12 : gUp σ 144 (puOrd s j) (puRk s R D j : Int) 136 12 = (puRk s R D j : Int) := by rw [pu_upK (by decide), h1]
    rw [e12, pu_gat (by omega) (by omega), Int.toNat_natCast]
    have e12' : gUp (gUp σ 144 (puOrd s j) (puRk s R D j : Int)) 145 (puRk s R D j) (puOrd s j : Int) 136 12 = (puRk s R D j : Int) := by rw [pu_upK (by decide), e12]
    rw [e12']
    refine kk _ (fun k k1 k2 k3 => ?_) (fun i i1 => ?_) ?_ (fun k hk => ?_) (fun i hi hp => ?_)
    · rw [pu_upK k1, pu_upK k3, pu_upK k2]
    · rw [pu_upI i1, pu_upK (by decide), pu_upK (by decide)]
    · rw [pu_upE, hrk1]
      omega
    · rw [pu_upK (by decide), pu_upK (by decide)]
      show (if (144 : Nat) = 144 ∧ k = puOrd s j then (puRk s R D j : Int) else σ 144 k) = _
      by_cases e1 : k = puOrd s j
      · rw [if_pos ⟨rfl, e1⟩, e1, hpos, if_pos e, if_pos (Nat.lt_succ_self j)]
      · rw [if_neg (fun q => e1 q.2), h2 k hk]
        have e3 : puPos s k ≠ j := fun q => e1 (by
          have := puOrd_pos (s := s) hk
          rw [q] at this
          exact this.symm)
        by_cases e2 : puPos s k < j
        · rw [if_pos e2, if_pos (show puPos s k < j + 1 by omega)]
        · rw [if_neg e2, if_neg (show ¬ puPos s k < j + 1 by omega)]
    · rw [pu_upK (by decide)]
      by_cases e1 : i = j
      · rw [e1, pu_upE]
      · have hlt : puRk s R D i < puRk s R D j := puC_lt (by omega) hp
        rw [pu_upI (by omega), pu_upK (by decide)]
        exact h3 i (by omega) hp
  · rw [if_neg e, pu_ifT (by decide) (by decide) rfl]
    have hrk1 : puRk s R D (j + 1) = puRk s R D j := puC_F e
    refine kk _ (fun k k1 k2 k3 => rfl) (fun i i1 => rfl) (by rw [hrk1, h1]) (fun k hk => ?_) (fun i hi hp => ?_)
    · rw [h2 k hk]
      by_cases e2 : puPr s R D k = true
      · have e3 : puPos s k ≠ j := fun q => e (by
          have := puOrd_pos (s := s) hk
          rw [q] at this
          rw [this]
          exact e2)
        rw [if_pos e2, if_pos e2]
        by_cases e4 : puPos s k < j
        · rw [if_pos e4, if_pos (show puPos s k < j + 1 by omega)]
        · rw [if_neg e4, if_neg (show ¬ puPos s k < j + 1 by omega)]
      · rw [if_neg e2, if_neg e2]
    · refine h3 i ?_ hp
      by_cases e1 : i = j
      · rw [e1] at hp
        exact absurd hp e
      · omega
theorem pu_prints_L98 {σ0 : gSt} {R : Nat} {s : Nat → Int} {D : Int} (ho : puOk s) (hs : σ0 137 = s) : ∀ (f j : Nat) (σ : gSt), 1248 - j < f → j ≤ 1248 → (∀ k, k ≠ 136 → k ≠ 144 → k ≠ 145 → σ k = σ0 k) → (∀ i, i ≠ 12 → σ 136 i = σ0 136 i) → σ 136 12 = (puRk s R D j : Int) → (∀ k : Nat, k < 1248 → σ 144 k = if puPr s R D k = true then (if puPos s k < j then (puRk s R D (puPos s k) : Int) else 0) else -1) → (∀ i : Nat, i < j → puPr s R D (puOrd s i) = true → σ 145 (puRk s R D i) = (puOrd s i : Int)) → puP (DX9_printsBy_L98 f (j : Int) σ) (fun σ' => puRS σ' s R D ∧ (∀ k, k ≠ 136 → k ≠ 144 → k ≠ 145 → σ' k = σ0 k) ∧ (∀ i, i ≠ 12 → σ' 136 i = σ0 136 i)) := by
  intro f
  induction f with
  | zero => intro j σ h; omega
  | succ f ih =>
    intro j σ hf hj hK hI h1 h2 h3
    have e137 : σ 137 = s := by rw [hK 137 (by decide) (by decide) (by decide), hs]
    have ho3 := ho.order
    rw [DX9_printsBy_L98]
    refine pu_if ⟨by omega, by omega⟩ (by decide) (fun hc => ?_) (fun hc => ?_)
    · rw [pu_gat (by decide) (by decide), show Int.toNat (3 : Int) = 3 from rfl, e137]
      have hgo : puP (DX9_printsBy_J130 (DX9_printsBy_L98 f) (j : Int) σ (puOrd s j : Int)) (fun σ' => puRS σ' s R D ∧ (∀ k, k ≠ 136 → k ≠ 144 → k ≠ 145 → σ' k = σ0 k) ∧ (∀ i, i ≠ 12 → σ' 136 i = σ0 136 i)) := by
        refine pu_prints_J130 (by omega) h1 h2 h3 (fun σ1 g1 g2 g3 g4 g5 => ?_)
        exact ih (j + 1) σ1 (by omega) (by omega) (fun k k1 k2 k3 => by rw [g1 k k1 k2 k3, hK k k1 k2 k3]) (fun i hi => by rw [g2 i hi, hI i hi]) g3 g4 g5
      refine pu_if ⟨by omega, by omega⟩ (by decide) (fun hc1 => ?_) (fun hc1 => ?_)
      · have e : puOrd s j = j := by unfold puOrd; rw [if_pos hc1]
        rw [e] at hgo
        exact hgo
      · have e : puOrd s j = 52 * (j % 24) + j / 24 := by unfold puOrd; rw [if_neg hc1]
        rw [e] at hgo
        rw [pu_dv (by omega) (by omega) (by decide) (by decide), pu_dv (by omega) (by omega) (by decide) (by decide), show (52 : Int) * ((j : Int) % 24) + (j : Int) / 24 = ((52 * (j % 24) + j / 24 : Nat) : Int) by omega]
        exact hgo
    · have e : j = 1248 := by omega
      subst e
      refine pu_some ⟨⟨h1, fun k hk => ?_, h3⟩, hK, hI⟩
      rw [h2 k hk]
      unfold puNo
      by_cases e2 : puPr s R D k = true
      · rw [if_pos e2, if_pos e2, if_pos (puPos_lt hk)]
      · rw [if_neg e2, if_neg e2]
theorem pu_printsBy {σ : gSt} {R : Nat} {D : Int} (ho : puOk (σ 137)) (hR : 3 ≤ R ∧ R ≤ 20) (hD : 5 ≤ D ∧ D ≤ 60) : puP (DX9_printsBy σ (R : Int) D) (fun σ' => puRR σ' (σ 137) R ∧ puRS σ' (σ 137) R D ∧ puPF σ σ') := by
  unfold DX9_printsBy
  refine pu_b (pu_bandsByS ho hR) (fun σ1 q => ?_)
  obtain ⟨q1, q2⟩ := q
  have hs := q2.s
  refine pu_prints_L7 (σ0 := σ1) gFuel 0 σ1 (by rw [gFuel_eq]; omega) (Nat.zero_le _) (fun _ _ => rfl) (fun k hk => absurd hk (Nat.not_lt_zero _)) (fun σ2 k2 a2 => ?_)
  unfold DX9_printsBy_K27
  refine pu_prints_L29 (σ0 := σ2) (s := σ 137) (R := R) ho hR.1 hD (by rw [k2 137 (by decide), hs]) (q1.same (by rw [k2 136 (by decide)]) (k2 141 (by decide)) (k2 142 (by decide)) (k2 143 (by decide))) gFuel 0 σ2 (by rw [gFuel_eq]; have := ho.tasks; omega) (by have := ho.tasks; omega) (fun _ _ => rfl) (fun k hk => by rw [a2 k hk]; rfl) (fun σ3 k3 a3 => ?_)
  unfold DX9_printsBy_K91
  have e3 : ∀ k, k ≠ 144 → σ3 k = σ1 k := fun k hk => by rw [k3 k hk, k2 k hk]
  refine pu_mono (pu_prints_L98 (σ0 := σ3) (s := σ 137) (R := R) (D := D) ho (by rw [e3 137 (by decide), hs]) gFuel 0 _ (by rw [gFuel_eq]; omega) (Nat.zero_le _) (fun k k1 k2 k3 => pu_upK k1) (fun i hi => pu_upI hi) (pu_upE _ _ _ _) (fun k hk => ?_) (fun i hi => absurd hi (Nat.not_lt_zero _))) (fun σ4 q => ?_)
  · rw [pu_upK (by decide), a3 k hk]
    split
    · rw [if_neg (Nat.not_lt_zero _)]
    · rfl
  · obtain ⟨w1, w2, w3⟩ := q
    have f1 : puPF σ1 σ4 := ⟨fun k k1 k2 k3 k4 k5 k6 => by rw [w2 k k1 k5 k6, e3 k k5], fun i i1 i2 i3 => by rw [w3 i i3, e3 136 (by decide)]⟩
    refine ⟨q1.same (by rw [w3 7 (by decide), e3 136 (by decide)]) ?_ ?_ ?_, w1, q2.pf.trans f1⟩
    · rw [w2 141 (by decide) (by decide) (by decide), e3 141 (by decide)]
    · rw [w2 142 (by decide) (by decide) (by decide), e3 142 (by decide)]
    · rw [w2 143 (by decide) (by decide) (by decide), e3 143 (by decide)]
