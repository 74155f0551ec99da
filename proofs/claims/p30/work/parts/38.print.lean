/-! the class prints -/
theorem pu_spotG {σ : gSt} {B : Nat} {S : Int} (hB : B < 24) (h0 : 0 ≤ S) (h1 : S ≤ 2147483647) : DX6_spot σ (B : Int) S = some (if S < 52 then (B : Int) * 52 + S else -1) := by
  unfold DX6_spot DX6_spot_J24
  rw [pu_ifF ⟨by omega, by omega⟩ (by decide) (by omega), pu_ifT ⟨by omega, by omega⟩ (by decide) (by omega), pu_ifF ⟨by omega, by omega⟩ (by decide) (by omega)]
  unfold DX6_spot_J25
  by_cases h : S < 52
  · rw [pu_ifT ⟨by omega, by omega⟩ (by decide) h, pu_ifF (by decide) (by decide) (by decide), if_pos h]
  · rw [pu_ifF ⟨by omega, by omega⟩ (by decide) h, pu_ifT (by decide) (by decide) (by decide), if_neg h]
theorem pu_spot {σ : gSt} {B S : Nat} (hB : B < 24) (hS : S < 52) : DX6_spot σ (B : Int) (S : Int) = some ((52 * B + S : Nat) : Int) := by
  rw [pu_spotG hB (by omega) (by omega), if_pos (by omega)]
  congr 1
  omega
theorem pu_bandOfC {σ : gSt} {b R t : Nat} {s : Nat → Int} (ho : puOk s) (hB : puBB σ b s R) (ht : (t : Int) < s 4) : DX0_bandOf b σ (t : Int) = some (puBand s R t : Int) := by
  unfold DX0_bandOf
  rw [pu_atN (ho.t24 ht) (by decide), Option.bind_some]
  exact congrArg some (hB.2.2 t ht).1
theorem pu_rowOfC {σ : gSt} {b R t : Nat} {s : Nat → Int} (ho : puOk s) (hB : puBB σ b s R) (ht : (t : Int) < s 4) : DX0_rowOf b σ (t : Int) = some (puRowOf s R t : Int) := by
  unfold DX0_rowOf
  rw [pu_atN (ho.t24 ht) (by decide), Option.bind_some]
  exact congrArg some (hB.2.2 t ht).2
theorem puBB.same {σ σ' : gSt} {b R : Nat} {s : Nat → Int} (h : puBB σ b s R) (hk : ∀ k, k = b ∨ k = b + 2 ∨ k = b + 4 ∨ k = b + 6 → σ' k = σ k) : puBB σ' b s R := by
  unfold puBB at h ⊢
  rw [hk b (Or.inl rfl), hk (b + 2) (Or.inr (Or.inl rfl)), hk (b + 4) (Or.inr (Or.inr (Or.inl rfl))), hk (b + 6) (Or.inr (Or.inr (Or.inr rfl)))]
  exact h
/-- the parts on spots, task after task, strip after strip -/
theorem pu_print_L68 {σ0 : gSt} {b p2 R t : Nat} {s : Nat → Int} {D : Int} (ho : puOk s) (hR : 3 ≤ R) (hD : 5 ≤ D ∧ D ≤ 60) (hb : p2 + 8 < b) (ht : (t : Int) < s 4) (hB : puBB σ0 p2 s R) {K : gSt → Option gSt} {Q : gSt → Prop} : ∀ (f x : Nat) (σ : gSt), puT s D t + 1 - x < f → puF s D t ≤ x → x ≤ puT s D t + 1 → (∀ k, k ≠ b + 2 → σ k = σ0 k) → (∀ k : Nat, σ (b + 2) k = σ0 (b + 2) k + (if puBand s R t = k / 52 ∧ puF s D t ≤ k % 52 ∧ k % 52 < x then 1 else 0)) → (∀ σ', (∀ k, k ≠ b + 2 → σ' k = σ0 k) → (∀ k : Nat, σ' (b + 2) k = σ0 (b + 2) k + (if puOn s R D k t = true then 1 else 0)) → puP (K σ') Q) → puP (DX6_print_L68 K b p2 (t : Int) (puT s D t : Int) f (x : Int) σ) Q := by
  have hft := puFT ho hD ht
  have hbl := puBand_lt ho hR ht
  have hb24 := puBands_le ho hR
  intro f
  induction f with
  | zero => intro x σ h; omega
  | succ f ih =>
    intro x σ hf hx hx1 hK hA kk
    rw [DX6_print_L68]
    refine pu_if ⟨by omega, by omega⟩ ⟨by omega, by omega⟩ (fun hc => ?_) (fun hc => ?_)
    · refine kk σ hK (fun k => ?_)
      rw [hA k]
      by_cases e : puOn s R D k t = true
      · rw [if_pos e]
        have e1 := puOn_e.mp e
        rw [if_pos ⟨e1.1, e1.2.1, by omega⟩]
      · rw [if_neg e]
        rw [if_neg (fun q => e (puOn_e.mpr ⟨q.1, q.2.1, by omega⟩))]
    · have hsp := puSpot_lt ho hR hD ht (x := x) (by omega)
      rw [pu_bandOfC ho (hB.same (fun k hk => hK k (by omega))) ht, Option.bind_some, pu_spot (by omega) (by omega), Option.bind_some, pu_incI (by omega) (by omega) (by decide), Option.bind_some, Int.toNat_natCast, show ((x : Int) + 1) = ((x + 1 : Nat) : Int) by omega]
      refine ih (x + 1) _ (by omega) (by omega) (by omega) (fun k hk => by rw [pu_upK hk, hK k hk]) (fun k => ?_) kk
      show (if b + 2 = b + 1 + 1 ∧ k = 52 * puBand s R t + x then σ (b + 2) (52 * puBand s R t + x) + 1 else σ (b + 2) k) = _
      by_cases e : k = 52 * puBand s R t + x
      · rw [if_pos ⟨rfl, e⟩, ← e, hA k, if_neg (by omega), if_pos (by omega)]
        omega
      · rw [if_neg (fun q => e q.2), hA k]
        by_cases e2 : puBand s R t = k / 52 ∧ puF s D t ≤ k % 52 ∧ k % 52 < x
        · rw [if_pos e2, if_pos ⟨e2.1, e2.2.1, by omega⟩]
        · rw [if_neg e2, if_neg (fun q => by
            have h9 : k % 52 = x := by
              rcases Nat.lt_or_ge (k % 52) x with h9 | h9
              · exact absurd ⟨q.1, q.2.1, h9⟩ e2
              · omega
            omega)]
theorem pu_print_L35 {σ0 : gSt} {b p1 p2 R : Nat} {s : Nat → Int} {D : Int} (ho : puOk s) (hR : 3 ≤ R) (hD : 5 ≤ D ∧ D ≤ 60) (hp12 : p1 + 12 < p2) (hb : p2 + 8 < b) (hp : puPl σ0 p1 s) (hB : puBB σ0 p2 s R) {K : gSt → Option gSt} {Q : gSt → Prop} : ∀ (f t : Nat) (σ : gSt), (s 4).toNat - t < f → (t : Int) ≤ s 4 → (∀ k, k ≠ b + 2 → σ k = σ0 k) → (∀ k : Nat, k < 52 * puBands s R → σ (b + 2) k = (puC (puOn s R D k) t : Int)) → (∀ σ', (∀ k, k ≠ b + 2 → σ' k = σ0 k) → (∀ k : Nat, k < 52 * puBands s R → σ' (b + 2) k = (puCnt s R D k : Int)) → puP (K σ') Q) → puP (DX6_print_L35 K b p1 p2 D f (t : Int) σ) Q := by
  have hn := ho.tasks
  intro f
  induction f with
  | zero => intro t σ h; omega
  | succ f ih =>
    intro t σ hf htn hK hA kk
    have hp1 : puPl σ p1 s := hp.same (fun k h1 h2 => hK k (by omega))
    rw [DX6_print_L35, pu_tasks hp1, Option.bind_some]
    refine pu_if ⟨by omega, by omega⟩ ⟨by omega, by omega⟩ (fun hc => ?_) (fun hc => ?_)
    · have h1 := ho.last hc
      have h2 := ho.f hc
      have hft := puFT ho hD hc
      rw [pu_last ho hp1 hc, Option.bind_some, pu_strip (by omega) (by omega) (by omega) (by omega), Option.bind_some, pu_first ho hp1 hc, Option.bind_some, pu_strip (by omega) (by omega) (by omega) (by omega), Option.bind_some, puT_e ho hD hc, puF_e ho hD hc]
      refine pu_print_L68 (σ0 := σ) ho hR hD hb hc (hB.same (fun k hk => hK k (by omega))) gFuel (puF s D t) σ (by rw [gFuel_eq]; omega) (Nat.le_refl _) (by omega) (fun _ _ => rfl) (fun k => ?_) (fun σ1 k1 a1 => ?_)
      · rw [if_neg (by omega)]
        omega
      · unfold DX6_print_K99
        rw [show ((t : Int) + 1) = ((t + 1 : Nat) : Int) by omega]
        refine ih (t + 1) σ1 (by omega) (by omega) (fun k hk => by rw [k1 k hk, hK k hk]) (fun k hk => ?_) kk
        rw [a1 k, hA k hk]
        show _ = ((puC (puOn s R D k) t + (if puOn s R D k t = true then 1 else 0) : Nat) : Int)
        split <;> omega
    · refine kk σ hK (fun k hk => ?_)
      rw [hA k hk]
      unfold puCnt
      rw [show (s 4).toNat = t by omega]
/-- numbering: at the place j of the order -/
def puNum (σ : gSt) (b : Nat) (s : Nat → Int) (R : Nat) (D : Int) (j : Nat) : Prop := σ b 4 = (puRk s R D j : Int) ∧ (∀ k : Nat, k < 52 * puBands s R → σ (b + 4) k = if puPr s R D k = true ∧ puPos s k < j then (puRk s R D (puPos s k) : Int) else -1) ∧ (∀ i : Nat, i < j → puPr s R D (puOrd s i) = true → σ (b + 6) (puRk s R D i) = ((puOrd s i / 52 : Nat) : Int) ∧ σ (b + 8) (puRk s R D i) = ((puOrd s i % 52 : Nat) : Int)) ∧ (∀ k : Nat, k < 52 * puBands s R → σ (b + 2) k = (puCnt s R D k : Int))
def puNF (b : Nat) (σ σ' : gSt) : Prop := ∀ k, k ≠ b → k ≠ b + 4 → k ≠ b + 6 → k ≠ b + 8 → σ' k = σ k
theorem puNum.skip {σ : gSt} {b R j j' : Nat} {s : Nat → Int} {D : Int} (ho : puOk s) (hR : 3 ≤ R) (h : puNum σ b s R D j) (hj : j ≤ j') (hj' : j' ≤ 1248) (hn : ∀ i, j ≤ i → i < j' → ¬ puPr s R D (puOrd s i) = true) : puNum σ b s R D j' := by
  obtain ⟨h1, h2, h3, h4⟩ := h
  have hb := puBands_le ho hR
  refine ⟨?_, fun k hk => ?_, fun i hi hp => ?_, h4⟩
  · rw [h1]
    congr 1
    exact (puC_sk hj hn).symm
  · rw [h2 k hk]
    by_cases e : puPr s R D k = true ∧ puPos s k < j
    · rw [if_pos e, if_pos ⟨e.1, by omega⟩]
    · rw [if_neg e]
      rw [if_neg (fun q => ?_)]
      by_cases e2 : puPos s k < j
      · exact e ⟨q.1, e2⟩
      · refine hn (puPos s k) (by omega) q.2 ?_
        rw [puOrd_pos (by omega)]
        exact q.1
  · by_cases e : i < j
    · exact h3 i e hp
    · exact absurd hp (hn i (by omega) hi)
theorem pu_number {σ : gSt} {b R j B S : Nat} {s : Nat → Int} {D : Int} (ho : puOk s) (hR : 3 ≤ R) (hD : 5 ≤ D ∧ D ≤ 60) (hj : j < 1248) (hB : B < puBands s R) (hS : S < 52) (e : puOrd s j = 52 * B + S) (h : puNum σ b s R D j) : puP (DX6_number b σ (B : Int) (S : Int)) (fun σ' => puNum σ' b s R D (j + 1) ∧ puNF b σ σ') := by
  have hb24 := puBands_le ho hR
  obtain ⟨h1, h2, h3, h4⟩ := h
  have hcnt : puCnt s R D (52 * B + S) ≤ 24 := by
    have := ho.tasks
    have := puC_le (p := puOn s R D (52 * B + S)) (s 4).toNat
    unfold puCnt
    omega
  have hpos : puPos s (52 * B + S) = j := by
    rw [← e]
    exact puPos_ord hj
  unfold DX6_number
  rw [pu_spot (by omega) hS, Option.bind_some, pu_atN (by omega) (by decide), Option.bind_some, show σ (b + 1 + 1) (52 * B + S) = (puCnt s R D (52 * B + S) : Int) from h4 _ (by omega)]
  refine pu_if ⟨by omega, by omega⟩ (by decide) (fun hc => ?_) (fun hc => ?_)
  · have hpr : puPr s R D (puOrd s j) = true := by
      rw [e]
      exact decide_eq_true_iff.mpr (by omega)
    have hrk : puRk s R D j < 312 := Nat.lt_of_lt_of_le (puRk_lt ho hD hj hpr) (puSheets_le ho hD)
    have hrk1 : puRk s R D (j + 1) = puRk s R D j + 1 := puC_T hpr
    rw [h1, pu_putN (by omega) (by decide), Option.bind_some, show gUp σ (b + 3 + 1) (52 * B + S) (puRk s R D j : Int) b 4 = (puRk s R D j : Int) by rw [pu_upK (by omega), h1], pu_putN hrk (by decide), Option.bind_some, show gUp (gUp σ (b + 3 + 1) (52 * B + S) (puRk s R D j : Int)) (b + 5 + 1) (puRk s R D j) (B : Int) b 4 = (puRk s R D j : Int) by rw [pu_upK (by omega), pu_upK (by omega), h1], pu_putN hrk (by decide), Option.bind_some]
    refine pu_some ⟨⟨?_, fun k hk => ?_, fun i hi hp => ?_, fun k hk => ?_⟩, fun k k1 k2 k3 k4 => ?_⟩
    · rw [pu_upE, pu_upK (by omega), pu_upK (by omega), pu_upK (by omega), h1, hrk1]
      omega
    · rw [pu_upK (by omega), pu_upK (by omega), pu_upK (by omega)]
      show (if b + 4 = b + 3 + 1 ∧ k = 52 * B + S then (puRk s R D j : Int) else σ (b + 4) k) = _
      by_cases e1 : k = 52 * B + S
      · rw [if_pos ⟨rfl, e1⟩, e1, hpos, if_pos ⟨by rw [← e]; exact hpr, by omega⟩]
      · rw [if_neg (fun q => e1 q.2), h2 k hk]
        have e3 : puPos s k ≠ j := fun q => e1 (by
          have := puOrd_pos (s := s) (k := k) (by omega)
          rw [q, e] at this
          exact this.symm)
        by_cases e2 : puPr s R D k = true ∧ puPos s k < j
        · rw [if_pos e2, if_pos ⟨e2.1, by omega⟩]
        · rw [if_neg e2, if_neg (fun q => e2 ⟨q.1, by omega⟩)]
    · rw [pu_upK (by omega), pu_upK (k' := b + 8) (by omega)]
      show gUp (gUp (gUp σ (b + 3 + 1) (52 * B + S) (puRk s R D j : Int)) (b + 5 + 1) (puRk s R D j) (B : Int)) (b + 7 + 1) (puRk s R D j) (S : Int) (b + 6) (puRk s R D i) = _ ∧ gUp (gUp (gUp σ (b + 3 + 1) (52 * B + S) (puRk s R D j : Int)) (b + 5 + 1) (puRk s R D j) (B : Int)) (b + 7 + 1) (puRk s R D j) (S : Int) (b + 8) (puRk s R D i) = _
      by_cases e1 : i = j
      · rw [e1, e]
        refine ⟨?_, ?_⟩
        · rw [pu_upK (by omega)]
          show gUp _ (b + 6) (puRk s R D j) (B : Int) (b + 6) (puRk s R D j) = _
          rw [pu_upE]
          omega
        · show gUp _ (b + 8) (puRk s R D j) (S : Int) (b + 8) (puRk s R D j) = _
          rw [pu_upE]
          omega
      · have hlt : puRk s R D i < puRk s R D j := puC_lt (by omega) hp
        obtain ⟨g1, g2⟩ := h3 i (by omega) hp
        refine ⟨?_, ?_⟩
        · rw [pu_upK (by omega), pu_upI (by omega), pu_upK (by omega), g1]
        · rw [pu_upI (by omega), pu_upK (by omega), pu_upK (by omega), g2]
    · rw [pu_upK (by omega), pu_upK (by omega), pu_upK (by omega), pu_upK (by omega)]
      exact h4 k hk
    · rw [pu_upK k1, pu_upK k4, pu_upK k3, pu_upK k2]
  · have hpr : ¬ puPr s R D (puOrd s j) = true := fun q => by
      rw [e] at q
      have := decide_eq_true_iff.mp q
      omega
    refine pu_some ⟨puNum.skip ho hR ⟨h1, h2, h3, h4⟩ (by omega) (by omega) (fun i hi1 hi2 => ?_), fun _ _ _ _ _ => rfl⟩
    rw [show i = j by omega]
    exact hpr
theorem puNF.trans {b : Nat} {σ σ1 σ2 : gSt} (h1 : puNF b σ σ1) (h2 : puNF b σ1 σ2) : puNF b σ σ2 := fun k a1 a2 a3 a4 => by rw [h2 k a1 a2 a3 a4, h1 k a1 a2 a3 a4]
/-- by bands -/
theorem pu_byBands_L10 {b R S B : Nat} {s : Nat → Int} {D : Int} (ho : puOk s) (hR : 3 ≤ R) (hD : 5 ≤ D ∧ D ≤ 60) (h0 : s 3 = 0) (hB : B < puBands s R) (hS : S ≤ 52) {K : gSt → Option gSt} {Q : gSt → Prop} : ∀ (f x : Nat) (σ : gSt), S - x < f → x ≤ S → puNum σ b s R D (52 * B + x) → (∀ σ', puNum σ' b s R D (52 * B + S) → puNF b σ σ' → puP (K σ') Q) → puP (DX6_numberByBands_L10 K b (S : Int) (B : Int) f (x : Int) σ) Q := by
  have hb24 := puBands_le ho hR
  intro f
  induction f with
  | zero => intro x σ h; omega
  | succ f ih =>
    intro x σ hf hx hN kk
    rw [DX6_numberByBands_L10]
    refine pu_if ⟨by omega, by omega⟩ ⟨by omega, by omega⟩ (fun hc => ?_) (fun hc => ?_)
    · refine pu_b (pu_number ho hR hD (j := 52 * B + x) (by omega) hB (by omega) (by unfold puOrd; rw [if_pos h0]) hN) (fun σ1 q => ?_)
      rw [show ((x : Int) + 1) = ((x + 1 : Nat) : Int) by omega]
      exact ih (x + 1) σ1 (by omega) (by omega) q.1 (fun σ' g1 g2 => kk σ' g1 (q.2.trans g2))
    · have : x = S := by omega
      subst this
      exact kk σ hN (fun _ _ _ _ _ => rfl)
theorem pu_byBands_L2 {b R S : Nat} {s : Nat → Int} {D : Int} (ho : puOk s) (hR : 3 ≤ R) (hD : 5 ≤ D ∧ D ≤ 60) (h0 : s 3 = 0) (hS : S ≤ 52) (hS2 : (S : Int) = 258 / D + 1) : ∀ (f B : Nat) (σ : gSt), puBands s R - B < f → B ≤ puBands s R → puNum σ b s R D (52 * B) → puP (DX6_numberByBands_L2 b (puBands s R : Int) (S : Int) f (B : Int) σ) (fun σ' => puNum σ' b s R D 1248 ∧ puNF b σ σ') := by
  have hb24 := puBands_le ho hR
  intro f
  induction f with
  | zero => intro B σ h; omega
  | succ f ih =>
    intro B σ hf hB hN
    rw [DX6_numberByBands_L2]
    refine pu_if ⟨by omega, by omega⟩ ⟨by omega, by omega⟩ (fun hc => ?_) (fun hc => ?_)
    · refine pu_byBands_L10 ho hR hD h0 (by omega) hS gFuel 0 σ (by rw [gFuel_eq]; omega) (Nat.zero_le _) hN (fun σ1 g1 g2 => ?_)
      unfold DX6_numberByBands_K29
      rw [show ((B : Int) + 1) = ((B + 1 : Nat) : Int) by omega]
      refine pu_mono (ih (B + 1) σ1 (by omega) (by omega) (g1.skip ho hR (by omega) (by omega) (fun i i1 i2 hp => ?_))) (fun σ2 q => ⟨q.1, g2.trans q.2⟩)
      have e : puOrd s i = i := by unfold puOrd; rw [if_pos h0]
      rw [e] at hp
      have := puPr_strip ho hD hp
      omega
    · have : B = puBands s R := by omega
      subst this
      refine pu_some ⟨hN.skip ho hR (by omega) (Nat.le_refl _) (fun i i1 i2 hp => ?_), fun _ _ _ _ _ => rfl⟩
      have e : puOrd s i = i := by unfold puOrd; rw [if_pos h0]
      rw [e] at hp
      have := puPr_band ho hR hp
      omega
/-- by strips -/
theorem pu_byStrips_L10 {b R S : Nat} {s : Nat → Int} {D : Int} (ho : puOk s) (hR : 3 ≤ R) (hD : 5 ≤ D ∧ D ≤ 60) (h0 : ¬ s 3 = 0) (hS : S < 52) {K : gSt → Option gSt} {Q : gSt → Prop} : ∀ (f x : Nat) (σ : gSt), puBands s R - x < f → x ≤ puBands s R → puNum σ b s R D (24 * S + x) → (∀ σ', puNum σ' b s R D (24 * S + puBands s R) → puNF b σ σ' → puP (K σ') Q) → puP (DX6_numberByStrips_L10 K b (puBands s R : Int) (S : Int) f (x : Int) σ) Q := by
  have hb24 := puBands_le ho hR
  intro f
  induction f with
  | zero => intro x σ h; omega
  | succ f ih =>
    intro x σ hf hx hN kk
    rw [DX6_numberByStrips_L10]
    refine pu_if ⟨by omega, by omega⟩ ⟨by omega, by omega⟩ (fun hc => ?_) (fun hc => ?_)
    · refine pu_b (pu_number ho hR hD (j := 24 * S + x) (by omega) (by omega) hS (by unfold puOrd; rw [if_neg h0]; omega) hN) (fun σ1 q => ?_)
      rw [show ((x : Int) + 1) = ((x + 1 : Nat) : Int) by omega]
      exact ih (x + 1) σ1 (by omega) (by omega) q.1 (fun σ' g1 g2 => kk σ' g1 (q.2.trans g2))
    · have : x = puBands s R := by omega
      subst this
      exact kk σ hN (fun _ _ _ _ _ => rfl)
theorem pu_byStrips_L2 {b R S : Nat} {s : Nat → Int} {D : Int} (ho : puOk s) (hR : 3 ≤ R) (hD : 5 ≤ D ∧ D ≤ 60) (h0 : ¬ s 3 = 0) (hS : S ≤ 52) (hS2 : (S : Int) = 258 / D + 1) : ∀ (f x : Nat) (σ : gSt), S - x < f → x ≤ S → puNum σ b s R D (24 * x) → puP (DX6_numberByStrips_L2 b (puBands s R : Int) (S : Int) f (x : Int) σ) (fun σ' => puNum σ' b s R D 1248 ∧ puNF b σ σ') := by
  have hb24 := puBands_le ho hR
  intro f
  induction f with
  | zero => intro B σ h; omega
  | succ f ih =>
    intro x σ hf hx hN
    rw [DX6_numberByStrips_L2]
    refine pu_if ⟨by omega, by omega⟩ ⟨by omega, by omega⟩ (fun hc => ?_) (fun hc => ?_)
    · refine pu_byStrips_L10 ho hR hD h0 (S := x) (by omega) gFuel 0 σ (by rw [gFuel_eq]; omega) (Nat.zero_le _) hN (fun σ1 g1 g2 => ?_)
      unfold DX6_numberByStrips_K29
      rw [show ((x : Int) + 1) = ((x + 1 : Nat) : Int) by omega]
      refine pu_mono (ih (x + 1) σ1 (by omega) (by omega) (g1.skip ho hR (by omega) (by omega) (fun i i1 i2 hp => ?_))) (fun σ2 q => ⟨q.1, g2.trans q.2⟩)
      have e : puOrd s i = 52 * (i % 24) + i / 24 := by unfold puOrd; rw [if_neg h0]
      rw [e] at hp
      have h5 : (52 * (i % 24) + i / 24) / 52 = i % 24 := by omega
      have h6 := puPr_band ho hR hp
      rw [h5] at h6
      omega
    · have : x = S := by omega
      subst this
      refine pu_some ⟨hN.skip ho hR (by omega) (Nat.le_refl _) (fun i i1 i2 hp => ?_), fun _ _ _ _ _ => rfl⟩
      have e : puOrd s i = 52 * (i % 24) + i / 24 := by unfold puOrd; rw [if_neg h0]
      rw [e] at hp
      have h5 : (52 * (i % 24) + i / 24) % 52 = i / 24 := by omega
      have h6 := puPr_strip ho hD hp
      rw [h5] at h6
      omega
/-- the class's sheets -/
def puSS (σ : gSt) (b : Nat) (s : Nat → Int) (R : Nat) (D : Int) : Prop := σ b 4 = (puSheets s R D : Int) ∧ (∀ k : Nat, k < 52 * puBands s R → σ (b + 4) k = puNo s R D k) ∧ (∀ i : Nat, i < 1248 → puPr s R D (puOrd s i) = true → σ (b + 6) (puRk s R D i) = ((puOrd s i / 52 : Nat) : Int) ∧ σ (b + 8) (puRk s R D i) = ((puOrd s i % 52 : Nat) : Int)) ∧ (∀ k : Nat, k < 52 * puBands s R → σ (b + 2) k = (puCnt s R D k : Int))
theorem puSS.same {σ σ' : gSt} {b R : Nat} {s : Nat → Int} {D : Int} (h : puSS σ b s R D) (hk : ∀ k, k = b ∨ k = b + 2 ∨ k = b + 4 ∨ k = b + 6 ∨ k = b + 8 → σ' k = σ k) : puSS σ' b s R D := by
  unfold puSS at h ⊢
  rw [hk b (Or.inl rfl), hk (b + 2) (Or.inr (Or.inl rfl)), hk (b + 4) (Or.inr (Or.inr (Or.inl rfl))), hk (b + 6) (Or.inr (Or.inr (Or.inr (Or.inl rfl)))), hk (b + 8) (Or.inr (Or.inr (Or.inr (Or.inr rfl))))]
  exact h
theorem puNum.end {σ : gSt} {b R : Nat} {s : Nat → Int} {D : Int} (ho : puOk s) (hR : 3 ≤ R) (h : puNum σ b s R D 1248) : puSS σ b s R D := by
  have hb24 := puBands_le ho hR
  obtain ⟨h1, h2, h3, h4⟩ := h
  refine ⟨h1, fun k hk => ?_, h3, h4⟩
  rw [h2 k hk]
  unfold puNo
  have := puPos_lt (s := s) (k := k) (by omega)
  by_cases e : puPr s R D k = true
  · rw [if_pos e, if_pos ⟨e, this⟩]
  · rw [if_neg e, if_neg (fun q => e q.1)]
theorem pu_print {σ : gSt} {b p1 p2 R : Nat} {s : Nat → Int} {D : Int} (ho : puOk s) (hR : 3 ≤ R) (hD : 5 ≤ D ∧ D ≤ 60) (hp12 : p1 + 12 < p2) (hb : p2 + 8 < b) (hp : puPl σ p1 s) (hB : puBB σ p2 s R) : puP (DX6_print b p1 p2 σ D) (fun σ' => puSS σ' b s R D ∧ (∀ k, k ≠ b → k ≠ b + 2 → k ≠ b + 4 → k ≠ b + 6 → k ≠ b + 8 → σ' k = σ k)) := by
  have hb24 := puBands_le ho hR
  unfold DX6_print DX0_count
  rw [Option.bind_some, hB.1, pu_fill (by decide) (by omega) (by omega) (by omega) (by omega), Option.bind_some, Option.bind_some, show puFill σ (b + 1 + 1) 1248 0 ((puBands s R : Int) * 52) 0 p2 6 = (puBands s R : Int) by rw [puFill_K (by omega), hB.1], pu_fill (by decide) (by omega) (by omega) (by omega) (by omega), Option.bind_some]
  have hK0 : ∀ k, k ≠ b + 2 → k ≠ b + 4 → puFill (puFill σ (b + 1 + 1) 1248 0 ((puBands s R : Int) * 52) 0) (b + 3 + 1) 1248 0 ((puBands s R : Int) * 52) (-1) k = σ k := fun k k1 k2 => by rw [puFill_K k2, puFill_K k1]
  have hA2 : ∀ k : Nat, k < 52 * puBands s R → puFill (puFill σ (b + 1 + 1) 1248 0 ((puBands s R : Int) * 52) 0) (b + 3 + 1) 1248 0 ((puBands s R : Int) * 52) (-1) (b + 2) k = 0 := fun k hk => by
    rw [puFill_K (by omega)]
    exact puFill_I (by omega) (by omega) (by omega)
  have hA4 : ∀ k : Nat, k < 52 * puBands s R → puFill (puFill σ (b + 1 + 1) 1248 0 ((puBands s R : Int) * 52) 0) (b + 3 + 1) 1248 0 ((puBands s R : Int) * 52) (-1) (b + 4) k = -1 := fun k hk => puFill_I (by omega) (by omega) (by omega)
  generalize puFill (puFill σ (b + 1 + 1) 1248 0 ((puBands s R : Int) * 52) 0) (b + 3 + 1) 1248 0 ((puBands s R : Int) * 52) (-1) = σ1 at hK0 hA2 hA4 ⊢
  refine pu_print_L35 (σ0 := σ1) ho hR hD hp12 hb (hp.same (fun k h1 h2 => hK0 k (by omega) (by omega))) (hB.same (fun k hk => hK0 k (by omega) (by omega))) gFuel 0 σ1 (by rw [gFuel_eq]; have := ho.tasks; omega) (by have := ho.tasks; omega) (fun _ _ => rfl) (fun k hk => by rw [hA2 k hk]; rfl) (fun σ2 k2 a2 => ?_)
  unfold DX6_print_K105 DX0_count
  have e2 : ∀ k, k ≠ b → k ≠ b + 2 → k ≠ b + 4 → gUp σ2 b 4 0 k = σ k := fun k h1 h2 h3 => by rw [pu_upK h1, k2 k h2, hK0 k h2 h3]
  have hS0 : (258 : Int) / D + 1 = (((258 : Int) / D).toNat + 1 : Nat) ∧ ((258 : Int) / D).toNat + 1 ≤ 52 := by
    have := puDiv (x := 258) (by omega) hD
    omega
  have hN : puNum (gUp σ2 b 4 0) b s R D 0 := by
    refine ⟨by rw [pu_upE]; rfl, fun k hk => ?_, fun i hi => absurd hi (Nat.not_lt_zero _), fun k hk => ?_⟩
    · rw [pu_upK (by omega), k2 _ (by omega), hA4 k hk, if_neg (fun q => Nat.not_lt_zero _ q.2)]
    · rw [pu_upK (by omega)]
      exact a2 k hk
  have hp3 : puPl (gUp σ2 b 4 0) p1 s := hp.same (fun k h1 h2 => e2 k (by omega) (by omega) (by omega))
  have hc3 : gUp σ2 b 4 0 p2 6 = (puBands s R : Int) := by rw [e2 p2 (by omega) (by omega) (by omega), hB.1]
  have ho3 := ho.order
  have hfin : ∀ σ', puNum σ' b s R D 1248 ∧ puNF b (gUp σ2 b 4 0) σ' → puSS σ' b s R D ∧ (∀ k, k ≠ b → k ≠ b + 2 → k ≠ b + 4 → k ≠ b + 6 → k ≠ b + 8 → σ' k = σ k) := fun σ' q => ⟨q.1.end ho hR, fun k q1 q2 q3 q4 q5 => by rw [q.2 k q1 q3 q4 q5, e2 k q1 q2 q3]⟩
  rw [pu_strip (by omega) (by omega) (by omega) (by omega), Option.bind_some, pu_set3 hp3, Option.bind_some]
  refine pu_if ⟨by omega, by omega⟩ (by decide) (fun hc => ?_) (fun hc => ?_)
  · rw [Option.bind_some, hc3, hS0.1]
    refine pu_b (R := fun σ' => puNum σ' b s R D 1248 ∧ puNF b (gUp σ2 b 4 0) σ') (pu_byBands_L2 ho hR hD hc hS0.2 hS0.1.symm gFuel 0 _ (by rw [gFuel_eq]; omega) (Nat.zero_le _) hN) (fun σ' q => pu_some (hfin σ' q))
  · rw [Option.bind_some, hc3, hS0.1]
    refine pu_b (R := fun σ' => puNum σ' b s R D 1248 ∧ puNF b (gUp σ2 b 4 0) σ') (pu_byStrips_L2 ho hR hD hc hS0.2 hS0.1.symm gFuel 0 _ (by rw [gFuel_eq]; omega) (Nat.zero_le _) hN) (fun σ' q => pu_some (hfin σ' q))
