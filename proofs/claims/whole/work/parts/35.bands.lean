/-! the class's lay, whole -/
theorem pu_lay_L {σ0 : gSt} {b p1 R : Nat} {s : Nat → Int} {a0 : puA} (ho : puOk s) (hb : p1 + 12 < b) (hR : 3 ≤ R ∧ R ≤ 20) (ha : puWf R 0 a0) : ∀ (f g : Nat) (σ : gSt), 6 - g < f → g ≤ 6 → puPl σ p1 s → puCB σ b R (puLayN s R a0 g) → (∀ k, k ≠ b → k ≠ b + 2 → k ≠ b + 4 → k ≠ b + 6 → k ≠ b + 8 → σ k = σ0 k) → puP (DX0_lay_L17 b p1 f (g : Int) σ) (fun σ' => puCB σ' b R (puLayN s R a0 6) ∧ (∀ k, k ≠ b → k ≠ b + 2 → k ≠ b + 4 → k ≠ b + 6 → k ≠ b + 8 → σ' k = σ0 k)) := by
  intro f
  induction f with
  | zero => intro g σ h; omega
  | succ f ih =>
    intro g σ hf hg hp hB hK
    rw [DX0_lay_L17]
    refine pu_if ⟨by omega, by omega⟩ (by decide) (fun hc => ?_) (fun hc => ?_)
    · have hgg : 0 ≤ (g : Int) ∧ (g : Int) ≤ 5 := by omega
      refine pu_b (pu_gather ho hb hgg hp) (fun σ1 q => ?_)
      obtain ⟨q1, q2, q3, q4⟩ := q
      have hB1 : puCB σ1 b R (puLayN s R a0 g) := by
        obtain ⟨h1, h2, h3, h4, h5, h6⟩ := hB
        refine ⟨?_, ?_, ?_, ?_, ?_, ?_⟩
        · rw [q4 6 (by decide), h1]
        · rw [q4 5 (by decide), h2]
        · rw [q4 7 (by decide), h3]
        · rw [q3 (b + 2) (by omega) (by omega), h4]
        · rw [q3 (b + 4) (by omega) (by omega), h5]
        · rw [q3 (b + 6) (by omega) (by omega), h6]
      have hp1 : puPl σ1 p1 s := hp.same (fun k h1 h2 => q3 k (by omega) (by omega))
      have hle := puCum_le ho (g := g) (by omega)
      have hK1 : ∀ k, k ≠ b → k ≠ b + 2 → k ≠ b + 4 → k ≠ b + 6 → k ≠ b + 8 → σ1 k = σ0 k := fun k k1 k2 k3 k4 k5 => by rw [q3 k k1 k5, hK k k1 k2 k3 k4 k5]
      refine pu_if ⟨by omega, by omega⟩ (by decide) (fun hc1 => ?_) (fun hc1 => ?_)
      · have hlay := pu_layGroup (k := puCum s g) ho hR hgg hle (puLayN_wf hR.1 ha g) q2 (by omega) q1 hB1
        have hk := ho.keep
        rw [pu_set2 hp1, Option.bind_some]
        have hgo : ∀ σ2, puCB σ2 b R (puGrp s R (g : Int) (puLayN s R a0 g)) ∧ puFr b σ1 σ2 → puP (DX0_lay_J55 (DX0_lay_L17 b p1 f) (g : Int) σ2) (fun σ' => puCB σ' b R (puLayN s R a0 6) ∧ (∀ k, k ≠ b → k ≠ b + 2 → k ≠ b + 4 → k ≠ b + 6 → k ≠ b + 8 → σ' k = σ0 k)) := by
          intro σ2 w
          unfold DX0_lay_J55
          rw [show ((g : Int) + 1) = ((g + 1 : Nat) : Int) by omega]
          refine ih (g + 1) σ2 (by omega) (by omega) (hp1.same (fun k h1 h2 => w.2.1 k (by omega) (by omega) (by omega) (by omega))) w.1 (fun k k1 k2 k3 k4 k5 => ?_)
          rw [w.2.1 k k1 k2 k3 k4, hK1 k k1 k2 k3 k4 k5]
        refine pu_if ⟨by omega, by omega⟩ (by decide) (fun hk1 => ?_) (fun hk1 => ?_)
        · rw [if_pos hk1] at hlay
          exact pu_b hlay hgo
        · rw [if_neg hk1] at hlay
          exact pu_b hlay hgo
      · unfold DX0_lay_J55
        rw [show ((g : Int) + 1) = ((g + 1 : Nat) : Int) by omega]
        refine ih (g + 1) σ1 (by omega) (by omega) hp1 ?_ hK1
        have e : puLayN s R a0 (g + 1) = puLayN s R a0 g := by
          show puGrp s R (g : Int) (puLayN s R a0 g) = _
          unfold puGrp
          rw [if_pos (by omega)]
        rw [e]
        exact hB1
    · have e : g = 6 := by omega
      subst e
      exact pu_some ⟨hB, hK⟩
def puStart (r w v : Nat → Int) : puA := (0, 0, r, w, v)
theorem puStart_wf {R : Nat} {r w v : Nat → Int} : puWf R 0 (puStart r w v) := ⟨Nat.zero_le _, Nat.le_refl _, Or.inl rfl⟩
theorem pu_lay {σ : gSt} {b p1 R : Nat} {s : Nat → Int} (ho : puOk s) (hb : p1 + 12 < b) (hR : 3 ≤ R ∧ R ≤ 20) (hp : puPl σ p1 s) : puP (DX0_lay b p1 σ (R : Int)) (fun σ' => puCB σ' b R (puLayN s R (puStart (σ (b + 2)) (σ (b + 4)) (σ (b + 6))) 6) ∧ (∀ k, k ≠ b → k ≠ b + 2 → k ≠ b + 4 → k ≠ b + 6 → k ≠ b + 8 → σ' k = σ k)) := by
  unfold DX0_lay
  refine pu_lay_L ho hb hR puStart_wf gFuel 0 _ (by rw [gFuel_eq]; omega) (by omega) (hp.same (fun k h1 h2 => ?_)) ⟨?_, ?_, ?_, ?_, ?_, ?_⟩ (fun k k1 k2 k3 k4 k5 => ?_)
  · rw [pu_upK (by omega), pu_upK (by omega), pu_upK (by omega)]
  · rw [pu_upI (by decide), pu_upE]
    rfl
  · rw [pu_upI (by decide), pu_upI (by decide), pu_upE]
  · rw [pu_upE]
    rfl
  · rw [pu_upK (by omega), pu_upK (by omega), pu_upK (by omega)]
    rfl
  · rw [pu_upK (by omega), pu_upK (by omega), pu_upK (by omega)]
    rfl
  · rw [pu_upK (by omega), pu_upK (by omega), pu_upK (by omega)]
    rfl
  · rw [pu_upK k1, pu_upK k1, pu_upK k1]
/-! the reference's way -/
def puRB (σ : gSt) (a : puA) : Prop := σ 136 7 = (a.1 : Int) ∧ σ 136 8 = (a.2.1 : Int) ∧ σ 141 = a.2.2.1 ∧ σ 142 = a.2.2.2.1 ∧ σ 143 = a.2.2.2.2
def puRF (σ σ' : gSt) : Prop := (∀ k, k ≠ 136 → k ≠ 141 → k ≠ 142 → k ≠ 143 → σ' k = σ k) ∧ (∀ i, i ≠ 7 → i ≠ 8 → σ' 136 i = σ 136 i)
theorem puRF.trans {σ σ1 σ2 : gSt} (h1 : puRF σ σ1) (h2 : puRF σ1 σ2) : puRF σ σ2 := ⟨fun k a1 a2 a3 a4 => by rw [h2.1 k a1 a2 a3 a4, h1.1 k a1 a2 a3 a4], fun i a1 a2 => by rw [h2.2 i a1 a2, h1.2 i a1 a2]⟩
theorem puRF.rf {σ : gSt} : puRF σ σ := ⟨fun _ _ _ _ _ => rfl, fun _ _ _ => rfl⟩
theorem puRF.s {σ σ' : gSt} (h : puRF σ σ') : σ' 137 = σ 137 := h.1 137 (by decide) (by decide) (by decide) (by decide)
theorem pu_newBand_L {σ0 : gSt} {c : Nat} (h0 : σ0 136 7 = (c : Int)) (hc : c < 24) : ∀ (f x : Nat) (σ : gSt), 20 - x < f → x ≤ 20 → (∀ k, k ≠ 141 → σ k = σ0 k) → (σ 141 = fun i => if 20 * c ≤ i ∧ i < 20 * c + x then -1 else σ0 141 i) → puP (DX9_newBand_L2 DX9_newBand_K29 f (x : Int) σ) (fun σ' => (∀ k, k ≠ 136 → k ≠ 141 → σ' k = σ0 k) ∧ (∀ i, i ≠ 7 → i ≠ 8 → σ' 136 i = σ0 136 i) ∧ σ' 136 7 = (c : Int) + 1 ∧ σ' 136 8 = 0 ∧ σ' 141 = fun i => if 20 * c ≤ i ∧ i < 20 * c + 20 then -1 else σ0 141 i) := by
  intro f
  induction f with
  | zero => intro x σ h; omega
  | succ f ih =>
    intro x σ hf hx hK hA
    have e7 : σ 136 7 = (c : Int) := by rw [hK 136 (by decide), h0]
    rw [DX9_newBand_L2, e7]
    refine pu_if ⟨by omega, by omega⟩ (by decide) (fun hc1 => ?_) (fun hc1 => ?_)
    · rw [pu_gat (by omega) (by omega), show ((x : Int) + 1) = ((x + 1 : Nat) : Int) by omega, show Int.toNat ((20 : Int) * (c : Int) + (x : Int)) = 20 * c + x by omega]
      refine ih (x + 1) _ (by omega) (by omega) (fun k hk => by rw [pu_upK hk, hK k hk]) ?_
      funext i
      show (if (141 : Nat) = 141 ∧ i = 20 * c + x then (-1 : Int) else σ 141 i) = _
      rw [show σ 141 i = if 20 * c ≤ i ∧ i < 20 * c + x then -1 else σ0 141 i from congrFun hA i]
      by_cases h1 : 20 * c ≤ i ∧ i < 20 * c + x
      · rw [if_pos h1]
        split <;> simp [show 20 * c ≤ i ∧ i < 20 * c + (x + 1) by omega]
      · rw [if_neg h1]
        by_cases h2 : i = 20 * c + x
        · rw [if_pos ⟨rfl, h2⟩, if_pos (by omega)]
        · rw [if_neg (fun q => h2 q.2), if_neg (by omega)]
    · have e : x = 20 := by omega
      subst e
      unfold DX9_newBand_K29
      refine pu_some ⟨fun k k1 k2 => ?_, fun i i1 i2 => ?_, ?_, ?_, ?_⟩
      · rw [pu_upK k1, pu_upK k1, hK k k2]
      · rw [pu_upI i2, pu_upI i1, hK 136 (by decide)]
      · rw [pu_upI (by decide), pu_upE, e7]
      · rw [pu_upE]
      · rw [pu_upK (by decide), pu_upK (by decide), hA]
theorem pu_newBand {σ : gSt} {a : puA} (h : puRB σ a) (hc : a.1 < 24) : puP (DX9_newBand σ) (fun σ' => puRB σ' (puNew a) ∧ puRF σ σ') := by
  obtain ⟨h1, h2, h3, h4, h5⟩ := h
  unfold DX9_newBand
  refine pu_mono (pu_newBand_L h1 hc gFuel 0 σ (by rw [gFuel_eq]; omega) (by omega) (fun _ _ => rfl) ?_) (fun σ' q => ?_)
  · funext i
    rw [if_neg (by omega)]
  · obtain ⟨q1, q2, q3, q4, q5⟩ := q
    refine ⟨⟨?_, ?_, ?_, ?_, ?_⟩, fun k k1 k2 k3 k4 => q1 k k1 k2, q2⟩
    · rw [q3]
      show (a.1 : Int) + 1 = ((a.1 + 1 : Nat) : Int)
      omega
    · rw [q4]
      rfl
    · rw [q5, h3]
      rfl
    · rw [q1 142 (by decide) (by decide), h4]
      rfl
    · rw [q1 143 (by decide) (by decide), h5]
      rfl
theorem pu_takesRow {σ : gSt} {a : puA} (h : puRB σ a) (hc : 1 ≤ a.1 ∧ a.1 ≤ 24) (hu : a.2.1 < 20) (v : Int) : puP (DX9_takesRow σ v) (fun σ' => puRB σ' (puTake v a) ∧ puRF σ σ') := by
  obtain ⟨h1, h2, h3, h4, h5⟩ := h
  unfold DX9_takesRow
  rw [h1, h2, pu_gat (by omega) (by omega), show Int.toNat ((20 : Int) * ((a.1 : Int) - 1) + (a.2.1 : Int)) = 20 * (a.1 - 1) + a.2.1 by omega]
  have e0 : gUp σ 141 (20 * (a.1 - 1) + a.2.1) v 136 = σ 136 := pu_upK (by decide)
  refine pu_some ⟨⟨?_, ?_, ?_, ?_, ?_⟩, fun k k1 k2 k3 k4 => ?_, fun i i1 i2 => ?_⟩
  · rw [pu_upI (by decide), e0, h1]
    rfl
  · rw [pu_upE, e0, h2]
    rfl
  · rw [pu_upK (by decide), puSet_up, h3]
    rfl
  · rw [pu_upK (by decide), pu_upK (by decide), h4]
    rfl
  · rw [pu_upK (by decide), pu_upK (by decide), h5]
    rfl
  · rw [pu_upK k1, pu_upK k2]
  · rw [pu_upI i2, e0]
theorem pu_begins_J127 {σ : gSt} {s : Nat → Int} {R i u : Nat} {a : puA} {g : Int} (ho : puOk s) (hs : σ 137 = s) (hg : 0 ≤ g ∧ g ≤ 5) (h : puRB σ a) (hc : 1 ≤ a.1 ∧ a.1 ≤ 24) (hu : a.2.1 < R) (hR : R ≤ 20) (hi : (puSort s g)[i]? = some u) (hu24 : u < 24) {R100 : Int → gSt → Option gSt} {Q : gSt → Prop} (kk : ∀ σ', puRB σ' (puTake (u : Int) (puPlace u a)) → puRF σ σ' → puP (R100 (puAt (puSort s g) (i + 1)) σ') Q) : puP (DX9_begins_J127 g R100 (u : Int) σ) Q := by
  obtain ⟨h1, h2, h3, h4, h5⟩ := h
  unfold DX9_begins_J127
  rw [pu_gat (by omega) (by omega), pu_gat (by omega) (by omega), Int.toNat_natCast]
  have e0 : gUp σ 142 u (σ 136 7 - 1) 136 = σ 136 := pu_upK (by decide)
  rw [e0, h1, h2]
  have hB : puRB (gUp (gUp σ 142 u ((a.1 : Int) - 1)) 143 u (a.2.1 : Int)) (puPlace u a) := by
    refine ⟨?_, ?_, ?_, ?_, ?_⟩
    · rw [pu_upK (by decide), pu_upK (by decide), h1]
      rfl
    · rw [pu_upK (by decide), pu_upK (by decide), h2]
      rfl
    · rw [pu_upK (by decide), pu_upK (by decide), h3]
      rfl
    · rw [pu_upK (by decide), puSet_up, h4]
      rfl
    · rw [puSet_up, pu_upK (by decide), h5]
      rfl
  have hF : puRF σ (gUp (gUp σ 142 u ((a.1 : Int) - 1)) 143 u (a.2.1 : Int)) := ⟨fun k k1 k2 k3 k4 => by rw [pu_upK k4, pu_upK k3], fun i i1 i2 => by rw [pu_upK (by decide), pu_upK (by decide)]⟩
  refine pu_b (pu_takesRow hB hc (by show a.2.1 < 20; omega) (u : Int)) (fun σ1 q => ?_)
  have hF1 := hF.trans q.2
  have e1 : σ1 137 = s := by rw [hF1.s, hs]
  have hn := pu_nextS (σ := σ1) (g := g) (i := i) (u := u) (by rw [e1]; exact ho) hg (by rw [e1]; exact hi)
  rw [hn, Option.bind_some, e1]
  exact kk σ1 q.1 hF1
theorem pu_begins_L {R k : Nat} {a : puA} {s : Nat → Int} {g : Int} (ho : puOk s) (hR : 3 ≤ R ∧ R ≤ 20) (hk : k + (puSort s g).length ≤ 24) (hw : puWi R k 0 a) (hg : 0 ≤ g ∧ g ≤ 5) : ∀ (f i : Nat) (σ : gSt), (puSort s g).length - i < f → i ≤ (puSort s g).length → σ 137 = s → puRB σ (((puSort s g).take i).foldl (puStep R g) a) → puP (DX9_begins_L100 g (R : Int) f (puAt (puSort s g) i) σ) (fun σ' => puRB σ' ((puSort s g).foldl (puStep R g) a) ∧ puRF σ σ') := by
  have hn := ho.tasks
  have hl0 : ∀ u ∈ puSort s g, u < 24 := fun u hu => by
    have := ((puSrt_mem (s 4).toNat u).mp hu).1
    omega
  intro f
  induction f with
  | zero => intro i σ h; omega
  | succ f ih =>
    intro i σ hf hil hs hB
    rw [DX9_begins_L100]
    by_cases hi : i < (puSort s g).length
    · obtain ⟨u, hu⟩ : ∃ u, (puSort s g)[i]? = some u := ⟨_, List.getElem?_eq_some_iff.mpr ⟨hi, rfl⟩⟩
      have hu24 := hl0 u (List.mem_of_getElem? hu)
      have eA : puAt (puSort s g) i = (u : Int) := by
        unfold puAt
        rw [hu]
      have hwi := puFold_wi (g := g) hR.1 hw i hil
      generalize ha' : ((puSort s g).take i).foldl (puStep R g) a = a' at hwi hB
      have hwr := puRoom_wi (g := g) hR.1 hwi
      rw [eA, pu_ifF ⟨by omega, by omega⟩ (by decide) (by omega), hB.2.1]
      have hlast : ∀ σ1, puRB σ1 (puRoom R g a') → puRF σ σ1 → puP (DX9_begins_J127 g (DX9_begins_L100 g (R : Int) f) (u : Int) σ1) (fun σ' => puRB σ' ((puSort s g).foldl (puStep R g) a) ∧ puRF σ σ') := by
        intro σ1 q1 q2
        refine pu_begins_J127 ho (by rw [q2.s, hs]) hg q1 ⟨hwr.2.1, by omega⟩ hwr.1 hR.2 hu hu24 (fun σ2 q3 q4 => ?_)
        refine pu_mono (ih (i + 1) σ2 (by omega) (by omega) (by rw [q4.s, q2.s, hs]) ?_) (fun σ3 q5 => ⟨q5.1, (q2.trans q4).trans q5.2⟩)
        rw [puTakeS hu, ha']
        exact q3
      have h1 := hwi.1
      refine pu_if ⟨by omega, by omega⟩ ⟨by omega, by omega⟩ (fun hc1 => ?_) (fun hc1 => ?_)
      · have hfull : a'.2.1 = R := by omega
        have hi0 : ¬ i = 0 := fun q => by have := hwi.2.2.2.2 q; omega
        have h24 : a'.1 < 24 := by
          have := hwi.2.2.2.1
          rw [if_neg hi0] at this
          omega
        refine pu_b (pu_newBand hB h24) (fun σ1 q => ?_)
        refine pu_b (pu_takesRow q.1 ⟨by show 1 ≤ a'.1 + 1; omega, by show a'.1 + 1 ≤ 24; omega⟩ (by show 0 < 20; omega) (200 + g)) (fun σ2 q2 => ?_)
        refine hlast σ2 ?_ (q.2.trans q2.2)
        unfold puRoom
        rw [if_pos hfull]
        exact q2.1
      · refine hlast σ ?_ puRF.rf
        unfold puRoom
        rw [if_neg (by omega)]
        exact hB
    · have e : i = (puSort s g).length := by omega
      have eA : puAt (puSort s g) i = -1 := by
        unfold puAt
        rw [List.getElem?_eq_none (by omega)]
      rw [eA, pu_ifT (by decide) (by decide) rfl]
      subst e
      rw [List.take_length] at hB
      exact pu_some ⟨hB, puRF.rf⟩
theorem pu_begins {σ : gSt} {R k : Nat} {a : puA} {s : Nat → Int} {g : Int} (ho : puOk s) (hs : σ 137 = s) (hR : 3 ≤ R ∧ R ≤ 20) (hg : 0 ≤ g ∧ g ≤ 5) (hk : k + (puSort s g).length ≤ 24) (hw : puWf R k a) (hne : ¬ (puSort s g).length = 0) (hB : puRB σ a) : puP (DX9_begins σ g (R : Int)) (fun σ' => puRB σ' (puGrp s R g a) ∧ puRF σ σ') := by
  have hw0 := hw
  obtain ⟨w1, w2, w3⟩ := hw
  have hhead : ∀ σ1, puRB σ1 (puHead s R (puSort s g).length a) → puRF σ σ1 → puP (DX9_begins_J84 g (R : Int) σ1) (fun σ' => puRB σ' (puGrp s R g a) ∧ puRF σ σ') := by
    intro σ1 q1 q2
    have hwh := puHead_wf (s := s) (len := (puSort s g).length) hR.1 hw0
    unfold DX9_begins_J84
    refine pu_b (pu_takesRow q1 ⟨hwh.1, by omega⟩ (by omega) (100 + g)) (fun σ2 q3 => ?_)
    have e2 : σ2 137 = s := by rw [q3.2.s, q2.s, hs]
    have hn := pu_next0 (σ := σ2) (g := g) (by rw [e2]; exact ho) hg
    rw [hn, Option.bind_some, e2]
    refine pu_mono (pu_begins_L (k := k) ho hR hk (puHead_wi hR.1 hw0) hg gFuel 0 σ2 (by rw [gFuel_eq]; omega) (Nat.zero_le _) e2 q3.1) (fun σ3 q5 => ⟨?_, (q2.trans q3.2).trans q5.2⟩)
    unfold puGrp
    rw [if_neg hne]
    exact q5.1
  have hJ80 : (a.1 = 0 ∨ (s 2 = 1 ∧ R < a.2.1 + (puSort s g).length + 1 ∧ (puSort s g).length + 1 ≤ R) ∨ R < a.2.1 + 2) → puP (DX9_begins_J80 σ g (R : Int)) (fun σ' => puRB σ' (puGrp s R g a) ∧ puRF σ σ') := by
    intro hq
    unfold DX9_begins_J80
    refine pu_b (pu_newBand hB (by omega)) (fun σ1 q => hhead σ1 ?_ q.2)
    unfold puHead
    rw [if_pos hq]
    exact q.1
  have hk2 := ho.keep
  have hlen : (puSort s g).length ≤ 24 := by omega
  -- the joins, for a free count t that is what the class calls free
  have hJ60 : ∀ t : Int, (a.1 = 0 → t = 0) → (¬ a.1 = 0 → t = (R : Int) - (a.2.1 : Int)) → ∀ m : Int, (m = 1 → (s 2 = 1 ∧ R < a.2.1 + (puSort s g).length + 1 ∧ (puSort s g).length + 1 ≤ R)) → (m = 0 → a.1 = 0 ∨ ¬ (s 2 = 1 ∧ R < a.2.1 + (puSort s g).length + 1 ∧ (puSort s g).length + 1 ≤ R)) → (m = 0 ∨ m = 1) → puP (DX9_begins_J60 σ g (R : Int) t m) (fun σ' => puRB σ' (puGrp s R g a) ∧ puRF σ σ') := by
    intro t ht0 ht1 m hm1 hm0 hm
    have htR : 0 ≤ t ∧ t ≤ 20 := by
      by_cases q : a.1 = 0
      · have := ht0 q; omega
      · have := ht1 q; omega
    unfold DX9_begins_J60
    rw [hB.1]
    refine pu_if ⟨by omega, by omega⟩ (by decide) (fun hc1 => hJ80 (Or.inl (by omega))) (fun hc1 => ?_)
    have hne0 : ¬ a.1 = 0 := by omega
    have := ht1 hne0
    refine pu_if ⟨by omega, by omega⟩ (by decide) (fun hc2 => ?_) (fun hc2 => hJ80 (Or.inr (Or.inl (hm1 (by omega)))))
    refine pu_if ⟨by omega, by omega⟩ (by decide) (fun hc3 => hJ80 (Or.inr (Or.inr (by omega)))) (fun hc3 => hhead σ ?_ puRF.rf)
    unfold puHead
    rw [if_neg]
    · exact hB
    · rintro (q2 | q2 | q2)
      · exact hne0 q2
      · rcases hm0 hc2 with q3 | q3
        · exact hne0 q3
        · exact q3 q2
      · omega
  have hJ25 : ∀ t : Int, (a.1 = 0 → t = 0) → (¬ a.1 = 0 → t = (R : Int) - (a.2.1 : Int)) → puP (DX9_begins_J25 σ g (R : Int) ((puSort s g).length : Int) t) (fun σ' => puRB σ' (puGrp s R g a) ∧ puRF σ σ') := by
    intro t ht0 ht1
    have htR : 0 ≤ t ∧ t ≤ 20 := by
      by_cases q : a.1 = 0
      · have := ht0 q; omega
      · have := ht1 q; omega
    unfold DX9_begins_J25 DX9_begins_J59
    rw [hs, pu_gat (by decide) (by decide), show Int.toNat (2 : Int) = 2 from rfl]
    refine pu_if ⟨by omega, by omega⟩ (by decide) (fun hc1 => ?_) (fun hc1 => hJ60 t ht0 ht1 0 (fun q => by omega) (fun _ => Or.inr (fun q => hc1 q.1)) (Or.inl rfl))
    refine pu_if ⟨by omega, by omega⟩ ⟨by omega, by omega⟩ (fun hc2 => ?_) (fun hc2 => ?_)
    · refine pu_if ⟨by omega, by omega⟩ ⟨by omega, by omega⟩ (fun hc3 => hJ60 t ht0 ht1 0 (fun q => by omega) (fun _ => Or.inr (fun q => by omega)) (Or.inl rfl)) (fun hc3 => ?_)
      rw [hB.2.1]
      refine pu_if ⟨by omega, by omega⟩ (by decide) (fun hc4 => ?_) (fun hc4 => ?_)
      · by_cases q : a.1 = 0
        · -- moves, no band yet
          unfold DX9_begins_J60
          rw [hB.1, pu_ifT ⟨by omega, by omega⟩ (by decide) (by omega)]
          exact hJ80 (Or.inl q)
        · have := ht1 q
          exact hJ60 t ht0 ht1 1 (fun _ => ⟨hc1, by omega, by omega⟩) (fun q => by omega) (Or.inr rfl)
      · refine hJ60 t ht0 ht1 0 (fun q => by omega) (fun _ => ?_) (Or.inl rfl)
        rcases w3 with q | q
        · exact Or.inl q
        · omega
    · refine hJ60 t ht0 ht1 0 (fun q => by omega) (fun _ => ?_) (Or.inl rfl)
      by_cases q : a.1 = 0
      · exact Or.inl q
      · have := ht1 q
        exact Or.inr (fun q2 => by omega)
  unfold DX9_begins
  have hz := pu_sizeOf (σ := σ) (g := g) (by rw [hs]; exact ho) hg
  rw [hz, Option.bind_some, hB.1, hs]
  refine pu_if ⟨by omega, by omega⟩ (by decide) (fun hc => hJ25 0 (fun _ => rfl) (fun q => by omega)) (fun hc => ?_)
  rw [hB.2.1]
  exact hJ25 _ (fun q => by omega) (fun _ => rfl)
theorem pu_bandsBy_L {σ0 : gSt} {R : Nat} {s : Nat → Int} {a0 : puA} (ho : puOk s) (hR : 3 ≤ R ∧ R ≤ 20) (ha : puWf R 0 a0) : ∀ (f g : Nat) (σ : gSt), 6 - g < f → g ≤ 6 → σ 137 = s → puRB σ (puLayN s R a0 g) → puRF σ0 σ → puP (DX9_bandsBy_L12 (R : Int) f (g : Int) σ) (fun σ' => puRB σ' (puLayN s R a0 6) ∧ puRF σ0 σ') := by
  intro f
  induction f with
  | zero => intro g σ h; omega
  | succ f ih =>
    intro g σ hf hg hs hB hF
    rw [DX9_bandsBy_L12]
    refine pu_if ⟨by omega, by omega⟩ (by decide) (fun hc => ?_) (fun hc => ?_)
    · have hgg : 0 ≤ (g : Int) ∧ (g : Int) ≤ 5 := by omega
      have hle := puCum_le ho (g := g) (by omega)
      have hz := pu_sizeOf (σ := σ) (g := (g : Int)) (by rw [hs]; exact ho) hgg
      rw [hz, Option.bind_some, hs]
      unfold DX9_bandsBy_J32
      rw [show ((g : Int) + 1) = ((g + 1 : Nat) : Int) by omega]
      refine pu_if ⟨by omega, by omega⟩ (by decide) (fun hc1 => ?_) (fun hc1 => ?_)
      · refine pu_b (pu_begins (k := puCum s g) ho hs hR hgg hle (puLayN_wf hR.1 ha g) (by omega) hB) (fun σ2 w => ?_)
        exact ih (g + 1) σ2 (by omega) (by omega) (by rw [w.2.s, hs]) w.1 (hF.trans w.2)
      · refine ih (g + 1) σ (by omega) (by omega) hs ?_ hF
        have e : puLayN s R a0 (g + 1) = puLayN s R a0 g := by
          show puGrp s R (g : Int) (puLayN s R a0 g) = _
          unfold puGrp
          rw [if_pos (by omega)]
        rw [e]
        exact hB
    · have e : g = 6 := by omega
      subst e
      exact pu_some ⟨hB, hF⟩
theorem pu_bandsBy {σ : gSt} {R : Nat} (ho : puOk (σ 137)) (hR : 3 ≤ R ∧ R ≤ 20) : puP (DX9_bandsBy σ (R : Int)) (fun σ' => puRB σ' (puLayN (σ 137) R (puStart (σ 141) (σ 142) (σ 143)) 6) ∧ puRF σ σ') := by
  unfold DX9_bandsBy
  refine pu_bandsBy_L ho hR puStart_wf gFuel 0 _ (by rw [gFuel_eq]; omega) (by omega) ?_ ⟨?_, ?_, ?_, ?_, ?_⟩ ⟨fun k k1 k2 k3 k4 => ?_, fun i i1 i2 => ?_⟩
  · rw [pu_upK (by decide), pu_upK (by decide)]
  · rw [pu_upI (by decide), pu_upE]
    rfl
  · rw [pu_upE]
    rfl
  · rw [pu_upK (by decide), pu_upK (by decide)]
    rfl
  · rw [pu_upK (by decide), pu_upK (by decide)]
    rfl
  · rw [pu_upK (by decide), pu_upK (by decide)]
    rfl
  · rw [pu_upK k1, pu_upK k1]
  · rw [pu_upI i2, pu_upI i1]
