/-! the bands, laid out: how many, rows used in the last one, rows, band and row of each task; then the class's way -/
abbrev puA : Type := Nat × Nat × (Nat → Int) × (Nat → Int) × (Nat → Int)
def puSet (f : Nat → Int) (i : Nat) (v : Int) : Nat → Int := fun j => if j = i then v else f j
theorem puSet_up (σ : gSt) (k i : Nat) (v : Int) : gUp σ k i v k = puSet (σ k) i v := by
  funext j
  simp [gUp, puSet]
def puNew (a : puA) : puA := (a.1 + 1, 0, (fun i => if 20 * a.1 ≤ i ∧ i < 20 * a.1 + 20 then -1 else a.2.2.1 i), a.2.2.2.1, a.2.2.2.2)
def puTake (v : Int) (a : puA) : puA := (a.1, a.2.1 + 1, puSet a.2.2.1 (20 * (a.1 - 1) + a.2.1) v, a.2.2.2.1, a.2.2.2.2)
def puPlace (t : Nat) (a : puA) : puA := (a.1, a.2.1, a.2.2.1, puSet a.2.2.2.1 t ((a.1 : Int) - 1), puSet a.2.2.2.2 t (a.2.1 : Int))
def puRoom (R : Nat) (g : Int) (a : puA) : puA := if a.2.1 = R then puTake (200 + g) (puNew a) else a
def puStep (R : Nat) (g : Int) (a : puA) (t : Nat) : puA := puTake (t : Int) (puPlace t (puRoom R g a))
def puHead (s : Nat → Int) (R len : Nat) (a : puA) : puA := if a.1 = 0 ∨ (s 2 = 1 ∧ R < a.2.1 + len + 1 ∧ len + 1 ≤ R) ∨ R < a.2.1 + 2 then puNew a else a
def puGrp (s : Nat → Int) (R : Nat) (g : Int) (a : puA) : puA := if (puSort s g).length = 0 then a else (puSort s g).foldl (puStep R g) (puTake (100 + g) (puHead s R (puSort s g).length a))
def puLayN (s : Nat → Int) (R : Nat) (a0 : puA) : Nat → puA
  | 0 => a0
  | g + 1 => puGrp s R (g : Int) (puLayN s R a0 g)
def puCum (s : Nat → Int) : Nat → Nat
  | 0 => 0
  | g + 1 => puCum s g + (puSort s (g : Int)).length
theorem puTakeS {f : puA → Nat → puA} {l : List Nat} {i u : Nat} (h : l[i]? = some u) (a : puA) : (l.take (i + 1)).foldl f a = f ((l.take i).foldl f a) u := by
  rw [List.take_add_one, h, List.foldl_append]
  rfl
theorem puSrt_cnt {s : Nat → Int} : ∀ n : Nat, (puSrt s 0 n).length + (puSrt s 1 n).length + (puSrt s 2 n).length + (puSrt s 3 n).length + (puSrt s 4 n).length + (puSrt s 5 n).length ≤ n := by
  intro n
  induction n with
  | zero => exact Nat.le_refl _
  | succ n ih =>
    have hl : ∀ g : Int, (puSrt s g (n + 1)).length = (puSrt s g n).length + (if s (5 + 3 * n) = g then 1 else 0) := by
      intro g
      show (if s (5 + 3 * n) = g then puIns s n (puSrt s g n) else puSrt s g n).length = _
      split
      · rw [puIns_len]
      · rfl
    rw [hl 0, hl 1, hl 2, hl 3, hl 4, hl 5]
    generalize s (5 + 3 * n) = q
    by_cases h0 : q = 0
    · subst h0; simp; omega
    · by_cases h1 : q = 1
      · subst h1; simp; omega
      · by_cases h2 : q = 2
        · subst h2; simp; omega
        · by_cases h3 : q = 3
          · subst h3; simp; omega
          · by_cases h4 : q = 4
            · subst h4; simp; omega
            · by_cases h5 : q = 5
              · subst h5; simp; omega
              · simp [h0, h1, h2, h3, h4, h5]; omega
theorem puCum_mono {s : Nat → Int} : ∀ g k : Nat, puCum s g ≤ puCum s (g + k) := by
  intro g k
  induction k with
  | zero => exact Nat.le_refl _
  | succ k ih => exact Nat.le_trans ih (Nat.le_add_right _ _)
theorem puCum_6 {s : Nat → Int} : puCum s 6 ≤ (s 4).toNat := by
  have := puSrt_cnt (s := s) (s 4).toNat
  show 0 + (puSrt s 0 _).length + (puSrt s 1 _).length + (puSrt s 2 _).length + (puSrt s 3 _).length + (puSrt s 4 _).length + (puSrt s 5 _).length ≤ _
  omega
theorem puCum_le {s : Nat → Int} (ho : puOk s) {g : Nat} (hg : g < 6) : puCum s g + (puSort s (g : Int)).length ≤ 24 := by
  have h1 := puCum_6 (s := s)
  have h2 := puCum_mono (s := s) (g + 1) (5 - g)
  rw [show g + 1 + (5 - g) = 6 by omega] at h2
  have h3 : puCum s (g + 1) = puCum s g + (puSort s (g : Int)).length := rfl
  have := ho.tasks
  omega
/-- well formed at a group's begin: k tasks laid so far -/
def puWf (R k : Nat) (a : puA) : Prop := a.2.1 ≤ R ∧ a.1 ≤ k ∧ (a.1 = 0 ∨ 1 ≤ a.2.1)
/-- well formed within a group of which i tasks are laid -/
def puWi (R k i : Nat) (a : puA) : Prop := a.2.1 ≤ R ∧ 1 ≤ a.1 ∧ 1 ≤ a.2.1 ∧ a.1 ≤ k + i + (if i = 0 then 1 else 0) ∧ (i = 0 → a.2.1 < R)
theorem puHead_wf {s : Nat → Int} {R len k : Nat} {a : puA} (hR : 3 ≤ R) (h : puWf R k a) : 1 ≤ (puHead s R len a).1 ∧ (puHead s R len a).1 ≤ k + 1 ∧ (puHead s R len a).2.1 + 2 ≤ R := by
  obtain ⟨h1, h2, h3⟩ := h
  unfold puHead
  split
  · exact ⟨Nat.le_add_left _ _, by show a.1 + 1 ≤ _; omega, by show 0 + 2 ≤ R; omega⟩
  · rename_i hc
    have c1 : ¬ a.1 = 0 := fun q => hc (Or.inl q)
    have c2 : ¬ R < a.2.1 + 2 := fun q => hc (Or.inr (Or.inr q))
    omega
theorem puHead_wi {s : Nat → Int} {R len k : Nat} {g : Int} {a : puA} (hR : 3 ≤ R) (h : puWf R k a) : puWi R k 0 (puTake (100 + g) (puHead s R len a)) := by
  obtain ⟨h1, h2, h3⟩ := puHead_wf (s := s) (len := len) hR h
  unfold puWi
  refine ⟨by show (puHead s R len a).2.1 + 1 ≤ R; omega, h1, Nat.le_add_left _ _, by show (puHead s R len a).1 ≤ _; simp; omega, fun _ => by show (puHead s R len a).2.1 + 1 < R; omega⟩
theorem puRoom_wi {R k i : Nat} {g : Int} {a : puA} (hR : 3 ≤ R) (h : puWi R k i a) : (puRoom R g a).2.1 < R ∧ 1 ≤ (puRoom R g a).1 ∧ (puRoom R g a).1 ≤ k + i + 1 := by
  obtain ⟨h1, h2, h3, h4, h5⟩ := h
  unfold puRoom
  split
  · rename_i hc
    have hi : ¬ i = 0 := fun q => by have := h5 q; omega
    rw [if_neg hi] at h4
    exact ⟨by show 0 + 1 < R; omega, by show 1 ≤ a.1 + 1; omega, by show a.1 + 1 ≤ _; omega⟩
  · refine ⟨by omega, h2, ?_⟩
    split at h4 <;> omega
theorem puStep_wi {R k i t : Nat} {g : Int} {a : puA} (hR : 3 ≤ R) (h : puWi R k i a) : puWi R k (i + 1) (puStep R g a t) := by
  obtain ⟨h1, h2, h3⟩ := puRoom_wi (g := g) hR h
  unfold puWi
  refine ⟨by show (puRoom R g a).2.1 + 1 ≤ R; omega, h2, Nat.le_add_left _ _, by show (puRoom R g a).1 ≤ _; rw [if_neg (by omega)]; omega, fun q => by omega⟩
theorem puFold_wi {R k : Nat} {g : Int} (hR : 3 ≤ R) {l : List Nat} {a : puA} (h : puWi R k 0 a) : ∀ i : Nat, i ≤ l.length → puWi R k i ((l.take i).foldl (puStep R g) a) := by
  intro i
  induction i with
  | zero => intro _; exact h
  | succ i ih =>
    intro hi
    obtain ⟨u, hu⟩ : ∃ u, l[i]? = some u := ⟨_, List.getElem?_eq_some_iff.mpr ⟨by omega, rfl⟩⟩
    rw [puTakeS hu]
    exact puStep_wi hR (ih (by omega))
theorem puGrp_wf {s : Nat → Int} {R k : Nat} {g : Int} {a : puA} (hR : 3 ≤ R) (h : puWf R k a) : puWf R (k + (puSort s g).length) (puGrp s R g a) := by
  unfold puGrp
  split
  · rename_i hc
    rw [hc]
    exact h
  · rename_i hc
    have := puFold_wi (g := g) (l := puSort s g) hR (puHead_wi (s := s) (len := (puSort s g).length) (g := g) hR h) (puSort s g).length (Nat.le_refl _)
    rw [List.take_length] at this
    obtain ⟨h1, h2, h3, h4, h5⟩ := this
    rw [if_neg hc] at h4
    exact ⟨h1, by omega, Or.inr h3⟩
theorem puLayN_wf {s : Nat → Int} {R : Nat} {a0 : puA} (hR : 3 ≤ R) (h : puWf R 0 a0) : ∀ g : Nat, puWf R (puCum s g) (puLayN s R a0 g) := by
  intro g
  induction g with
  | zero => exact h
  | succ g ih => exact puGrp_wf hR ih
/-- the class's cells of a layout -/
def puCB (σ : gSt) (b R : Nat) (a : puA) : Prop := σ b 6 = (a.1 : Int) ∧ σ b 5 = (R : Int) ∧ σ b 7 = (if a.1 = 0 then 0 else (R : Int) - (a.2.1 : Int)) ∧ σ (b + 2) = a.2.2.1 ∧ σ (b + 4) = a.2.2.2.1 ∧ σ (b + 6) = a.2.2.2.2
def puFr (b : Nat) (σ σ' : gSt) : Prop := (∀ k, k ≠ b → k ≠ b + 2 → k ≠ b + 4 → k ≠ b + 6 → σ' k = σ k) ∧ σ' b 4 = σ b 4
theorem puFr.trans {b : Nat} {σ σ1 σ2 : gSt} (h1 : puFr b σ σ1) (h2 : puFr b σ1 σ2) : puFr b σ σ2 := ⟨fun k a1 a2 a3 a4 => by rw [h2.1 k a1 a2 a3 a4, h1.1 k a1 a2 a3 a4], by rw [h2.2, h1.2]⟩
theorem puFr.rf {b : Nat} {σ : gSt} : puFr b σ σ := ⟨fun _ _ _ _ _ => rfl, rfl⟩
theorem pu_begin {σ : gSt} {b R : Nat} {a : puA} (h : puCB σ b R a) (hc : a.1 < 24) : puP (DX0_beginBand b σ) (fun σ' => puCB σ' b R (puNew a) ∧ puFr b σ σ') := by
  obtain ⟨h1, h2, h3, h4, h5, h6⟩ := h
  unfold DX0_beginBand
  rw [h1, pu_fill (by decide) (by omega) (by omega) (by omega) (by omega), Option.bind_some]
  have e0 : puFill σ (b + 1 + 1) 480 ((a.1 : Int) * 20) (((a.1 : Int) + 1) * 20) (-1) b = σ b := puFill_K (by omega)
  refine pu_some ⟨⟨?_, ?_, ?_, ?_, ?_, ?_⟩, fun k k1 k2 k3 k4 => ?_, ?_⟩
  · rw [pu_upI (by decide), pu_upE, e0, h1]
    show (a.1 : Int) + 1 = ((a.1 + 1 : Nat) : Int)
    omega
  · rw [pu_upI (by decide), pu_upI (by decide), e0, h2]
  · rw [pu_upE, pu_upI (by decide), e0, h2]
    show (R : Int) = if a.1 + 1 = 0 then 0 else (R : Int) - ((0 : Nat) : Int)
    rw [if_neg (by omega)]
    omega
  · rw [pu_upK (by omega), pu_upK (by omega)]
    funext i
    show (if b + 2 = b + 1 + 1 ∧ (a.1 : Int) * 20 ≤ (i : Int) ∧ (i : Int) < ((a.1 : Int) + 1) * 20 ∧ i < 480 then (-1 : Int) else σ (b + 2) i) = if 20 * a.1 ≤ i ∧ i < 20 * a.1 + 20 then -1 else a.2.2.1 i
    by_cases c : 20 * a.1 ≤ i ∧ i < 20 * a.1 + 20
    · rw [if_pos c, if_pos (by omega)]
    · rw [if_neg c, if_neg (by omega), h4]
  · rw [pu_upK (by omega), pu_upK (by omega), puFill_K (by omega), h5]
    rfl
  · rw [pu_upK (by omega), pu_upK (by omega), puFill_K (by omega), h6]
    rfl
  · rw [pu_upK k1, pu_upK k1, puFill_K k2]
  · rw [pu_upI (by decide), pu_upI (by decide), e0]
theorem pu_take {σ : gSt} {b R : Nat} {a : puA} (h : puCB σ b R a) (hc : 1 ≤ a.1 ∧ a.1 ≤ 24) (hu : a.2.1 < R) (hR : R ≤ 20) (v : Int) : puP (DX0_take b σ v) (fun σ' => puCB σ' b R (puTake v a) ∧ puFr b σ σ') := by
  obtain ⟨h1, h2, h3, h4, h5, h6⟩ := h
  rw [if_neg (by omega)] at h3
  unfold DX0_take
  rw [h1, h2, h3]
  have e : ((((a.1 : Int) - 1) * 20 + (R : Int)) - ((R : Int) - (a.2.1 : Int))) = ((20 * (a.1 - 1) + a.2.1 : Nat) : Int) := by omega
  rw [e, pu_putN (by omega) (by decide), Option.bind_some]
  have e0 : gUp σ (b + 1 + 1) (20 * (a.1 - 1) + a.2.1) v b = σ b := pu_upK (by omega)
  refine pu_some ⟨⟨?_, ?_, ?_, ?_, ?_, ?_⟩, fun k k1 k2 k3 k4 => ?_, ?_⟩
  · rw [pu_upI (by decide), e0, h1]
    rfl
  · rw [pu_upI (by decide), e0, h2]
  · rw [pu_upE, e0, h3]
    show _ = if a.1 = 0 then 0 else (R : Int) - ((a.2.1 + 1 : Nat) : Int)
    rw [if_neg (by omega)]
    omega
  · rw [pu_upK (by omega)]
    show gUp σ (b + 2) (20 * (a.1 - 1) + a.2.1) v (b + 2) = _
    rw [puSet_up, h4]
    rfl
  · rw [pu_upK (by omega), pu_upK (by omega), h5]
    rfl
  · rw [pu_upK (by omega), pu_upK (by omega), h6]
    rfl
  · rw [pu_upK k1, pu_upK k2]
  · rw [pu_upI (by decide), e0]
theorem pu_layGroup_J92 {σ : gSt} {b R k i u : Nat} {a : puA} {l : List Nat} (h : puCB σ b R a) (hc : 1 ≤ a.1 ∧ a.1 ≤ 24) (hu : a.2.1 < R) (hR : R ≤ 20) (hh : puHold σ (b + 8) l) (hl : l.length ≤ 24) (hi : l[i]? = some u) (hu24 : u < 24) {R62 : Int → gSt → Option gSt} {Q : gSt → Prop} (kk : ∀ σ', puCB σ' b R (puTake (u : Int) (puPlace u a)) → puFr b σ σ' → puP (R62 ((i + 1 : Nat) : Int) σ') Q) : puP (DX0_layGroup_J92 b R62 (i : Int) σ) Q := by
  have hil := (List.getElem?_eq_some_iff.mp hi).1
  have hm : σ (b + 7 + 1) i = (u : Int) := hh i u hi
  unfold DX0_layGroup_J92
  rw [pu_atN (by omega) (by decide), Option.bind_some, hm, pu_putN hu24 (by decide), Option.bind_some, pu_putN hu24 (by decide), Option.bind_some]
  have e0 : gUp σ (b + 3 + 1) u (σ b 6 - 1) b = σ b := pu_upK (by omega)
  rw [e0]
  obtain ⟨h1, h2, h3, h4, h5, h6⟩ := h
  rw [if_neg (by omega)] at h3
  have hB : puCB (gUp (gUp σ (b + 3 + 1) u (σ b 6 - 1)) (b + 5 + 1) u (σ b 5 - σ b 7)) b R (puPlace u a) := by
    refine ⟨?_, ?_, ?_, ?_, ?_, ?_⟩
    · rw [pu_upK (by omega), e0, h1]
      rfl
    · rw [pu_upK (by omega), e0, h2]
    · rw [pu_upK (by omega), e0, h3]
      show _ = if a.1 = 0 then 0 else (R : Int) - (a.2.1 : Int)
      rw [if_neg (by omega)]
    · rw [pu_upK (by omega), pu_upK (by omega), h4]
      rfl
    · rw [pu_upK (by omega)]
      show gUp σ (b + 4) u _ (b + 4) = _
      rw [puSet_up, h5, h1]
      rfl
    · show gUp _ (b + 6) u _ (b + 6) = _
      rw [puSet_up, pu_upK (by omega), h6, h2, h3, show (R : Int) - ((R : Int) - (a.2.1 : Int)) = (a.2.1 : Int) by omega]
      rfl
  refine pu_b (pu_take hB hc hu hR (u : Int)) (fun σ1 q => ?_)
  rw [show ((i : Int) + 1) = ((i + 1 : Nat) : Int) by omega]
  refine kk σ1 q.1 (puFr.trans ⟨fun k k1 k2 k3 k4 => ?_, ?_⟩ q.2)
  · rw [pu_upK (by omega), pu_upK (by omega)]
  · rw [pu_upK (by omega), e0]
theorem pu_layGroup_L {b R k : Nat} {a : puA} {l : List Nat} {g : Int} (hR : 3 ≤ R ∧ R ≤ 20) (hk : k + l.length ≤ 24) (hl0 : ∀ u ∈ l, u < 24) (hw : puWi R k 0 a) (hg : 0 ≤ g ∧ g ≤ 5) : ∀ (f i : Nat) (σ : gSt), l.length - i < f → i ≤ l.length → σ b 4 = (l.length : Int) → puHold σ (b + 8) l → puCB σ b R ((l.take i).foldl (puStep R g) a) → puP (DX0_layGroup_L62 b g f (i : Int) σ) (fun σ' => puCB σ' b R (l.foldl (puStep R g) a) ∧ puFr b σ σ') := by
  intro f
  induction f with
  | zero => intro i σ h; omega
  | succ f ih =>
    intro i σ hf hil hc hh hB
    rw [DX0_layGroup_L62, hc]
    refine pu_if ⟨by omega, by omega⟩ ⟨by omega, by omega⟩ (fun hi => ?_) (fun hi => ?_)
    · obtain ⟨u, hu⟩ : ∃ u, l[i]? = some u := ⟨_, List.getElem?_eq_some_iff.mpr ⟨by omega, rfl⟩⟩
      have hu24 := hl0 u (List.mem_of_getElem? hu)
      have hwi := puFold_wi (g := g) hR.1 hw i hil
      generalize ha' : (l.take i).foldl (puStep R g) a = a' at hwi hB
      have hwr := puRoom_wi (g := g) hR.1 hwi
      have hfr : σ b 7 = (R : Int) - (a'.2.1 : Int) := by
        have := hB.2.2.1
        rwa [if_neg (by have := hwi.2.1; omega)] at this
      have hlast : ∀ σ1, puCB σ1 b R (puRoom R g a') → puFr b σ σ1 → puP (DX0_layGroup_J92 b (DX0_layGroup_L62 b g f) (i : Int) σ1) (fun σ' => puCB σ' b R (l.foldl (puStep R g) a) ∧ puFr b σ σ') := by
        intro σ1 q1 q2
        have hh1 : puHold σ1 (b + 8) l := fun j v hj => by rw [q2.1 (b + 8) (by omega) (by omega) (by omega) (by omega)]; exact hh j v hj
        refine pu_layGroup_J92 (k := k) q1 ⟨hwr.2.1, by omega⟩ hwr.1 hR.2 hh1 (by omega) hu hu24 (fun σ2 q3 q4 => ?_)
        refine pu_mono (ih (i + 1) σ2 (by omega) (by omega) ?_ (fun j v hj => ?_) ?_) (fun σ3 q5 => ⟨q5.1, (q2.trans q4).trans q5.2⟩)
        · rw [q4.2, q2.2, hc]
        · rw [q4.1 (b + 8) (by omega) (by omega) (by omega) (by omega)]
          exact hh1 j v hj
        · rw [puTakeS hu, ha']
          exact q3
      have hle1 := hwi.1
      refine pu_if ⟨by omega, by omega⟩ (by decide) (fun hc1 => ?_) (fun hc1 => ?_)
      · have hfull : a'.2.1 = R := by have := hwi.1; omega
        have hi0 : ¬ i = 0 := fun q => by have := hwi.2.2.2.2 q; omega
        have h24 : a'.1 < 24 := by
          have := hwi.2.2.2.1
          rw [if_neg hi0] at this
          omega
        refine pu_b (pu_begin hB h24) (fun σ1 q => ?_)
        refine pu_b (pu_take q.1 ⟨by show 1 ≤ a'.1 + 1; omega, by show a'.1 + 1 ≤ 24; omega⟩ (by show 0 < R; omega) hR.2 (200 + g)) (fun σ2 q2 => ?_)
        refine hlast σ2 ?_ (q.2.trans q2.2)
        unfold puRoom
        rw [if_pos hfull]
        exact q2.1
      · refine hlast σ ?_ puFr.rf
        unfold puRoom
        rw [if_neg (by omega)]
        exact hB
    · have e : i = l.length := by omega
      subst e
      rw [List.take_length] at hB
      exact pu_some ⟨hB, puFr.rf⟩
theorem pu_layGroup {σ : gSt} {b R k : Nat} {a : puA} {s : Nat → Int} {g : Int} (ho : puOk s) (hR : 3 ≤ R ∧ R ≤ 20) (hg : 0 ≤ g ∧ g ≤ 5) (hk : k + (puSort s g).length ≤ 24) (hw : puWf R k a) (hc : σ b 4 = ((puSort s g).length : Int)) (hne : ¬ (puSort s g).length = 0) (hh : puHold σ (b + 8) (puSort s g)) (hB : puCB σ b R a) : puP (DX0_layGroup b σ g (if s 2 = 1 then 1 else 0)) (fun σ' => puCB σ' b R (puGrp s R g a) ∧ puFr b σ σ') := by
  have hn := ho.tasks
  have hl0 : ∀ u ∈ puSort s g, u < 24 := fun u hu => by
    have := ((puSrt_mem (s 4).toNat u).mp hu).1
    omega
  obtain ⟨w1, w2, w3⟩ := hw
  have hhead : ∀ σ1, puCB σ1 b R (puHead s R (puSort s g).length a) → puFr b σ σ1 → puP (DX0_layGroup_J51 b g σ1) (fun σ' => puCB σ' b R (puGrp s R g a) ∧ puFr b σ σ') := by
    intro σ1 q1 q2
    have hwh := puHead_wf (s := s) (len := (puSort s g).length) hR.1 (⟨w1, w2, w3⟩ : puWf R k a)
    unfold DX0_layGroup_J51
    refine pu_b (pu_take q1 ⟨hwh.1, by omega⟩ (by omega) hR.2 (100 + g)) (fun σ2 q3 => ?_)
    refine pu_mono (pu_layGroup_L (k := k) (l := puSort s g) hR hk hl0 (puHead_wi hR.1 ⟨w1, w2, w3⟩) hg gFuel 0 σ2 (by rw [gFuel_eq]; omega) (Nat.zero_le _) (by rw [q3.2.2, q2.2, hc]) (fun j v hj => ?_) q3.1) (fun σ3 q5 => ⟨?_, (q2.trans q3.2).trans q5.2⟩)
    · rw [q3.2.1 (b + 8) (by omega) (by omega) (by omega) (by omega), q2.1 (b + 8) (by omega) (by omega) (by omega) (by omega)]
      exact hh j v hj
    · unfold puGrp
      rw [if_neg hne]
      exact q5.1
  have hfr := hB.2.2.1
  have hJ47 : (a.1 = 0 ∨ (s 2 = 1 ∧ R < a.2.1 + (puSort s g).length + 1 ∧ (puSort s g).length + 1 ≤ R) ∨ R < a.2.1 + 2) → puP (DX0_layGroup_J47 b σ g) (fun σ' => puCB σ' b R (puGrp s R g a) ∧ puFr b σ σ') := by
    intro hq
    unfold DX0_layGroup_J47
    refine pu_b (pu_begin hB (by omega)) (fun σ1 q => hhead σ1 ?_ q.2)
    unfold puHead
    rw [if_pos hq]
    exact q.1
  have hf0 : a.1 = 0 → σ b 7 = 0 := fun q => by rw [hfr, if_pos q]
  have hf1 : ¬ a.1 = 0 → σ b 7 = (R : Int) - (a.2.1 : Int) := fun q => by rw [hfr, if_neg q]
  have hfR : 0 ≤ σ b 7 ∧ σ b 7 ≤ 20 := by
    by_cases q : a.1 = 0
    · rw [hf0 q]; omega
    · rw [hf1 q]; omega
  have hJ31 : ¬ (s 2 = 1 ∧ R < a.2.1 + (puSort s g).length + 1 ∧ (puSort s g).length + 1 ≤ R) ∨ a.1 = 0 → puP (DX0_layGroup_J31 b σ g) (fun σ' => puCB σ' b R (puGrp s R g a) ∧ puFr b σ σ') := by
    intro hq
    unfold DX0_layGroup_J31 DX0_layGroup_J32
    rw [pu_ifT (by decide) (by decide) rfl]
    refine pu_if ⟨by omega, by omega⟩ (by decide) (fun hc1 => hJ47 ?_) (fun hc1 => hhead σ ?_ puFr.rf)
    · by_cases q : a.1 = 0
      · exact Or.inl q
      · have := hf1 q
        exact Or.inr (Or.inr (by omega))
    · have q : ¬ a.1 = 0 := fun q => by have := hf0 q; omega
      have := hf1 q
      unfold puHead
      rw [if_neg]
      · exact hB
      · rintro (q2 | q2 | q2)
        · exact q q2
        · rcases hq with q3 | q3
          · exact q3 q2
          · exact q q3
        · omega
  unfold DX0_layGroup
  rw [hc, hB.2.1]
  by_cases hs2 : s 2 = 1
  · rw [if_pos hs2, pu_ifF (by decide) (by decide) (by decide)]
    refine pu_if ⟨by omega, by omega⟩ ⟨by omega, by omega⟩ (fun hc1 => ?_) (fun hc1 => hJ31 ?_)
    · refine pu_if ⟨by omega, by omega⟩ ⟨by omega, by omega⟩ (fun hc2 => hJ31 (Or.inl (fun q => by omega))) (fun hc2 => ?_)
      unfold DX0_layGroup_J32
      rw [pu_ifF (by decide) (by decide) (by decide)]
      refine hJ47 ?_
      by_cases q : a.1 = 0
      · exact Or.inl q
      · have := hf1 q
        exact Or.inr (Or.inl ⟨hs2, by omega, by omega⟩)
    · by_cases q : a.1 = 0
      · exact Or.inr q
      · have := hf1 q
        exact Or.inl (fun q2 => by omega)
  · rw [if_neg hs2, pu_ifT (by decide) (by decide) rfl]
    exact hJ31 (Or.inl (fun q => hs2 q.1))
