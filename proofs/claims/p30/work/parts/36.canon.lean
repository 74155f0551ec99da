/-! one layout of a plan, whatever stood in the cells before -/
def puAgr (P : Nat → Prop) (a c : puA) : Prop := a.1 = c.1 ∧ a.2.1 = c.2.1 ∧ (∀ i : Nat, i < 20 * a.1 → a.2.2.1 i = c.2.2.1 i) ∧ (∀ t : Nat, P t → a.2.2.2.1 t = c.2.2.2.1 t ∧ a.2.2.2.2 t = c.2.2.2.2 t)
theorem puAgr.sub {P Q : Nat → Prop} {a c : puA} (h : puAgr P a c) (hs : ∀ t, Q t → P t) : puAgr Q a c := ⟨h.1, h.2.1, h.2.2.1, fun t ht => h.2.2.2 t (hs t ht)⟩
theorem puAgr.new {P : Nat → Prop} {a c : puA} (h : puAgr P a c) : puAgr P (puNew a) (puNew c) := by
  obtain ⟨h1, h2, h3, h4⟩ := h
  refine ⟨by show a.1 + 1 = c.1 + 1; omega, rfl, fun i hi => ?_, h4⟩
  have hi : i < 20 * (a.1 + 1) := hi
  show (if 20 * a.1 ≤ i ∧ i < 20 * a.1 + 20 then (-1 : Int) else a.2.2.1 i) = (if 20 * c.1 ≤ i ∧ i < 20 * c.1 + 20 then (-1 : Int) else c.2.2.1 i)
  rw [← h1]
  split
  · rfl
  · exact h3 i (by omega)
theorem puAgr.take {P : Nat → Prop} {a c : puA} (h : puAgr P a c) (v : Int) : puAgr P (puTake v a) (puTake v c) := by
  obtain ⟨h1, h2, h3, h4⟩ := h
  refine ⟨h1, by show a.2.1 + 1 = c.2.1 + 1; omega, fun i hi => ?_, h4⟩
  have hi : i < 20 * a.1 := hi
  show (if i = 20 * (a.1 - 1) + a.2.1 then v else a.2.2.1 i) = (if i = 20 * (c.1 - 1) + c.2.1 then v else c.2.2.1 i)
  rw [← h1, ← h2]
  split
  · rfl
  · exact h3 i hi
theorem puAgr.place {P : Nat → Prop} {a c : puA} (h : puAgr P a c) (t : Nat) : puAgr (fun u => P u ∨ u = t) (puPlace t a) (puPlace t c) := by
  obtain ⟨h1, h2, h3, h4⟩ := h
  refine ⟨h1, h2, h3, fun u hu => ?_⟩
  show (if u = t then ((a.1 : Int) - 1) else a.2.2.2.1 u) = (if u = t then ((c.1 : Int) - 1) else c.2.2.2.1 u) ∧ (if u = t then (a.2.1 : Int) else a.2.2.2.2 u) = (if u = t then (c.2.1 : Int) else c.2.2.2.2 u)
  rw [← h1, ← h2]
  by_cases e : u = t
  · rw [if_pos e, if_pos e, if_pos e, if_pos e]
    exact ⟨rfl, rfl⟩
  · rw [if_neg e, if_neg e, if_neg e, if_neg e]
    rcases hu with hu | hu
    · exact h4 u hu
    · exact absurd hu e
theorem puAgr.room {P : Nat → Prop} {R : Nat} {g : Int} {a c : puA} (h : puAgr P a c) : puAgr P (puRoom R g a) (puRoom R g c) := by
  unfold puRoom
  rw [← h.2.1]
  split
  · exact h.new.take _
  · exact h
theorem puAgr.step {P : Nat → Prop} {R : Nat} {g : Int} {a c : puA} (h : puAgr P a c) (t : Nat) : puAgr (fun u => P u ∨ u = t) (puStep R g a t) (puStep R g c t) := (h.room.place t).take _
theorem puAgr.fold {R : Nat} {g : Int} : ∀ (l : List Nat) (P : Nat → Prop) (a c : puA), puAgr P a c → puAgr (fun u => P u ∨ u ∈ l) (l.foldl (puStep R g) a) (l.foldl (puStep R g) c) := by
  intro l
  induction l with
  | nil => intro P a c h; exact h.sub (fun t ht => ht.elim id (fun q => by cases q))
  | cons x r ih =>
    intro P a c h
    refine (ih _ _ _ (h.step (R := R) (g := g) x)).sub (fun t ht => ?_)
    rcases ht with ht | ht
    · exact Or.inl (Or.inl ht)
    · rcases List.mem_cons.mp ht with ht | ht
      · exact Or.inl (Or.inr ht)
      · exact Or.inr ht
theorem puAgr.head {P : Nat → Prop} {s : Nat → Int} {R len : Nat} {a c : puA} (h : puAgr P a c) : puAgr P (puHead s R len a) (puHead s R len c) := by
  unfold puHead
  rw [← h.1, ← h.2.1]
  split
  · exact h.new
  · exact h
theorem puAgr.grp {P : Nat → Prop} {s : Nat → Int} {R : Nat} {g : Int} {a c : puA} (h : puAgr P a c) : puAgr (fun u => P u ∨ u ∈ puSort s g) (puGrp s R g a) (puGrp s R g c) := by
  unfold puGrp
  by_cases e : (puSort s g).length = 0
  · rw [if_pos e, if_pos e]
    have e2 : puSort s g = [] := List.eq_nil_of_length_eq_zero e
    rw [e2]
    exact h.sub (fun t ht => ht.elim id (fun q => by cases q))
  · rw [if_neg e, if_neg e]
    exact puAgr.fold _ _ _ _ (h.head.take _)
theorem puAgr.lay {s : Nat → Int} {R : Nat} {a c : puA} (h : puAgr (fun _ => False) a c) : ∀ g : Nat, puAgr (fun u => ∃ k : Nat, k < g ∧ u ∈ puSort s (k : Int)) (puLayN s R a g) (puLayN s R c g) := by
  intro g
  induction g with
  | zero => exact h.sub (fun t ht => by obtain ⟨k, hk, _⟩ := ht; omega)
  | succ g ih =>
    refine (ih.grp (s := s) (R := R) (g := (g : Int))).sub (fun t ht => ?_)
    obtain ⟨k, hk, hm⟩ := ht
    by_cases e : k = g
    · subst e
      exact Or.inr hm
    · exact Or.inl ⟨k, by omega, hm⟩
/-- what stands in a layout is in its range -/
def puIn (P : Nat → Prop) (R : Nat) (a : puA) : Prop := (∀ i, -1 ≤ a.2.2.1 i ∧ a.2.2.1 i ≤ 1000) ∧ (∀ t, P t → 0 ≤ a.2.2.2.1 t ∧ a.2.2.2.1 t < (a.1 : Int) ∧ 0 ≤ a.2.2.2.2 t ∧ a.2.2.2.2 t < (R : Int))
theorem puIn.sub {P Q : Nat → Prop} {R : Nat} {a : puA} (h : puIn P R a) (hs : ∀ t, Q t → P t) : puIn Q R a := ⟨h.1, fun t ht => h.2 t (hs t ht)⟩
theorem puIn.new {P : Nat → Prop} {R : Nat} {a : puA} (h : puIn P R a) : puIn P R (puNew a) := by
  refine ⟨fun i => ?_, fun t ht => ?_⟩
  · show -1 ≤ (if 20 * a.1 ≤ i ∧ i < 20 * a.1 + 20 then (-1 : Int) else a.2.2.1 i) ∧ (if 20 * a.1 ≤ i ∧ i < 20 * a.1 + 20 then (-1 : Int) else a.2.2.1 i) ≤ 1000
    split
    · exact ⟨by decide, by decide⟩
    · exact h.1 i
  · obtain ⟨h1, h2, h3, h4⟩ := h.2 t ht
    refine ⟨h1, ?_, h3, h4⟩
    show a.2.2.2.1 t < ((a.1 + 1 : Nat) : Int)
    omega
theorem puIn.take {P : Nat → Prop} {R : Nat} {a : puA} (h : puIn P R a) {v : Int} (hv : -1 ≤ v ∧ v ≤ 1000) : puIn P R (puTake v a) := by
  refine ⟨fun i => ?_, h.2⟩
  show -1 ≤ (if i = 20 * (a.1 - 1) + a.2.1 then v else a.2.2.1 i) ∧ (if i = 20 * (a.1 - 1) + a.2.1 then v else a.2.2.1 i) ≤ 1000
  split
  · exact hv
  · exact h.1 i
theorem puIn.place {P : Nat → Prop} {R : Nat} {a : puA} (h : puIn P R a) (hc : 1 ≤ a.1) (hu : a.2.1 < R) (t : Nat) : puIn (fun u => P u ∨ u = t) R (puPlace t a) := by
  refine ⟨h.1, fun u hu2 => ?_⟩
  show 0 ≤ (if u = t then ((a.1 : Int) - 1) else a.2.2.2.1 u) ∧ (if u = t then ((a.1 : Int) - 1) else a.2.2.2.1 u) < (a.1 : Int) ∧ 0 ≤ (if u = t then (a.2.1 : Int) else a.2.2.2.2 u) ∧ (if u = t then (a.2.1 : Int) else a.2.2.2.2 u) < (R : Int)
  by_cases e : u = t
  · rw [if_pos e, if_pos e]
    omega
  · rw [if_neg e, if_neg e]
    rcases hu2 with q | q
    · exact h.2 u q
    · exact absurd q e
theorem puIn.room {P : Nat → Prop} {R : Nat} {g : Int} (hg : 0 ≤ g ∧ g ≤ 5) {a : puA} (h : puIn P R a) : puIn P R (puRoom R g a) := by
  unfold puRoom
  split
  · exact h.new.take (by omega)
  · exact h
theorem puIn.fold {R k : Nat} {g : Int} (hR : 3 ≤ R) (hg : 0 ≤ g ∧ g ≤ 5) : ∀ (l : List Nat) (i : Nat) (P : Nat → Prop) (a : puA), (∀ u ∈ l, u < 24) → puWi R k i a → puIn P R a → puIn (fun u => P u ∨ u ∈ l) R (l.foldl (puStep R g) a) := by
  intro l
  induction l with
  | nil => intro i P a _ _ h; exact h.sub (fun t ht => ht.elim id (fun q => by cases q))
  | cons x r ih =>
    intro i P a hl hw h
    have hwr := puRoom_wi (g := g) hR hw
    have hx := hl x List.mem_cons_self
    have h2 : puIn (fun u => P u ∨ u = x) R (puStep R g a x) := ((h.room hg).place hwr.2.1 hwr.1 x).take (by omega)
    refine (ih (i + 1) _ _ (fun u hu => hl u (List.mem_cons_of_mem _ hu)) (puStep_wi hR hw) h2).sub (fun t ht => ?_)
    rcases ht with ht | ht
    · exact Or.inl (Or.inl ht)
    · rcases List.mem_cons.mp ht with ht | ht
      · exact Or.inl (Or.inr ht)
      · exact Or.inr ht
theorem puIn.grp {P : Nat → Prop} {s : Nat → Int} {R k : Nat} {g : Int} {a : puA} (ho : puOk s) (hR : 3 ≤ R) (hg : 0 ≤ g ∧ g ≤ 5) (hw : puWf R k a) (h : puIn P R a) : puIn (fun u => P u ∨ u ∈ puSort s g) R (puGrp s R g a) := by
  have hn := ho.tasks
  unfold puGrp
  by_cases e : (puSort s g).length = 0
  · rw [if_pos e]
    have e2 : puSort s g = [] := List.eq_nil_of_length_eq_zero e
    rw [e2]
    exact h.sub (fun t ht => ht.elim id (fun q => by cases q))
  · rw [if_neg e]
    have hh : puIn P R (puHead s R (puSort s g).length a) := by
      unfold puHead
      split
      · exact h.new
      · exact h
    exact puIn.fold (k := k) hR hg _ 0 _ _ (fun u hu => by
      have := ((puSrt_mem (s 4).toNat u).mp hu).1
      omega) (puHead_wi hR hw) (hh.take (by omega))
theorem puIn.lay {s : Nat → Int} {R : Nat} {a : puA} (ho : puOk s) (hR : 3 ≤ R) (hw : puWf R 0 a) (h : puIn (fun _ => False) R a) : ∀ g : Nat, g ≤ 6 → puIn (fun u => ∃ k : Nat, k < g ∧ u ∈ puSort s (k : Int)) R (puLayN s R a g) := by
  intro g
  induction g with
  | zero => intro _; exact h.sub (fun t ht => by obtain ⟨k, hk, _⟩ := ht; omega)
  | succ g ih =>
    intro hg
    refine ((ih (by omega)).grp (s := s) (g := (g : Int)) ho hR (by omega) (puLayN_wf hR hw g)).sub (fun t ht => ?_)
    obtain ⟨k, hk, hm⟩ := ht
    by_cases e : k = g
    · subst e
      exact Or.inr hm
    · exact Or.inl ⟨k, by omega, hm⟩
theorem puAll {s : Nat → Int} (ho : puOk s) {t : Nat} (ht : (t : Int) < s 4) : ∃ k : Nat, k < 6 ∧ t ∈ puSort s (k : Int) := by
  have hg := ho.g ht
  refine ⟨(s (5 + 3 * t)).toNat, by omega, ?_⟩
  unfold puSort
  rw [puSrt_mem]
  exact ⟨by omega, by omega⟩
/-- the layout of a plan with R rows: how many bands; what is in a row; a task's band and row -/
def puL (s : Nat → Int) (R : Nat) : puA := puLayN s R (puStart (fun _ => -1) (fun _ => -1) (fun _ => -1)) 6
def puBands (s : Nat → Int) (R : Nat) : Nat := (puL s R).1
def puRow (s : Nat → Int) (R : Nat) (i : Nat) : Int := (puL s R).2.2.1 i
def puBand (s : Nat → Int) (R : Nat) (t : Nat) : Nat := ((puL s R).2.2.2.1 t).toNat
def puRowOf (s : Nat → Int) (R : Nat) (t : Nat) : Nat := ((puL s R).2.2.2.2 t).toNat
theorem puL_in {s : Nat → Int} {R : Nat} (ho : puOk s) (hR : 3 ≤ R) : puIn (fun t => (t : Int) < s 4) R (puL s R) :=
  (puIn.lay ho hR puStart_wf ⟨fun _ => ⟨by show (-1 : Int) ≤ -1; decide, by show (-1 : Int) ≤ 1000; decide⟩, fun t ht => ht.elim⟩ 6 (Nat.le_refl _)).sub (fun t ht => puAll ho ht)
theorem puBand_lt {s : Nat → Int} {R : Nat} (ho : puOk s) (hR : 3 ≤ R) {t : Nat} (ht : (t : Int) < s 4) : puBand s R t < puBands s R := by
  obtain ⟨h1, h2, h3, h4⟩ := (puL_in ho hR).2 t ht
  unfold puBand puBands
  omega
theorem puRowOf_lt {s : Nat → Int} {R : Nat} (ho : puOk s) (hR : 3 ≤ R) {t : Nat} (ht : (t : Int) < s 4) : puRowOf s R t < R := by
  obtain ⟨h1, h2, h3, h4⟩ := (puL_in ho hR).2 t ht
  unfold puRowOf
  omega
theorem puRow_in {s : Nat → Int} {R : Nat} (ho : puOk s) (hR : 3 ≤ R) (i : Nat) : -1 ≤ puRow s R i ∧ puRow s R i ≤ 1000 := (puL_in ho hR).1 i
theorem puBands_le {s : Nat → Int} {R : Nat} (ho : puOk s) (hR : 3 ≤ R) : puBands s R ≤ 24 := by
  have h1 := (puLayN_wf (s := s) (a0 := puStart (fun _ => -1) (fun _ => -1) (fun _ => -1)) hR puStart_wf 6).2.1
  have h2 := puCum_6 (s := s)
  have h3 := ho.tasks
  unfold puBands puL
  omega
/-- what a layout shows: cells that hold it -/
def puShow (s : Nat → Int) (R : Nat) (cnt : Int) (rows band row : Nat → Int) : Prop := cnt = (puBands s R : Int) ∧ (∀ i : Nat, i < 20 * puBands s R → rows i = puRow s R i) ∧ (∀ t : Nat, (t : Int) < s 4 → band t = (puBand s R t : Int) ∧ row t = (puRowOf s R t : Int))
theorem puShow_of {s : Nat → Int} {R : Nat} (ho : puOk s) (hR : 3 ≤ R) (r w v : Nat → Int) : puShow s R ((puLayN s R (puStart r w v) 6).1 : Int) (puLayN s R (puStart r w v) 6).2.2.1 (puLayN s R (puStart r w v) 6).2.2.2.1 (puLayN s R (puStart r w v) 6).2.2.2.2 := by
  have h0 : puAgr (fun _ => False) (puStart r w v) (puStart (fun _ => -1) (fun _ => -1) (fun _ => -1)) := ⟨rfl, rfl, fun i hi => absurd hi (by show ¬ i < 20 * 0; omega), fun t ht => ht.elim⟩
  have h : puAgr (fun u => ∃ k : Nat, k < 6 ∧ u ∈ puSort s (k : Int)) (puLayN s R (puStart r w v) 6) (puL s R) := h0.lay 6
  obtain ⟨h1, h2, h3, h4⟩ := h
  refine ⟨by rw [h1]; rfl, fun i hi => h3 i (by rw [h1]; exact hi), fun t ht => ?_⟩
  obtain ⟨e1, e2⟩ := h4 t (puAll ho ht)
  obtain ⟨i1, i2, i3, i4⟩ := (puL_in ho hR).2 t ht
  rw [e1, e2]
  unfold puBand puRowOf
  omega
/-- class and reference after a layout -/
def puBB (σ : gSt) (b : Nat) (s : Nat → Int) (R : Nat) : Prop := puShow s R (σ b 6) (σ (b + 2)) (σ (b + 4)) (σ (b + 6))
def puRR (σ : gSt) (s : Nat → Int) (R : Nat) : Prop := puShow s R (σ 136 7) (σ 141) (σ 142) (σ 143)
theorem pu_layS {σ : gSt} {b p1 R : Nat} {s : Nat → Int} (ho : puOk s) (hb : p1 + 12 < b) (hR : 3 ≤ R ∧ R ≤ 20) (hp : puPl σ p1 s) : puP (DX0_lay b p1 σ (R : Int)) (fun σ' => puBB σ' b s R ∧ (∀ k, k ≠ b → k ≠ b + 2 → k ≠ b + 4 → k ≠ b + 6 → k ≠ b + 8 → σ' k = σ k)) := by
  refine pu_mono (pu_lay ho hb hR hp) (fun σ' q => ⟨?_, q.2⟩)
  obtain ⟨⟨h1, h2, h3, h4, h5, h6⟩, -⟩ := q
  unfold puBB
  rw [h1, h4, h5, h6]
  exact puShow_of ho hR.1 _ _ _
