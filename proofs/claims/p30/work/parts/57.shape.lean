/-! what stands in each row of a layout -/
def pvAtC (a : puA) (B r : Nat) (u : Nat) : Prop := a.2.2.2.1 u = (B : Int) ∧ a.2.2.2.2 u = (r : Int)
def pvHv (s : Nat → Int) (u : Nat) : Int := (if (puSort s (s (5 + 3 * u))).head? = some u then 100 else 200) + s (5 + 3 * u)
def pvCell (s : Nat → Int) (P : Nat → Prop) (a : puA) (B r : Nat) (x : Int) : Prop := (∃ u, P u ∧ pvAtC a B r u ∧ x = (u : Int)) ∨ ((∀ u, P u → ¬ pvAtC a B r u) ∧ ((∃ v, P v ∧ pvAtC a B (r + 1) v ∧ x = pvHv s v) ∨ ((∀ v, P v → ¬ pvAtC a B (r + 1) v) ∧ x = -1)))
/-- in a layout, but for its last row -/
def pvSh0 (s : Nat → Int) (P : Nat → Prop) (a : puA) : Prop := (∀ u, P u → 0 ≤ a.2.2.2.1 u ∧ a.2.2.2.1 u < (a.1 : Int) ∧ 0 ≤ a.2.2.2.2 u ∧ a.2.2.2.2 u < 20 ∧ (a.2.2.2.1 u = (a.1 : Int) - 1 → a.2.2.2.2 u < (a.2.1 : Int))) ∧ (∀ u v, P u → P v → a.2.2.2.1 u = a.2.2.2.1 v → a.2.2.2.2 u = a.2.2.2.2 v → u = v) ∧ (∀ B r : Nat, B < a.1 → r < 20 → pvCell s P a B r (a.2.2.1 (20 * B + r)))
def pvSh (s : Nat → Int) (P : Nat → Prop) (a : puA) : Prop := pvSh0 s P a ∧ (a.1 = 0 ∨ ∃ u, P u ∧ a.2.2.2.1 u = (a.1 : Int) - 1 ∧ a.2.2.2.2 u = (a.2.1 : Int) - 1)
theorem pvCell.keep {s : Nat → Int} {P : Nat → Prop} {a a' : puA} {B r t : Nat} {x : Int} (h : pvCell s P a B r x) (hE : ∀ u, P u → a'.2.2.2.1 u = a.2.2.2.1 u ∧ a'.2.2.2.2 u = a.2.2.2.2 u) (h1 : ¬ pvAtC a' B r t) (h2 : ¬ pvAtC a' B (r + 1) t ∨ ∃ u, P u ∧ pvAtC a B r u) : pvCell s (fun u => P u ∨ u = t) a' B r x := by
  have hC : ∀ u, P u → ∀ r', pvAtC a' B r' u ↔ pvAtC a B r' u := fun u hu r' => by
    unfold pvAtC
    rw [(hE u hu).1, (hE u hu).2]
  rcases h with ⟨u, g1, g2, g3⟩ | ⟨g1, g2⟩
  · exact Or.inl ⟨u, Or.inl g1, (hC u g1 r).mpr g2, g3⟩
  · refine Or.inr ⟨fun u hu z => ?_, ?_⟩
    · rcases hu with hu | hu
      · exact g1 u hu ((hC u hu r).mp z)
      · rw [hu] at z
        exact h1 z
    · rcases g2 with ⟨v, v1, v2, v3⟩ | ⟨v1, v2⟩
      · exact Or.inl ⟨v, Or.inl v1, (hC v v1 _).mpr v2, v3⟩
      · refine Or.inr ⟨fun v hv z => ?_, v2⟩
        rcases hv with hv | hv
        · exact v1 v hv ((hC v hv _).mp z)
        · rw [hv] at z
          rcases h2 with h2 | ⟨u, u1, u2⟩
          · exact h2 z
          · exact g1 u u1 u2
theorem pvSh0.new {s : Nat → Int} {P : Nat → Prop} {a : puA} (h : pvSh0 s P a) : pvSh0 s P (puNew a) := by
  obtain ⟨h1, h2, h3⟩ := h
  refine ⟨fun u hu => ?_, h2, fun B r hB hr => ?_⟩
  · obtain ⟨g1, g2, g3, g4, g5⟩ := h1 u hu
    refine ⟨g1, ?_, g3, g4, fun z => ?_⟩
    · show a.2.2.2.1 u < ((a.1 + 1 : Nat) : Int)
      omega
    · have z : a.2.2.2.1 u = ((a.1 + 1 : Nat) : Int) - 1 := z
      omega
  · have hB : B < a.1 + 1 := hB
    show pvCell s P (puNew a) B r (if 20 * a.1 ≤ 20 * B + r ∧ 20 * B + r < 20 * a.1 + 20 then (-1 : Int) else a.2.2.1 (20 * B + r))
    by_cases e : B = a.1
    · rw [if_pos (by omega)]
      have hno : ∀ u, P u → ∀ r', ¬ pvAtC (puNew a) B r' u := fun u hu r' z => by
        have := (h1 u hu).2.1
        have z1 : a.2.2.2.1 u = (B : Int) := z.1
        omega
      exact Or.inr ⟨fun u hu => hno u hu r, Or.inr ⟨fun v hv => hno v hv _, rfl⟩⟩
    · rw [if_neg (by omega)]
      exact h3 B r (by omega) hr
/-- a heading and its task -/
theorem pvSh0.headPut {s : Nat → Int} {P : Nat → Prop} {a : puA} (h : pvSh0 s P a) (hc : 1 ≤ a.1) (hu : a.2.1 + 1 < 20) {t : Nat} (ht : ¬ P t) {x : Int} (hx : x = pvHv s t) : pvSh s (fun u => P u ∨ u = t) (puTake (t : Int) (puPlace t (puTake x a))) := by
  obtain ⟨h1, h2, h3⟩ := h
  have hrows : ∀ i, (puTake (t : Int) (puPlace t (puTake x a))).2.2.1 i = if i = 20 * (a.1 - 1) + (a.2.1 + 1) then (t : Int) else if i = 20 * (a.1 - 1) + a.2.1 then x else a.2.2.1 i := fun i => rfl
  have hbt : (puTake (t : Int) (puPlace t (puTake x a))).2.2.2.1 t = (a.1 : Int) - 1 := puSet_e
  have hrt : (puTake (t : Int) (puPlace t (puTake x a))).2.2.2.2 t = ((a.2.1 + 1 : Nat) : Int) := puSet_e
  have hE : ∀ u, P u → (puTake (t : Int) (puPlace t (puTake x a))).2.2.2.1 u = a.2.2.2.1 u ∧ (puTake (t : Int) (puPlace t (puTake x a))).2.2.2.2 u = a.2.2.2.2 u := fun u hp => by
    have hne : u ≠ t := fun z => ht (by rw [← z]; exact hp)
    exact ⟨puSet_n hne, puSet_n hne⟩
  have hc1 : (puTake (t : Int) (puPlace t (puTake x a))).1 = a.1 := rfl
  have hc2 : (puTake (t : Int) (puPlace t (puTake x a))).2.1 = a.2.1 + 1 + 1 := rfl
  generalize puTake (t : Int) (puPlace t (puTake x a)) = a' at hrows hbt hrt hE hc1 hc2
  refine ⟨⟨fun u hp => ?_, fun u v hp hq e1 e2 => ?_, fun B r hB hr => ?_⟩, Or.inr ⟨t, Or.inr rfl, by rw [hbt, hc1], by rw [hrt, hc2]; omega⟩⟩
  · rcases hp with hp | hp
    · obtain ⟨g1, g2, g3, g4, g5⟩ := h1 u hp
      rw [(hE u hp).1, (hE u hp).2, hc1, hc2]
      exact ⟨g1, g2, g3, g4, fun z => by have := g5 z; omega⟩
    · rw [hp, hbt, hrt, hc1, hc2]
      omega
  · rcases hp with hp | hp
    · rcases hq with hq | hq
      · rw [(hE u hp).1, (hE v hq).1] at e1
        rw [(hE u hp).2, (hE v hq).2] at e2
        exact h2 u v hp hq e1 e2
      · rw [hq, hbt, (hE u hp).1] at e1
        rw [hq, hrt, (hE u hp).2] at e2
        have := (h1 u hp).2.2.2.2 e1
        omega
    · rcases hq with hq | hq
      · rw [hp, hbt, (hE v hq).1] at e1
        rw [hp, hrt, (hE v hq).2] at e2
        have := (h1 v hq).2.2.2.2 e1.symm
        omega
      · rw [hp, hq]
  · rw [hc1] at hB
    rw [hrows]
    by_cases eB : B = a.1 - 1
    · by_cases e1 : r = a.2.1 + 1
      · rw [if_pos (by rw [eB, e1])]
        exact Or.inl ⟨t, Or.inr rfl, ⟨by rw [hbt]; omega, by rw [hrt, e1]⟩, rfl⟩
      · by_cases e2 : r = a.2.1
        · rw [if_neg (by omega), if_pos (by rw [eB, e2]), hx]
          refine Or.inr ⟨fun u hp z => ?_, Or.inl ⟨t, Or.inr rfl, ⟨by rw [hbt]; omega, by rw [hrt, e2]⟩, rfl⟩⟩
          rcases hp with hp | hp
          · have z1 := z.1
            have z2 := z.2
            rw [(hE u hp).1] at z1
            rw [(hE u hp).2] at z2
            have := (h1 u hp).2.2.2.2 (by omega)
            omega
          · have z2 := z.2
            rw [hp, hrt] at z2
            omega
        · rw [if_neg (by omega), if_neg (by omega)]
          refine (h3 B r hB hr).keep hE (fun z => ?_) (Or.inl (fun z => ?_))
          · have z2 := z.2
            rw [hrt] at z2
            omega
          · have z2 := z.2
            rw [hrt] at z2
            omega
    · rw [if_neg (by omega), if_neg (by omega)]
      refine (h3 B r hB hr).keep hE (fun z => ?_) (Or.inl (fun z => ?_))
      · have z1 := z.1
        rw [hbt] at z1
        omega
      · have z1 := z.1
        rw [hbt] at z1
        omega
/-- the next task below the last -/
theorem pvSh.put {s : Nat → Int} {P : Nat → Prop} {a : puA} (h : pvSh s P a) (hc : 1 ≤ a.1) (hu : a.2.1 < 20) {t : Nat} (ht : ¬ P t) : pvSh s (fun u => P u ∨ u = t) (puTake (t : Int) (puPlace t a)) := by
  obtain ⟨⟨h1, h2, h3⟩, h4⟩ := h
  obtain ⟨w, w1, w2, w3⟩ : ∃ u, P u ∧ a.2.2.2.1 u = (a.1 : Int) - 1 ∧ a.2.2.2.2 u = (a.2.1 : Int) - 1 := by
    rcases h4 with z | z
    · omega
    · exact z
  have hrows : ∀ i, (puTake (t : Int) (puPlace t a)).2.2.1 i = if i = 20 * (a.1 - 1) + a.2.1 then (t : Int) else a.2.2.1 i := fun i => rfl
  have hbt : (puTake (t : Int) (puPlace t a)).2.2.2.1 t = (a.1 : Int) - 1 := puSet_e
  have hrt : (puTake (t : Int) (puPlace t a)).2.2.2.2 t = (a.2.1 : Int) := puSet_e
  have hE : ∀ u, P u → (puTake (t : Int) (puPlace t a)).2.2.2.1 u = a.2.2.2.1 u ∧ (puTake (t : Int) (puPlace t a)).2.2.2.2 u = a.2.2.2.2 u := fun u hp => by
    have hne : u ≠ t := fun z => ht (by rw [← z]; exact hp)
    exact ⟨puSet_n hne, puSet_n hne⟩
  have hc1 : (puTake (t : Int) (puPlace t a)).1 = a.1 := rfl
  have hc2 : (puTake (t : Int) (puPlace t a)).2.1 = a.2.1 + 1 := rfl
  generalize puTake (t : Int) (puPlace t a) = a' at hrows hbt hrt hE hc1 hc2
  refine ⟨⟨fun u hp => ?_, fun u v hp hq e1 e2 => ?_, fun B r hB hr => ?_⟩, Or.inr ⟨t, Or.inr rfl, by rw [hbt, hc1], by rw [hrt, hc2]; omega⟩⟩
  · rcases hp with hp | hp
    · obtain ⟨g1, g2, g3, g4, g5⟩ := h1 u hp
      rw [(hE u hp).1, (hE u hp).2, hc1, hc2]
      exact ⟨g1, g2, g3, g4, fun z => by have := g5 z; omega⟩
    · rw [hp, hbt, hrt, hc1, hc2]
      omega
  · rcases hp with hp | hp
    · rcases hq with hq | hq
      · rw [(hE u hp).1, (hE v hq).1] at e1
        rw [(hE u hp).2, (hE v hq).2] at e2
        exact h2 u v hp hq e1 e2
      · rw [hq, hbt, (hE u hp).1] at e1
        rw [hq, hrt, (hE u hp).2] at e2
        have := (h1 u hp).2.2.2.2 e1
        omega
    · rcases hq with hq | hq
      · rw [hp, hbt, (hE v hq).1] at e1
        rw [hp, hrt, (hE v hq).2] at e2
        have := (h1 v hq).2.2.2.2 e1.symm
        omega
      · rw [hp, hq]
  · rw [hc1] at hB
    rw [hrows]
    by_cases eB : B = a.1 - 1
    · by_cases e1 : r = a.2.1
      · rw [if_pos (by rw [eB, e1])]
        exact Or.inl ⟨t, Or.inr rfl, ⟨by rw [hbt]; omega, by rw [hrt, e1]⟩, rfl⟩
      · rw [if_neg (by omega)]
        refine (h3 B r hB hr).keep hE (fun z => ?_) ?_
        · have z2 := z.2
          rw [hrt] at z2
          omega
        · by_cases e2 : r + 1 = a.2.1
          · exact Or.inr ⟨w, w1, by rw [w2]; omega, by rw [w3]; omega⟩
          · refine Or.inl (fun z => ?_)
            have z2 := z.2
            rw [hrt] at z2
            omega
    · rw [if_neg (by omega)]
      refine (h3 B r hB hr).keep hE (fun z => ?_) (Or.inl (fun z => ?_))
      · have z1 := z.1
        rw [hbt] at z1
        omega
      · have z1 := z.1
        rw [hbt] at z1
        omega
theorem pvSh.sub {s : Nat → Int} {P Q : Nat → Prop} {a : puA} (h : pvSh s P a) (hs : ∀ t, Q t ↔ P t) : pvSh s Q a := by
  have e : Q = P := funext fun t => propext (hs t)
  rw [e]
  exact h
theorem pvSh.fold {s : Nat → Int} {R : Nat} {g : Int} (hR : 3 ≤ R ∧ R ≤ 20) : ∀ (l : List Nat) (P : Nat → Prop) (a : puA), l.Nodup → (∀ t ∈ l, ¬ P t ∧ s (5 + 3 * t) = g ∧ (puSort s g).head? ≠ some t) → 1 ≤ a.1 → a.2.1 ≤ R → pvSh s P a → pvSh s (fun u => P u ∨ u ∈ l) (l.foldl (puStep R g) a) := by
  intro l
  induction l with
  | nil => intro P a _ _ _ _ h; exact h.sub (fun t => ⟨fun z => z.elim id (fun q => by cases q), Or.inl⟩)
  | cons x r ih =>
    intro P a hnd hl hc hu h
    obtain ⟨hx1, hx2, hx3⟩ := hl x List.mem_cons_self
    obtain ⟨n1, n2⟩ := List.nodup_cons.mp hnd
    have hnext : ∀ b : puA, b = puStep R g a x → 1 ≤ b.1 → b.2.1 ≤ R → pvSh s (fun u => P u ∨ u = x) b → pvSh s (fun u => P u ∨ u ∈ x :: r) ((x :: r).foldl (puStep R g) a) := by
      intro b hb b1 b2 b3
      refine pvSh.sub (P := fun u => (P u ∨ u = x) ∨ u ∈ r) ?_ (fun t => ?_)
      · show pvSh s _ (r.foldl (puStep R g) (puStep R g a x))
        rw [← hb]
        refine ih _ b n2 (fun t ht => ?_) b1 b2 b3
        obtain ⟨g1, g2, g3⟩ := hl t (List.mem_cons_of_mem _ ht)
        refine ⟨fun z => ?_, g2, g3⟩
        rcases z with z | z
        · exact g1 z
        · rw [z] at ht
          exact n1 ht
      · constructor
        · intro z
          rcases z with z | z
          · exact Or.inl (Or.inl z)
          · rcases List.mem_cons.mp z with z | z
            · exact Or.inl (Or.inr z)
            · exact Or.inr z
        · intro z
          rcases z with (z | z) | z
          · exact Or.inl z
          · exact Or.inr (by rw [z]; exact List.mem_cons_self)
          · exact Or.inr (List.mem_cons_of_mem _ z)
    by_cases e : a.2.1 = R
    · have er : puRoom R g a = puTake (200 + g) (puNew a) := by
        unfold puRoom
        rw [if_pos e]
      refine hnext (puTake (x : Int) (puPlace x (puTake (200 + g) (puNew a)))) ?_ (Nat.le_add_left _ _) ?_ ?_
      · show _ = puTake (x : Int) (puPlace x (puRoom R g a))
        rw [er]
      · show 0 + 1 + 1 ≤ R
        omega
      · refine h.1.new.headPut (Nat.le_add_left _ _) (by show 0 + 1 < 20; decide) hx1 ?_
        unfold pvHv
        rw [hx2, if_neg hx3]
    · have er : puRoom R g a = a := by
        unfold puRoom
        rw [if_neg e]
      refine hnext (puTake (x : Int) (puPlace x a)) ?_ hc ?_ (h.put hc (by omega) hx1)
      · show _ = puTake (x : Int) (puPlace x (puRoom R g a))
        rw [er]
      · show a.2.1 + 1 ≤ R
        omega
theorem pvSh.grp {s : Nat → Int} {R k : Nat} {g : Int} {P : Nat → Prop} {a : puA} (hR : 3 ≤ R ∧ R ≤ 20) (hw : puWf R k a) (hP : ∀ u, P u → s (5 + 3 * u) ≠ g) (h : pvSh s P a) : pvSh s (fun u => P u ∨ u ∈ puSort s g) (puGrp s R g a) := by
  have hm : ∀ t ∈ puSort s g, s (5 + 3 * t) = g := fun t ht => ((puSrt_mem (s 4).toNat t).mp ht).2
  have hnd : (puSort s g).Nodup := (puSrt_pw (s := s) (g := g) (s 4).toNat).imp (fun {u v} h z => by rw [z] at h; exact puLt_irr h)
  have hG : puGrp s R g a = if (puSort s g).length = 0 then a else (puSort s g).foldl (puStep R g) (puTake (100 + g) (puHead s R (puSort s g).length a)) := rfl
  have hwf := puHead_wf (s := s) (len := (puSort s g).length) hR.1 hw
  have hH : pvSh0 s P (puHead s R (puSort s g).length a) := by
    unfold puHead
    split
    · exact h.1.new
    · exact h.1
  by_cases e : (puSort s g).length = 0
  · rw [hG, if_pos e]
    have e2 : puSort s g = [] := List.eq_nil_of_length_eq_zero e
    rw [e2]
    exact h.sub (fun t => ⟨fun z => z.elim id (fun q => by cases q), Or.inl⟩)
  · rw [hG, if_neg e]
    generalize puHead s R (puSort s g).length a = b at hwf hH ⊢
    cases hl : puSort s g with
    | nil => rw [hl] at e; exact absurd rfl e
    | cons t r =>
      have ht : s (5 + 3 * t) = g := hm t (by rw [hl]; exact List.mem_cons_self)
      have hPt : ¬ P t := fun z => hP t z ht
      rw [hl] at hnd
      obtain ⟨n1, n2⟩ := List.nodup_cons.mp hnd
      have er : puRoom R g (puTake (100 + g) b) = puTake (100 + g) b := by
        unfold puRoom
        rw [if_neg (by show ¬ b.2.1 + 1 = R; omega)]
      have hstep : puStep R g (puTake (100 + g) b) t = puTake (t : Int) (puPlace t (puTake (100 + g) b)) := by
        show puTake (t : Int) (puPlace t (puRoom R g (puTake (100 + g) b))) = _
        rw [er]
      show pvSh s _ (r.foldl (puStep R g) (puStep R g (puTake (100 + g) b) t))
      rw [hstep]
      have h1 := hH.headPut (t := t) (x := 100 + g) hwf.1 (by omega) hPt (by
        unfold pvHv
        rw [ht, hl, if_pos (show (t :: r).head? = some t from rfl)])
      have h2 := pvSh.fold (g := g) hR r (fun u => P u ∨ u = t) (puTake (t : Int) (puPlace t (puTake (100 + g) b))) n2 (fun u hu => by
        refine ⟨fun z => ?_, hm u (by rw [hl]; exact List.mem_cons_of_mem _ hu), fun z => ?_⟩
        · rcases z with z | z
          · exact hP u z (hm u (by rw [hl]; exact List.mem_cons_of_mem _ hu))
          · rw [z] at hu
            exact n1 hu
        · rw [hl] at z
          have z2 : t = u := Option.some.inj z
          rw [← z2] at hu
          exact n1 hu) hwf.1 (by show b.2.1 + 1 + 1 ≤ R; omega) h1
      refine h2.sub (fun u => ?_)
      constructor
      · intro z
        rcases z with z | z
        · exact Or.inl (Or.inl z)
        · rcases List.mem_cons.mp z with z | z
          · exact Or.inl (Or.inr z)
          · exact Or.inr z
      · intro z
        rcases z with (z | z) | z
        · exact Or.inl z
        · exact Or.inr (by rw [z]; exact List.mem_cons_self)
        · exact Or.inr (List.mem_cons_of_mem _ z)
theorem pvSh_lay {s : Nat → Int} {R : Nat} {a : puA} (hR : 3 ≤ R ∧ R ≤ 20) (hw : puWf R 0 a) (h : pvSh s (fun _ => False) a) : ∀ g : Nat, pvSh s (fun u => ∃ k : Nat, k < g ∧ u ∈ puSort s (k : Int)) (puLayN s R a g) := by
  intro g
  induction g with
  | zero => exact h.sub (fun t => ⟨fun z => by obtain ⟨k, hk, _⟩ := z; omega, fun z => z.elim⟩)
  | succ g ih =>
    refine (ih.grp (g := (g : Int)) hR (puLayN_wf hR.1 hw g) (fun u hu z => ?_)).sub (fun t => ?_)
    · obtain ⟨k, hk, hm⟩ := hu
      have := ((puSrt_mem (s 4).toNat u).mp hm).2
      omega
    · constructor
      · rintro ⟨k, hk, hm⟩
        by_cases e : k = g
        · subst e
          exact Or.inr hm
        · exact Or.inl ⟨k, by omega, hm⟩
      · rintro (⟨k, hk, hm⟩ | hm)
        · exact ⟨k, by omega, hm⟩
        · exact ⟨g, by omega, hm⟩
theorem pvSh_all {s : Nat → Int} {R : Nat} (ho : puOk s) (hR : 3 ≤ R ∧ R ≤ 20) : pvSh s (fun t => (t : Int) < s 4) (puL s R) := by
  have hn := ho.tasks
  refine (pvSh_lay hR puStart_wf ⟨⟨fun u hu => hu.elim, fun u v hu => hu.elim, fun B r hB => absurd hB (Nat.not_lt_zero _)⟩, Or.inl rfl⟩ 6).sub (fun t => ⟨fun ht => puAll ho ht, ?_⟩)
  rintro ⟨k, hk, hm⟩
  have := ((puSrt_mem (s 4).toNat t).mp hm).1
  omega
/-- what stands in a row, in the words of band and row -/
theorem pv_cell {s : Nat → Int} {R : Nat} (ho : puOk s) (hR : 3 ≤ R ∧ R ≤ 20) {B r : Nat} (hB : B < puBands s R) (hr : r < R) : (∃ u : Nat, (u : Int) < s 4 ∧ (puBand s R u = B ∧ puRowOf s R u = r) ∧ puRow s R (20 * B + r) = (u : Int)) ∨ ((∀ u : Nat, (u : Int) < s 4 → ¬ (puBand s R u = B ∧ puRowOf s R u = r)) ∧ ((∃ v : Nat, (v : Int) < s 4 ∧ (puBand s R v = B ∧ puRowOf s R v = r + 1) ∧ puRow s R (20 * B + r) = pvHv s v) ∨ ((∀ v : Nat, (v : Int) < s 4 → ¬ (puBand s R v = B ∧ puRowOf s R v = r + 1)) ∧ puRow s R (20 * B + r) = -1))) := by
  have hA : ∀ u : Nat, (u : Int) < s 4 → ∀ r' : Nat, pvAtC (puL s R) B r' u ↔ (puBand s R u = B ∧ puRowOf s R u = r') := fun u hu r' => by
    obtain ⟨i1, i2, i3, i4⟩ := (puL_in ho hR.1).2 u hu
    unfold pvAtC puBand puRowOf
    omega
  have h := (pvSh_all ho hR).1.2.2 B r hB (by omega)
  rcases h with ⟨u, g1, g2, g3⟩ | ⟨g1, g2⟩
  · exact Or.inl ⟨u, g1, (hA u g1 r).mp g2, g3⟩
  · refine Or.inr ⟨fun u hu z => g1 u hu ((hA u hu r).mpr z), ?_⟩
    rcases g2 with ⟨v, v1, v2, v3⟩ | ⟨v1, v2⟩
    · exact Or.inl ⟨v, v1, (hA v v1 _).mp v2, v3⟩
    · exact Or.inr ⟨fun v hv z => v1 v hv ((hA v hv _).mpr z), v2⟩
theorem pv_apart {s : Nat → Int} {R : Nat} (ho : puOk s) (hR : 3 ≤ R ∧ R ≤ 20) {u v : Nat} (hu : (u : Int) < s 4) (hv : (v : Int) < s 4) (h1 : puBand s R u = puBand s R v) (h2 : puRowOf s R u = puRowOf s R v) : u = v := by
  obtain ⟨i1, i2, i3, i4⟩ := (puL_in ho hR.1).2 u hu
  obtain ⟨j1, j2, j3, j4⟩ := (puL_in ho hR.1).2 v hv
  unfold puBand at h1
  unfold puRowOf at h2
  exact (pvSh_all ho hR).1.2.1 u v hu hv (by omega) (by omega)
