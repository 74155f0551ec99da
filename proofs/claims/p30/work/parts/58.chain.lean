/-! the longest chain: from the first task on (the class), from the last task on (the law) -/
def pvJ (s : Nat → Int) (c : Nat → Int) : Prop := ∀ t : Nat, (t : Int) < s 4 → c t = 1 ∨ ∃ a : Nat, (a : Int) < s 77 ∧ ¬ puLate s a ∧ puTo s a = t ∧ c t ≤ c (puFm s a) + 1
theorem pvJ_gr {s : Nat → Int} (ho : puOk s) {c0 : Nat → Int} (h : pvJ s c0) : ∀ i : Nat, (i : Int) ≤ s 77 → pvJ s (puGr s c0 i).1 := by
  intro i
  induction i with
  | zero => intro _; exact h
  | succ i ih =>
    intro hi
    have h1 := ih (by omega)
    show pvJ s (puG1 s i (puGr s c0 i)).1
    generalize puGr s c0 i = q at h1 ⊢
    obtain ⟨c, g⟩ := q
    have hia : (i : Int) < s 77 := by omega
    unfold puG1
    by_cases e : ¬ (s (6 + 3 * puTo s i) ≤ puLast s (puFm s i)) ∧ c (puTo s i) < c (puFm s i) + 1
    · rw [if_pos e]
      have e2 : c (puTo s i) < c (puFm s i) + 1 := e.2
      have hne : puFm s i ≠ puTo s i := fun q => by
        have := puRkT_lt ho hia e.1
        rw [q] at this
        omega
      have hmono : ∀ t, c t ≤ puSet c (puTo s i) (c (puFm s i) + 1) t := fun t => by
        show c t ≤ if t = puTo s i then c (puFm s i) + 1 else c t
        split
        · rename_i q; rw [q]; omega
        · exact Int.le_refl _
      intro t ht
      show puSet c (puTo s i) (c (puFm s i) + 1) t = 1 ∨ ∃ a : Nat, (a : Int) < s 77 ∧ ¬ puLate s a ∧ puTo s a = t ∧ puSet c (puTo s i) (c (puFm s i) + 1) t ≤ puSet c (puTo s i) (c (puFm s i) + 1) (puFm s a) + 1
      by_cases et : t = puTo s i
      · refine Or.inr ⟨i, hia, e.1, et.symm, ?_⟩
        rw [et, puSet_e, puSet_n hne]
        exact Int.le_refl _
      · rw [puSet_n et]
        rcases h1 t ht with z | ⟨a, a1, a2, a3, a4⟩
        · exact Or.inl z
        · refine Or.inr ⟨a, a1, a2, a3, ?_⟩
          have a4 : c t ≤ c (puFm s a) + 1 := a4
          have := hmono (puFm s a)
          omega
    · rw [if_neg e]
      exact h1
theorem pvJ_it {s : Nat → Int} (ho : puOk s) : ∀ k : Nat, pvJ s (puIt s k) := by
  have hn := ho.arrows
  intro k
  induction k with
  | zero => exact fun t _ => Or.inl rfl
  | succ k ih => exact pvJ_gr ho ih (s 77).toNat (by omega)
theorem pvMx_ge {c : Nat → Int} : ∀ (n t : Nat), t < n → c t ≤ puMx c n := by
  intro n
  induction n with
  | zero => intro t h; omega
  | succ n ih =>
    intro t h
    show c t ≤ max (puMx c n) (c n)
    by_cases e : t = n
    · rw [e]
      exact Int.le_max_right _ _
    · exact Int.le_trans (ih t (by omega)) (Int.le_max_left _ _)
theorem pvMx_le {c : Nat → Int} {m : Int} (hm : 0 ≤ m) : ∀ n : Nat, (∀ t, t < n → c t ≤ m) → puMx c n ≤ m := by
  intro n
  induction n with
  | zero => intro _; exact hm
  | succ n ih =>
    intro h
    show max (puMx c n) (c n) ≤ m
    exact Int.max_le.mpr ⟨ih (fun t ht => h t (by omega)), h n (by omega)⟩
theorem pvMx_0 {c : Nat → Int} : ∀ n : Nat, 0 ≤ puMx c n := by
  intro n
  induction n with
  | zero => exact Int.le_refl _
  | succ n ih => exact Int.le_trans ih (Int.le_max_left _ _)
/-- the law's numbers, as far as the tasks of S go -/
def pvCh (s : Nat → Int) (S : Nat → Prop) (d : Nat → Int) (m : Int) : Prop := (∀ t, S t → 1 ≤ d t ∧ d t ≤ m ∧ d t ≤ 259 - s (6 + 3 * t)) ∧ (∀ a : Nat, (a : Int) < s 77 → ¬ puLate s a → S (puFm s a) → d (puTo s a) + 1 ≤ d (puFm s a)) ∧ (∀ t, S t → d t = 1 ∨ ∃ a : Nat, (a : Int) < s 77 ∧ ¬ puLate s a ∧ puFm s a = t ∧ d t ≤ d (puTo s a) + 1) ∧ (m = 0 ∨ ∃ t, S t ∧ d t = m) ∧ 0 ≤ m ∧ m ≤ 259
theorem pv_long {s : Nat → Int} (ho : puOk s) {d : Nat → Int} {m : Int} (h : pvCh s (fun t => (t : Int) < s 4) d m) : m = puLong s := by
  have hn := ho.tasks
  obtain ⟨h1, h2, h3, h4, h5, h6⟩ := h
  obtain ⟨b1, b2⟩ := puIt_inv ho 24
  have hc1 : ∀ a : Nat, (a : Int) < s 77 → ¬ puLate s a → puIt s 24 (puFm s a) + 1 ≤ puIt s 24 (puTo s a) := fun a ha hl => by
    rcases b2 a (by omega) hl with z | z
    · exact z
    · have t2 := (puTo_e ho ha).2
      have := (b1 _ t2).2
      have := puRkT_le ho t2
      omega
  have hc2 := pvJ_it ho 24
  have hc3 : ∀ t : Nat, (t : Int) < s 4 → 1 ≤ puIt s 24 t := fun t ht => (b1 t ht).1
  show m = puMx (puIt s 24) (s 4).toNat
  generalize puIt s 24 = c at hc1 hc2 hc3 ⊢
  have hA : ∀ (k : Nat) (t : Nat), (t : Int) < s 4 → c t ≤ (k : Int) → c t + d t - 1 ≤ m := by
    intro k
    induction k with
    | zero => intro t ht hk; have := hc3 t ht; omega
    | succ k ih =>
      intro t ht hk
      rcases hc2 t ht with z | ⟨a, a1, a2, a3, a4⟩
      · have := (h1 t ht).2.1
        omega
      · have f2 := (puFm_e ho a1).2
        have g1 := hc1 a a1 a2
        have g2 := h2 a a1 a2 f2
        rw [a3] at g1 g2
        have := ih (puFm s a) f2 (by omega)
        omega
  have hB : ∀ (k : Nat) (t : Nat), (t : Int) < s 4 → d t ≤ (k : Int) → c t + d t - 1 ≤ puMx c (s 4).toNat := by
    intro k
    induction k with
    | zero => intro t ht hk; have := (h1 t ht).1; omega
    | succ k ih =>
      intro t ht hk
      rcases h3 t ht with z | ⟨a, a1, a2, a3, a4⟩
      · have := pvMx_ge (c := c) (s 4).toNat t (by omega)
        omega
      · have t2 := (puTo_e ho a1).2
        have g1 := hc1 a a1 a2
        have g2 := h2 a a1 a2 (by rw [a3]; exact ht)
        rw [a3] at g1 g2
        have := ih (puTo s a) t2 (by omega)
        omega
  refine Int.le_antisymm ?_ (pvMx_le h5 _ (fun t ht => ?_))
  · rcases h4 with z | ⟨t, z1, z2⟩
    · rw [z]
      exact pvMx_0 _
    · have := hB (d t).toNat t z1 (by have := (h1 t z1).1; omega)
      have := hc3 t z1
      omega
  · have ht4 : (t : Int) < s 4 := by omega
    have := hA (c t).toNat t ht4 (by have := hc3 t ht4; omega)
    have := (h1 t ht4).1
    omega
/-- the law's arrows, by their ends -/
def pvE (σ : gSt) (s : Nat → Int) : Prop := σ 136 5 = s 77 ∧ ∀ a : Nat, (a : Int) < s 77 → σ 140 a = 32 * (puFm s a : Int) + (puTo s a : Int)
theorem pvE_of {σ : gSt} {s : Nat → Int} {l : List (Int × Int)} (ho : puOk s) (hA : puHA s l) (hW : pvW σ l) : pvE σ s := by
  refine ⟨by rw [hW.1, hA.1], fun a ha => ?_⟩
  have hal : a < l.length := by have := hA.1; omega
  obtain ⟨q, hq⟩ : ∃ q, l[a]? = some q := ⟨_, List.getElem?_eq_some_iff.mpr ⟨hal, rfl⟩⟩
  rw [hW.2 a q hq, ← (puFm_e ho ha).1, ← (puTo_e ho ha).1, (hA.2 a q hq).1, (hA.2 a q hq).2]
section PVC
variable {s : Nat → Int}
theorem pv_last {σ : gSt} (ho : puOk s) (hT : pvT σ s) {t : Nat} (ht : (t : Int) < s 4) : DL_last σ (t : Int) = some (puLast s t) := by
  have h3 := ho.t24 ht
  obtain ⟨g1, g2, g3⟩ := hT.2.2 t ht
  unfold DL_last
  rw [pu_gat (by omega) (by omega), pu_gat (by omega) (by omega), Int.toNat_natCast, g2, g3]
  rfl
/-- the best of the tasks behind t, of the arrows below x -/
def pvMore (s : Nat → Int) (d : Nat → Int) (t x : Nat) (r : Int) : Prop := 0 ≤ r ∧ r ≤ 259 ∧ (∀ a : Nat, a < x → ¬ puLate s a → puFm s a = t → d (puTo s a) ≤ r) ∧ (r = 0 ∨ ∃ a : Nat, a < x ∧ ¬ puLate s a ∧ puFm s a = t ∧ d (puTo s a) = r)
theorem pv_chain_L45 {σ : gSt} (ho : puOk s) (hT : pvT σ s) (hE : pvE σ s) {t : Nat} (ht : (t : Int) < s 4) (hd : ∀ a : Nat, (a : Int) < s 77 → ¬ puLate s a → puFm s a = t → 0 ≤ σ 124 (puTo s a) ∧ σ 124 (puTo s a) ≤ 259) {K : Int → Option (Int × gSt)} {Q : Int × gSt → Prop} : ∀ (f x : Nat) (r : Int), (s 77).toNat - x < f → (x : Int) ≤ s 77 → pvMore s (σ 124) t x r → (∀ r', pvMore s (σ 124) t (s 77).toNat r' → puP (K r') Q) → puP (DL_chainB_L45 K (t : Int) σ f (x : Int) r) Q := by
  have hn := ho.tasks
  have hm := ho.arrows
  intro f
  induction f with
  | zero => intro x r h; omega
  | succ f ih =>
    intro x r hf hx hr kk
    rw [DL_chainB_L45, pu_gat (by decide) (by decide), show σ 136 (Int.toNat (5 : Int)) = s 77 from hE.1]
    refine pu_if ⟨by omega, by omega⟩ ⟨by omega, by omega⟩ (fun c => ?_) (fun c => ?_)
    · obtain ⟨f1, f2⟩ := puFm_e ho c
      obtain ⟨t1, t2⟩ := puTo_e ho c
      have ht24 := ho.t24 ht
      have hw := hE.2 x c
      obtain ⟨r1, r2, r3, r4⟩ := hr
      have hnext : ∀ r' : Int, pvMore s (σ 124) t (x + 1) r' → puP (DL_chainB_J126 (DL_chainB_L45 K (t : Int) σ f) (x : Int) r') Q := fun r' h => by
        unfold DL_chainB_J126
        rw [show (x : Int) + 1 = ((x + 1 : Nat) : Int) by omega]
        exact ih (x + 1) r' (by omega) (by omega) h kk
      have hskip : (¬ puLate s x → puFm s x = t → σ 124 (puTo s x) ≤ r) → pvMore s (σ 124) t (x + 1) r := fun h => by
        refine ⟨r1, r2, fun a ha hl hf => ?_, ?_⟩
        · by_cases e : a = x
          · rw [e] at hl hf ⊢
            exact h hl hf
          · exact r3 a (by omega) hl hf
        · rcases r4 with z | ⟨a, a1, a2⟩
          · exact Or.inl z
          · exact Or.inr ⟨a, by omega, a2⟩
      rw [pu_gat (by omega) (by omega), Int.toNat_natCast, hw, pu_dv (by omega) (by omega) (by decide) (by decide), show (32 * (puFm s x : Int) + (puTo s x : Int)) / 32 = (puFm s x : Int) by omega]
      refine pu_if ⟨by omega, by omega⟩ ⟨by omega, by omega⟩ (fun c2 => ?_) (fun c2 => ?_)
      · have hfx : puFm s x = t := by omega
        have hl := ho.last ht
        have hf0 := ho.f ht
        have hft := ho.f t2
        rw [pu_gat (by omega) (by omega), pu_dv (by omega) (by omega) (by decide) (by decide), show (32 * (puFm s x : Int) + (puTo s x : Int)) % 32 = (puTo s x : Int) by omega, pu_gat (by omega) (by omega), pv_last ho hT ht, Option.bind_some, Int.toNat_natCast, (hT.2.2 _ t2).2.1]
        have hlate : puLate s x ↔ s (6 + 3 * puTo s x) ≤ puLast s t := by unfold puLate; rw [hfx]
        refine pu_if ⟨by omega, by omega⟩ ⟨by omega, by omega⟩ (fun c3 => ?_) (fun c3 => ?_)
        · have hnl : ¬ puLate s x := fun z => by have := hlate.mp z; omega
          obtain ⟨d1, d2⟩ := hd x c hnl hfx
          unfold DL_chainB_J89
          rw [pu_ifF (by decide) (by decide) (by decide), pu_gat (by omega) (by omega), Int.toNat_natCast, hw, pu_dv (by omega) (by omega) (by decide) (by decide), show (32 * (puFm s x : Int) + (puTo s x : Int)) % 32 = (puTo s x : Int) by omega, pu_gat (by omega) (by omega), Int.toNat_natCast]
          refine pu_if ⟨by omega, by omega⟩ ⟨by omega, by omega⟩ (fun c4 => ?_) (fun c4 => ?_)
          · rw [pu_gat (by omega) (by omega), pu_dv (by omega) (by omega) (by decide) (by decide), pu_gat (by omega) (by omega)]
            refine hnext _ ⟨d1, d2, fun a ha hl2 hf2 => ?_, Or.inr ⟨x, by omega, hnl, hfx, rfl⟩⟩
            by_cases e : a = x
            · rw [e]
              exact Int.le_refl _
            · have := r3 a (by omega) hl2 hf2
              omega
          · unfold DL_chainB_J124
            exact hnext r (hskip (fun _ _ => by omega))
        · unfold DL_chainB_J88 DL_chainB_J89 DL_chainB_J124
          rw [pu_ifT (by decide) (by decide) rfl]
          exact hnext r (hskip (fun z _ => absurd (hlate.mpr (by omega)) z))
      · unfold DL_chainB_J88 DL_chainB_J89 DL_chainB_J124
        rw [pu_ifT (by decide) (by decide) rfl]
        exact hnext r (hskip (fun _ z => absurd (by rw [z]) c2))
    · have e : x = (s 77).toNat := by omega
      subst e
      exact kk r hr
/-- the tasks done: those of later days, and on this day those below x -/
def pvDone (s : Nat → Int) (D : Int) (x t : Nat) : Prop := (t : Int) < s 4 ∧ (D < s (6 + 3 * t) ∨ (s (6 + 3 * t) = D ∧ t < x))
theorem pvCh.cong {S S' : Nat → Prop} {d : Nat → Int} {m : Int} (h : pvCh s S d m) (e : ∀ t, S' t ↔ S t) : pvCh s S' d m := by
  have e2 : S' = S := funext fun t => propext (e t)
  rw [e2]
  exact h
theorem pv_chain_L22 {σ0 : gSt} (ho : puOk s) (hT0 : pvT σ0 s) (hE0 : pvE σ0 s) {D : Int} (hD : 0 ≤ D ∧ D ≤ 258) {K : Int → gSt → Option (Int × gSt)} {Q : Int × gSt → Prop} : ∀ (f x : Nat) (m : Int) (σ : gSt), (s 4).toNat - x < f → (x : Int) ≤ s 4 → (∀ k, k ≠ 124 → σ k = σ0 k) → pvCh s (pvDone s D x) (σ 124) m → (∀ m' σ', (∀ k, k ≠ 124 → σ' k = σ0 k) → pvCh s (pvDone s D (s 4).toNat) (σ' 124) m' → puP (K m' σ') Q) → puP (DL_chainB_L22 K D f (x : Int) m σ) Q := by
  have hn := ho.tasks
  intro f
  induction f with
  | zero => intro x m σ h; omega
  | succ f ih =>
    intro x m σ hf hx hk hC kk
    have hT : pvT σ s := hT0.same (fun i _ => by rw [hk 136 (by decide)]) (fun k k1 k2 => hk k (by omega))
    have hE : pvE σ s := ⟨by rw [hk 136 (by decide)]; exact hE0.1, fun a ha => by rw [hk 140 (by decide)]; exact hE0.2 a ha⟩
    rw [DL_chainB_L22, pu_gat (by decide) (by decide), show σ 136 (Int.toNat (4 : Int)) = s 4 from hT.2.1]
    refine pu_if ⟨by omega, by omega⟩ ⟨by omega, by omega⟩ (fun c => ?_) (fun c => ?_)
    · have h24 := ho.t24 c
      have hfx := ho.f c
      have hm : 0 ≤ m ∧ m ≤ 259 := hC.2.2.2.2
      have hnext : ∀ (m' : Int) (σ' : gSt), (∀ k, k ≠ 124 → σ' k = σ0 k) → pvCh s (pvDone s D (x + 1)) (σ' 124) m' → puP (DL_chainB_J165 (DL_chainB_L22 K D f) (x : Int) m' σ') Q := fun m' σ' k' h => by
        unfold DL_chainB_J165
        rw [show (x : Int) + 1 = ((x + 1 : Nat) : Int) by omega]
        exact ih (x + 1) m' σ' (by omega) (by omega) k' h kk
      rw [pu_gat (by omega) (by omega), Int.toNat_natCast, (hT.2.2 x c).2.1]
      refine pu_if ⟨by omega, by omega⟩ ⟨by omega, by omega⟩ (fun c2 => ?_) (fun c2 => ?_)
      · obtain ⟨h1, h2, h3, h4, h5, h6⟩ := hC
        have hto : ∀ a : Nat, (a : Int) < s 77 → ¬ puLate s a → D ≤ s (6 + 3 * puFm s a) → pvDone s D x (puTo s a) ∧ s (6 + 3 * puFm s a) < s (6 + 3 * puTo s a) := fun a ha hl hf => by
          have f2 := (puFm_e ho ha).2
          have t2 := (puTo_e ho ha).2
          have l1 := ho.last f2
          unfold puLate at hl
          exact ⟨⟨t2, Or.inl (by omega)⟩, by omega⟩
        refine pv_chain_L45 ho hT hE c (fun a ha hl hfa => ?_) gFuel 0 0 (by have := ho.arrows; rw [gFuel_eq]; omega) (by have := ho.arrows; omega) ⟨Int.le_refl _, by decide, fun a ha => absurd ha (Nat.not_lt_zero _), Or.inl rfl⟩ (fun r hr => ?_)
        · have hd := (hto a ha hl (by rw [hfa]; omega)).1
          have := h1 _ hd
          have := ho.f hd.1
          omega
        · obtain ⟨r1, r2, r3, r4⟩ := hr
          have hr258 : r + 1 ≤ 259 - s (6 + 3 * x) := by
            rcases r4 with z | ⟨a, a1, a2, a3, a4⟩
            · omega
            · have ha : (a : Int) < s 77 := by omega
              obtain ⟨d1, d2⟩ := hto a ha a2 (by rw [a3]; omega)
              rw [a3] at d2
              have := (h1 _ d1).2.2
              omega
          have hnx : ¬ pvDone s D x x := fun z => by
            rcases z.2 with z | z <;> omega
          have hU : ∀ u, u ≠ x → gUp σ 124 x (r + 1) 124 u = σ 124 u := fun u hu => pu_upI hu
          have hX : gUp σ 124 x (r + 1) 124 x = r + 1 := pu_upE _ _ _ _
          have hk2 : ∀ k, k ≠ 124 → gUp σ 124 x (r + 1) k = σ0 k := fun k h => by rw [pu_upK h, hk k h]
          have hdone : ∀ t, pvDone s D (x + 1) t ↔ pvDone s D x t ∨ t = x := fun t => by
            unfold pvDone
            constructor
            · rintro ⟨g1, g2 | g2⟩
              · exact Or.inl ⟨g1, Or.inl g2⟩
              · by_cases e : t = x
                · exact Or.inr e
                · exact Or.inl ⟨g1, Or.inr ⟨g2.1, by omega⟩⟩
            · rintro (⟨g1, g2 | g2⟩ | g)
              · exact ⟨g1, Or.inl g2⟩
              · exact ⟨g1, Or.inr ⟨g2.1, by omega⟩⟩
              · rw [g]
                exact ⟨c, Or.inr ⟨c2, by omega⟩⟩
          have hfin : ∀ m' : Int, m ≤ m' → r + 1 ≤ m' → (m' = m ∨ m' = r + 1) → pvCh s (pvDone s D (x + 1)) (gUp σ 124 x (r + 1) 124) m' := by
            intro m' e1 e2 e3
            refine ⟨fun t ht => ?_, fun a ha hl hfa => ?_, fun t ht => ?_, ?_, by omega, by omega⟩
            · rcases (hdone t).mp ht with ht | ht
              · have hne : t ≠ x := fun z => hnx (by rw [z] at ht; exact ht)
                rw [hU t hne]
                have := h1 t ht
                omega
              · rw [ht, hX]
                omega
            · rcases (hdone _).mp hfa with hfa | hfa
              · have hge : D ≤ s (6 + 3 * puFm s a) := by rcases hfa.2 with z | z <;> omega
                obtain ⟨d1, d2⟩ := hto a ha hl hge
                have n1 : puFm s a ≠ x := fun z => hnx (by rw [z] at hfa; exact hfa)
                have n2 : puTo s a ≠ x := fun z => hnx (by rw [z] at d1; exact d1)
                rw [hU _ n1, hU _ n2]
                exact h2 a ha hl hfa
              · obtain ⟨d1, d2⟩ := hto a ha hl (by rw [hfa]; omega)
                have n2 : puTo s a ≠ x := fun z => hnx (by rw [z] at d1; exact d1)
                rw [hU _ n2, hfa, hX]
                have := r3 a (by omega) hl hfa
                omega
            · rcases (hdone t).mp ht with ht | ht
              · have hne : t ≠ x := fun z => hnx (by rw [z] at ht; exact ht)
                rw [hU t hne]
                rcases h3 t ht with z | ⟨a, a1, a2, a3, a4⟩
                · exact Or.inl z
                · have hge : D ≤ s (6 + 3 * puFm s a) := by rw [a3]; rcases ht.2 with z | z <;> omega
                  have n2 : puTo s a ≠ x := fun z => hnx (by have w := (hto a a1 a2 hge).1; rw [z] at w; exact w)
                  exact Or.inr ⟨a, a1, a2, a3, by rw [hU _ n2]; exact a4⟩
              · rw [ht, hX]
                rcases r4 with z | ⟨a, a1, a2, a3, a4⟩
                · exact Or.inl (by omega)
                · have ha : (a : Int) < s 77 := by omega
                  have n2 : puTo s a ≠ x := fun z => hnx (by have w := (hto a ha a2 (by rw [a3]; omega)).1; rw [z] at w; exact w)
                  exact Or.inr ⟨a, ha, a2, a3, by rw [hU _ n2, a4]; exact Int.le_refl _⟩
            · rcases e3 with e3 | e3
              · rcases h4 with z | ⟨t, z1, z2⟩
                · exact Or.inl (by omega)
                · have hne : t ≠ x := fun z => hnx (by rw [z] at z1; exact z1)
                  exact Or.inr ⟨t, (hdone t).mpr (Or.inl z1), by rw [hU t hne]; omega⟩
              · exact Or.inr ⟨x, (hdone x).mpr (Or.inr rfl), by rw [hX, e3]⟩
          unfold DL_chainB_K134 DL_chainB_J163
          rw [pu_gat (by omega) (by omega), pu_gat (by omega) (by omega), Int.toNat_natCast, hX]
          refine pu_if ⟨by omega, by omega⟩ ⟨by omega, by omega⟩ (fun c4 => ?_) (fun c4 => ?_)
          · rw [pu_gat (by omega) (by omega)]
            exact hnext _ _ hk2 (hfin (r + 1) (by omega) (Int.le_refl _) (Or.inr rfl))
          · exact hnext _ _ hk2 (hfin m (Int.le_refl _) (by omega) (Or.inl rfl))
      · refine hnext m σ hk (hC.cong (fun t => ?_))
        unfold pvDone
        constructor
        · rintro ⟨g1, g2 | g2⟩
          · exact ⟨g1, Or.inl g2⟩
          · refine ⟨g1, Or.inr ⟨g2.1, ?_⟩⟩
            by_cases e : t = x
            · rw [e] at g2
              exact absurd g2.1 c2
            · omega
        · rintro ⟨g1, g2 | g2⟩
          · exact ⟨g1, Or.inl g2⟩
          · exact ⟨g1, Or.inr ⟨g2.1, by omega⟩⟩
    · have e : x = (s 4).toNat := by omega
      subst e
      exact kk m σ hk hC
theorem pv_chain_L14 {σ0 : gSt} (ho : puOk s) (hT0 : pvT σ0 s) (hE0 : pvE σ0 s) : ∀ (f : Nat) (D m : Int) (σ : gSt), D + 1 < (f : Int) → -1 ≤ D → D ≤ 258 → (∀ k, k ≠ 124 → σ k = σ0 k) → pvCh s (pvDone s D 0) (σ 124) m → puP (DL_chainB_L14 f D m σ) (fun r => r.1 = puLong s ∧ (∀ k, k ≠ 124 → r.2 k = σ0 k)) := by
  have hn := ho.tasks
  intro f
  induction f with
  | zero => intro D m σ h h2; omega
  | succ f ih =>
    intro D m σ hf h1 h2 hk hC
    rw [DL_chainB_L14]
    refine pu_if ⟨by omega, by omega⟩ (by decide) (fun c => ?_) (fun c => ?_)
    · refine pu_some ⟨pv_long ho (hC.cong (fun t => ?_)), hk⟩
      constructor
      · intro ht
        have := ho.f ht
        exact ⟨ht, Or.inl (by omega)⟩
      · exact fun z => z.1
    · refine pv_chain_L22 ho hT0 hE0 ⟨by omega, h2⟩ gFuel 0 m σ (by rw [gFuel_eq]; omega) (by omega) hk hC (fun m' σ' k' C' => ?_)
      unfold DL_chainB_K171
      rw [show D + -1 = D - 1 by omega]
      refine ih (D - 1) m' σ' (by omega) (by omega) (by omega) k' (C'.cong (fun t => ?_))
      unfold pvDone
      constructor
      · rintro ⟨g1, g2 | g2⟩
        · by_cases e : s (6 + 3 * t) = D
          · exact ⟨g1, Or.inr ⟨e, by omega⟩⟩
          · exact ⟨g1, Or.inl (by omega)⟩
        · omega
      · rintro ⟨g1, g2 | g2⟩
        · exact ⟨g1, Or.inl (by omega)⟩
        · exact ⟨g1, Or.inl (by omega)⟩
theorem pv_chain {σ : gSt} (ho : puOk s) (hT : pvT σ s) (hE : pvE σ s) : DL_chain σ = some (puLong s, σ) := by
  have hk : ∀ k, k ≠ 124 → gPut σ 124 (fun _ => 0) k = σ k := fun k h => gPut_n h
  have h : puP (DL_chainB (gPut σ 124 (fun _ => 0))) (fun r => r.1 = puLong s ∧ (∀ k, k ≠ 124 → r.2 k = σ k)) := by
    refine pv_chain_L14 (σ0 := σ) ho hT hE gFuel 258 0 _ (by rw [gFuel_eq]; omega) (by decide) (by decide) hk ⟨fun t ht => ?_, fun a ha hl hfa => ?_, fun t ht => ?_, Or.inl rfl, Int.le_refl _, by decide⟩
    · have := ho.f ht.1
      rcases ht.2 with z | z <;> omega
    · have := ho.f hfa.1
      rcases hfa.2 with z | z <;> omega
    · have := ho.f ht.1
      rcases ht.2 with z | z <;> omega
  obtain ⟨⟨r, σ'⟩, e, h1, h2⟩ := h
  unfold DL_chain
  rw [e]
  show some (r, gPut σ' 124 (σ 124)) = _
  have h1 : r = puLong s := h1
  have h2 : ∀ k, k ≠ 124 → σ' k = σ k := h2
  rw [h1]
  congr 2
  funext k
  by_cases e2 : k = 124
  · rw [e2, gPut_e]
  · rw [gPut_n e2, h2 k e2]
end PVC
