/-! calls that change the plan: what the class does, by itself -/
theorem puEnds_ren {l : List (Int × Int)} {t n : Nat} (hE : puEnds (n : Int) l) (htn : t < n) : puEnds ((n - 1 : Nat) : Int) ((l.filter (puKeep (t : Int))).map (puRen (t : Int))) := by
  intro q hq
  obtain ⟨q0, h0, rfl⟩ := List.mem_map.mp hq
  obtain ⟨h1, h2⟩ := List.mem_filter.mp h0
  obtain ⟨⟨g1, g2⟩, g3, g4⟩ := hE q0 h1
  obtain ⟨k1, k2⟩ := puKeep_e h2
  show (0 ≤ (if (t : Int) < q0.1 then q0.1 - 1 else q0.1) ∧ (if (t : Int) < q0.1 then q0.1 - 1 else q0.1) < ((n - 1 : Nat) : Int)) ∧ (0 ≤ (if (t : Int) < q0.2 then q0.2 - 1 else q0.2) ∧ (if (t : Int) < q0.2 then q0.2 - 1 else q0.2) < ((n - 1 : Nat) : Int))
  refine ⟨?_, ?_⟩
  · split <;> omega
  · split <;> omega
theorem puLess_t {s s' : Nat → Int} {t n u : Nat} (h : puLess s s' t n) (hu : u < n - 1) : s' (5 + 3 * u) = (if u < t then s (5 + 3 * u) else s (5 + 3 * (u + 1))) ∧ s' (6 + 3 * u) = (if u < t then s (6 + 3 * u) else s (6 + 3 * (u + 1))) ∧ s' (7 + 3 * u) = (if u < t then s (7 + 3 * u) else s (7 + 3 * (u + 1))) := by
  have h0 := h.2.2 u hu 0 (by decide)
  have h1 := h.2.2 u hu 1 (by decide)
  have h2 := h.2.2 u hu 2 (by decide)
  rw [show 6 + 3 * u = 5 + 3 * u + 1 by omega, show 7 + 3 * u = 5 + 3 * u + 2 by omega, show 6 + 3 * (u + 1) = 5 + 3 * (u + 1) + 1 by omega, show 7 + 3 * (u + 1) = 5 + 3 * (u + 1) + 2 by omega]
  exact ⟨h0, h1, h2⟩
/-- a row with other arrows -/
def pvMk (s : Nat → Int) (l : List (Int × Int)) : Nat → Int := fun j => if j < 77 then s j else if j = 77 then (l.length : Int) else match l[(j - 78) / 2]? with
  | some q => if (j - 78) % 2 = 0 then q.1 else q.2
  | none => 0
theorem pvMk_A (s : Nat → Int) (l : List (Int × Int)) : puHA (pvMk s l) l := by
  refine ⟨rfl, fun i q hq => ?_⟩
  unfold pvMk
  rw [if_neg (by omega), if_neg (by omega), if_neg (by omega), if_neg (by omega), show (78 + 2 * i - 78) / 2 = i by omega, show (79 + 2 * i - 78) / 2 = i by omega, hq]
  dsimp only
  rw [if_pos (by omega), if_neg (by omega)]
  exact ⟨rfl, rfl⟩
theorem pvMk_j {s : Nat → Int} {l : List (Int × Int)} {j : Nat} (h : j < 77) : pvMk s l j = s j := if_pos h
/-- a row without task t -/
def pvDel (s : Nat → Int) (t n : Nat) : Nat → Int := fun j => if j = 4 then ((n - 1 : Nat) : Int) else if j < 5 + 3 * t then s j else s (j + 3)
theorem pvDel_less (s : Nat → Int) (l : List (Int × Int)) {t n : Nat} (hn : n ≤ 24) : puLess s (pvMk (pvDel s t n) l) t n := by
  refine ⟨by rw [pvMk_j (by decide)]; exact if_pos rfl, fun i hi => ?_, fun u hu w hw => ?_⟩
  · rw [pvMk_j (by omega)]
    unfold pvDel
    rw [if_neg (by omega), if_pos (by omega)]
  · rw [pvMk_j (by omega)]
    unfold pvDel
    rw [if_neg (by omega)]
    by_cases e : u < t
    · rw [if_pos (by omega), if_pos e]
    · rw [if_neg (by omega), if_neg e]
      congr 1
      omega
def pvHC (σ : gSt) : Prop := ∃ (nx c : Nat) (p : Nat → Nat → Int), puHC σ nx c p
theorem pvHC.same {σ σ' : gSt} (h : pvHC σ) (hk : ∀ k, 27 ≤ k → k ≤ 80 → σ' k = σ k) : pvHC σ' := by
  obtain ⟨nx, c, p, h⟩ := h
  exact ⟨nx, c, p, h.same hk⟩
theorem pv_save {σ : gSt} {s : Nat → Int} (ho : puOk s) (hp : puPl σ 1 s) (h : pvHC σ) : puP (DX3_save 1 σ) (fun σ' => pvHC σ' ∧ puPl σ' 1 s ∧ (∀ k, k < 27 ∨ 80 < k → σ' k = σ k)) := by
  obtain ⟨nx, c, p, h⟩ := h
  exact pu_mono (pu_save ho hp h) (fun σ' q => ⟨⟨_, _, _, q.1⟩, hp.same (fun k a1 a2 => q.2 k (by omega)), q.2⟩)
/-- the class after a call that has made the plan s' -/
def pvOk (σ σ' : gSt) (s' : Nat → Int) : Prop := puOk s' ∧ puCV σ' s' ∧ pvHC σ' ∧ (∀ k, 117 < k → σ' k = σ k)
theorem pv_end {σ σ1 σ2 : gSt} {s' : Nat → Int} (h1 : pvHC σ1) (k1 : ∀ k, k < 27 ∨ 80 < k → σ1 k = σ k) (k2 : ∀ k, 13 < k → σ2 k = σ1 k) (ho : puOk s') (hp : puPl σ2 1 s') : puP (DX8_printAnew σ2) (fun σ' => pvOk σ σ' s') :=
  pu_mono (pu_printAnew ho hp) (fun σ' q => ⟨ho, q.1, h1.same (fun k a1 a2 => by rw [q.2 k (by omega), k2 k (by omega)]), fun k hk => by rw [q.2 k (by omega), k2 k (by omega), k1 k (by omega)]⟩)
section PV1
variable {σ : gSt} {s : Nat → Int}
theorem pv_set (ho : puOk s) (hV : puCV σ s) (hC : pvHC σ) {w : Nat} {v : Int} (c : puRg (w : Int) v) : ∃ σ', DX8_set σ (w : Int) v = some (.inr (s w, σ')) ∧ pvOk σ σ' (puSet s w v) := by
  have hw : w < 4 := by unfold puRg at c; omega
  have hx : gR (w : Int) := ⟨by omega, by omega⟩
  have hy : gR v := by unfold puRg at c; exact ⟨by omega, by omega⟩
  obtain ⟨σ1, e1, h1, hp1, k1⟩ := pv_save ho hV.1 hC
  obtain ⟨σ3, e3, h3⟩ := pv_end (σ := σ) (σ2 := gUp σ1 3 w v) h1 k1 (fun k hk => pu_upK (by omega)) (puOk_set ho c) (puPl_set (v := v) hp1 hw)
  refine ⟨σ3, ?_, h3⟩
  unfold DX8_set DX5_putSetting
  rw [pu_isSetC1 hx hy c, Option.bind_some, pu_ifF (by decide) (by decide) (by decide), e1, Option.bind_some, pu_setting hp1 hw, Option.bind_some, pu_putN hw (by decide), Option.bind_some, Option.bind_some, show gUp σ1 (1 + 1 + 1) w v = gUp σ1 3 w v from rfl, e3, Option.bind_some]
theorem pv_add (ho : puOk s) (hV : puCV σ s) (hC : pvHC σ) {n : Nat} {g f l : Int} (hn4 : s 4 = (n : Int)) (c3 : n < 24) (c : 0 ≤ g ∧ g ≤ 5) (c1 : 0 ≤ f ∧ f ≤ 199) (c2 : 1 ≤ l ∧ l ≤ 60) : ∃ σ', DX8_addTask σ g f l = some (.inr ((n : Int), σ')) ∧ pvOk σ σ' (puAddT s n g f l) := by
  have h77 := ho.arrows
  have hx : gR g := ⟨by omega, by omega⟩
  have hy : gR f := ⟨by omega, by omega⟩
  have hz : gR l := ⟨by omega, by omega⟩
  obtain ⟨σ1, e1, h1, hp1, k1⟩ := pv_save ho hV.1 hC
  obtain ⟨⟨r, σ2⟩, e2, r1, hp2, k2⟩ := pu_tellTask (g := g) (f := f) (l := l) hp1 hn4 c3 h77.2
  have r1 : r = (n : Int) := r1
  have hp2 : puPl σ2 1 (puAddT s n g f l) := hp2
  have k2 : ∀ k, k < 1 ∨ 1 + 12 < k → σ2 k = σ1 k := k2
  obtain ⟨σ3, e3, h3⟩ := pv_end (σ := σ) (σ2 := σ2) h1 k1 (fun k hk => k2 k (by omega)) (puOk_addT ho hn4 c3 c c1 c2) hp2
  refine ⟨σ3, ?_, h3⟩
  unfold DX8_addTask
  rw [pu_ifF hx (by decide) (by omega), pu_ifT hx (by decide) (by omega), pu_isBarC hy hz, Option.bind_some, if_pos ⟨c1, c2⟩, pu_ifF (by decide) (by decide) (by decide), pu_tasks hV.1, Option.bind_some, hn4, pu_ifT ⟨by omega, by omega⟩ (by decide) (by omega), e1, Option.bind_some, e2, Option.bind_some, e3, Option.bind_some, r1]
theorem pv_add24 (hV : puCV σ s) {g f l : Int} (hn4 : s 4 = 24) (c : 0 ≤ g ∧ g ≤ 5) (c1 : 0 ≤ f ∧ f ≤ 199) (c2 : 1 ≤ l ∧ l ≤ 60) : DX8_addTask σ g f l = some (.inl 2) := by
  have hx : gR g := ⟨by omega, by omega⟩
  have hy : gR f := ⟨by omega, by omega⟩
  have hz : gR l := ⟨by omega, by omega⟩
  unfold DX8_addTask
  rw [pu_ifF hx (by decide) (by omega), pu_ifT hx (by decide) (by omega), pu_isBarC hy hz, Option.bind_some, if_pos ⟨c1, c2⟩, pu_ifF (by decide) (by decide) (by decide), pu_tasks hV.1, Option.bind_some, hn4, pu_ifF (by decide) (by decide) (by decide)]
theorem pv_move (ho : puOk s) (hV : puCV σ s) (hC : pvHC σ) {t : Nat} {f l : Int} (ht : (t : Int) < s 4) (c1 : 0 ≤ f ∧ f ≤ 199) (c2 : 1 ≤ l ∧ l ≤ 60) : ∃ σ', DX8_move σ (t : Int) f l = some (.inr (s (6 + 3 * t), σ')) ∧ pvOk σ σ' (puMov s t f l) := by
  have h24 := ho.t24 ht
  have hx : gR (t : Int) := ⟨by omega, by omega⟩
  have hy : gR f := ⟨by omega, by omega⟩
  have hz : gR l := ⟨by omega, by omega⟩
  obtain ⟨σ1, e1, h1, hp1, k1⟩ := pv_save ho hV.1 hC
  obtain ⟨σ3, e3, h3⟩ := pv_end (σ := σ) (σ2 := gUp (gUp σ1 7 t f) 9 t l) h1 k1 (fun k hk => by rw [pu_upK (by omega), pu_upK (by omega)]) (puOk_mov ho ht c1 c2) (puPl_mov (f := f) (l := l) ho hp1 ht)
  refine ⟨σ3, ?_, h3⟩
  unfold DX8_move DX5_putBar
  rw [pu_reqTask ho hV.1 hx, if_pos ⟨by omega, ht⟩, pu_xbR, pu_isBarC hy hz, Option.bind_some, if_pos ⟨c1, c2⟩, pu_ifF (by decide) (by decide) (by decide), e1, Option.bind_some, pu_first ho hp1 ht, Option.bind_some, pu_putN h24 (by decide), Option.bind_some, pu_putN h24 (by decide), Option.bind_some, Option.bind_some, show gUp (gUp σ1 (1 + 5 + 1) t f) (1 + 7 + 1) t l = gUp (gUp σ1 7 t f) 9 t l from rfl, e3, Option.bind_some]
/-- other arrows, the same tasks -/
theorem pv_arrows {σ2 σ1 : gSt} {l l' : List (Int × Int)} (ho : puOk s) (hp1 : puPl σ1 1 s) (hl : l'.length ≤ 30) (hE : puEnds (s 4) l') (hB2 : puHB σ2 1 l') (k2 : ∀ k, k ≠ 1 → k ≠ 11 → k ≠ 13 → σ2 k = σ1 k) (i2 : ∀ i, i ≠ 7 → σ2 1 i = σ1 1 i) : puOk (pvMk s l') ∧ puPl σ2 1 (pvMk s l') := by
  have hj : ∀ j, j < 77 → pvMk s l' j = s j := fun j h => pvMk_j h
  have hA' := pvMk_A s l'
  refine ⟨puOk_mk (l := l') (by rw [hj 0 (by decide)]; exact ho.rows) (by rw [hj 1 (by decide)]; exact ho.days) (by rw [hj 2 (by decide)]; exact ho.keep) (by rw [hj 3 (by decide)]; exact ho.order) (by rw [hj 4 (by decide)]; exact ho.tasks) (fun t ht => ?_) hA' hl (by rw [hj 4 (by decide)]; exact hE), puPl_mk (l := l') ?_ (fun i hi => ?_) (fun t ht => ?_) hA' hB2⟩
  · rw [hj 4 (by decide)] at ht
    have := ho.t24 ht
    rw [hj _ (by omega), hj _ (by omega), hj _ (by omega)]
    exact ⟨ho.g ht, ho.f ht, ho.l ht⟩
  · rw [i2 6 (by decide), hj 4 (by decide)]; exact hp1.1
  · rw [k2 (1 + 2) (by decide) (by decide) (by decide), hj i (by omega)]; exact hp1.2.2.1 i hi
  · rw [hj 4 (by decide)] at ht
    have := ho.t24 ht
    rw [k2 (1 + 4) (by decide) (by decide) (by decide), k2 (1 + 6) (by decide) (by decide) (by decide), k2 (1 + 8) (by decide) (by decide) (by decide), hj _ (by omega), hj _ (by omega), hj _ (by omega)]
    exact hp1.2.2.2.1 t ht
theorem pv_point (ho : puOk s) (hV : puCV σ s) (hC : pvHC σ) {l : List (Int × Int)} (hA : puHA s l) (hl : l.length < 30) (hE : puEnds (s 4) l) {u v : Int} (c : 0 ≤ u ∧ u < s 4) (c2 : 0 ≤ v ∧ v < s 4) (c3 : u ≠ v) (c5 : ¬ puHas l u v l.length = true) : ∃ σ', DX8_addArrow σ u v = some (.inr ((l.length : Int), σ')) ∧ pvOk σ σ' (pvMk s (l ++ [(u, v)])) := by
  have hn := ho.tasks
  have hx : gR u := ⟨by omega, by omega⟩
  have hy : gR v := ⟨by omega, by omega⟩
  have hcC := pu_hasC (puHB_of hV.1 hA) (by omega) hx hy (hE.gR hn.2)
  obtain ⟨σ1, e1, h1, hp1, k1⟩ := pv_save ho hV.1 hC
  obtain ⟨⟨r, σ2⟩, e2, r1, hB2, k2, i2⟩ := pu_tellArrow (puHB_of hp1 hA) hl u v
  have r1 : r = (l.length : Int) := r1
  have hB2 : puHB σ2 1 (l ++ [(u, v)]) := hB2
  have k2 : ∀ k, k ≠ 1 → k ≠ 11 → k ≠ 13 → σ2 k = σ1 k := k2
  have i2 : ∀ i, i ≠ 7 → σ2 1 i = σ1 1 i := i2
  have hE2 : puEnds (s 4) (l ++ [(u, v)]) := fun q hq => by
    rcases List.mem_append.mp hq with hq | hq
    · exact hE q hq
    · rw [List.mem_singleton.mp hq]
      exact ⟨c, c2⟩
  obtain ⟨ho2, hp2⟩ := pv_arrows (l := l) ho hp1 (by rw [List.length_append]; show l.length + 1 ≤ 30; omega) hE2 hB2 k2 i2
  obtain ⟨σ3, e3, h3⟩ := pv_end (σ := σ) (σ2 := σ2) h1 k1 (fun k hk => k2 k (by omega) (by omega) (by omega)) ho2 hp2
  refine ⟨σ3, ?_, h3⟩
  unfold DX8_addArrow
  rw [pu_reqTask ho hV.1 hx, if_pos c, pu_xbR, pu_reqTask ho hV.1 hy, if_pos c2, pu_xbR, pu_ifF hx hy c3, hcC, Option.bind_some, if_neg c5, pu_ifT (by decide) (by decide) rfl, pu_arrows hV.1, Option.bind_some, hA.1, pu_ifT ⟨by omega, by omega⟩ (by decide) (by omega), e1, Option.bind_some, e2, Option.bind_some, e3, Option.bind_some, r1]
theorem pv_pointE (ho : puOk s) (hV : puCV σ s) {u : Int} (c : 0 ≤ u ∧ u < s 4) : DX8_addArrow σ u u = some (.inl 1) := by
  have hn := ho.tasks
  have hx : gR u := ⟨by omega, by omega⟩
  unfold DX8_addArrow
  rw [pu_reqTask ho hV.1 hx, if_pos c, pu_xbR, pu_xbR, pu_ifT hx hx rfl]
theorem pv_pointF (ho : puOk s) (hV : puCV σ s) {l : List (Int × Int)} (hA : puHA s l) (hl : l.length ≤ 30) (hE : puEnds (s 4) l) {u v : Int} (c : 0 ≤ u ∧ u < s 4) (c2 : 0 ≤ v ∧ v < s 4) (c3 : u ≠ v) (c4 : puHas l u v l.length = true ∨ l.length = 30) : DX8_addArrow σ u v = some (.inl 2) := by
  have hn := ho.tasks
  have hx : gR u := ⟨by omega, by omega⟩
  have hy : gR v := ⟨by omega, by omega⟩
  have hcC := pu_hasC (puHB_of hV.1 hA) hl hx hy (hE.gR hn.2)
  unfold DX8_addArrow DX8_addArrow_J49
  rw [pu_reqTask ho hV.1 hx, if_pos c, pu_xbR, pu_reqTask ho hV.1 hy, if_pos c2, pu_xbR, pu_ifF hx hy c3, hcC, Option.bind_some]
  by_cases c5 : puHas l u v l.length = true
  · rw [if_pos c5, pu_ifF (by decide) (by decide) (by decide)]
  · rw [if_neg c5, pu_ifT (by decide) (by decide) rfl, pu_arrows hV.1, Option.bind_some, hA.1]
    have : l.length = 30 := c4.elim (fun z => absurd z c5) id
    rw [pu_ifF ⟨by omega, by omega⟩ (by decide) (by omega)]
theorem pv_unpoint (ho : puOk s) (hV : puCV σ s) (hC : pvHC σ) {l : List (Int × Int)} (hA : puHA s l) (hl : l.length ≤ 30) (hE : puEnds (s 4) l) {a : Nat} (ha : a < l.length) : ∃ σ', DX8_removeArrow σ (a : Int) = some (.inr ((l.length : Int) - 1, σ')) ∧ pvOk σ σ' (pvMk s (l.eraseIdx a)) := by
  have hx : gR (a : Int) := ⟨by omega, by omega⟩
  have c : 0 ≤ (a : Int) ∧ (a : Int) < s 77 := by rw [hA.1]; omega
  obtain ⟨σ1, e1, h1, hp1, k1⟩ := pv_save ho hV.1 hC
  obtain ⟨σ2, e2, hB2, k2, i2⟩ := pu_dropC (puHB_of hp1 hA) hl ha
  obtain ⟨ho2, hp2⟩ := pv_arrows (l := l) ho hp1 (by rw [List.length_eraseIdx_of_lt ha]; omega) (hE.erase a) hB2 k2 i2
  obtain ⟨σ3, e3, h3⟩ := pv_end (σ := σ) (σ2 := σ2) h1 k1 (fun k hk => k2 k (by omega) (by omega) (by omega)) ho2 hp2
  refine ⟨σ3, ?_, h3⟩
  unfold DX8_removeArrow
  rw [pu_reqArrow ho hV.1 hx, if_pos c, pu_xbR, e1, Option.bind_some, e2, Option.bind_some, e3, Option.bind_some, pu_arrows h3.2.1.1, Option.bind_some, (pvMk_A s (l.eraseIdx a)).1, puErase_len ha]
theorem pv_unpointX (ho : puOk s) (hV : puCV σ s) {v : Int} (hv : gR v) (c : ¬ (0 ≤ v ∧ v < s 77)) : DX8_removeArrow σ v = some (.inl 3) := by
  unfold DX8_removeArrow
  rw [pu_reqArrow ho hV.1 hv, if_neg c, pu_xbL]
theorem pv_drop (ho : puOk s) (hV : puCV σ s) (hC : pvHC σ) {l : List (Int × Int)} (hA : puHA s l) (hl : l.length ≤ 30) {t n : Nat} (hn4 : s 4 = (n : Int)) (htn : t < n) (hE : puEnds (n : Int) l) : ∃ σ', DX8_removeTask σ (t : Int) = some (.inr ((l.length : Int) - ((l.filter (puKeep (t : Int))).length : Int), σ')) ∧ pvOk σ σ' (pvMk (pvDel s t n) ((l.filter (puKeep (t : Int))).map (puRen (t : Int)))) := by
  have hn := ho.tasks
  have hx : gR (t : Int) := ⟨by omega, by omega⟩
  obtain ⟨σ1, e1, h1, hp1, k1⟩ := pv_save ho hV.1 hC
  obtain ⟨⟨r, σ2⟩, e2, r1, hB2, d6, d3, dT, k2⟩ := pu_rmC hp1 hA hl hn4 (by omega) htn hE
  have r1 : r = (l.length : Int) - ((l.filter (puKeep (t : Int))).length : Int) := r1
  have hB2 : puHB σ2 1 ((l.filter (puKeep (t : Int))).map (puRen (t : Int))) := hB2
  have d6 : σ2 1 6 = ((n - 1 : Nat) : Int) := d6
  have d3 : σ2 3 = σ1 3 := d3
  have dT : ∀ u : Nat, u < n - 1 → σ2 5 u = (if u < t then σ1 5 u else σ1 5 (u + 1)) ∧ σ2 7 u = (if u < t then σ1 7 u else σ1 7 (u + 1)) ∧ σ2 9 u = (if u < t then σ1 9 u else σ1 9 (u + 1)) := dT
  have k2 : ∀ k, 13 < k → σ2 k = σ1 k := k2
  have hLl : ((l.filter (puKeep (t : Int))).map (puRen (t : Int))).length ≤ 30 := by
    have := List.length_filter_le (puKeep (t : Int)) l
    rw [List.length_map]
    omega
  have hA' := pvMk_A (pvDel s t n) ((l.filter (puKeep (t : Int))).map (puRen (t : Int)))
  have hL := pvDel_less s ((l.filter (puKeep (t : Int))).map (puRen (t : Int))) (t := t) (n := n) (by omega)
  generalize pvMk (pvDel s t n) ((l.filter (puKeep (t : Int))).map (puRen (t : Int))) = s' at hA' hL ⊢
  have hmk : puOk s' ∧ puPl σ2 1 s' := by
    refine ⟨puOk_mk (l := (l.filter (puKeep (t : Int))).map (puRen (t : Int))) (by rw [hL.2.1 0 (by decide)]; exact ho.rows) (by rw [hL.2.1 1 (by decide)]; exact ho.days) (by rw [hL.2.1 2 (by decide)]; exact ho.keep) (by rw [hL.2.1 3 (by decide)]; exact ho.order) (by rw [hL.1]; omega) (fun u hu => ?_) hA' hLl (by rw [hL.1]; exact puEnds_ren hE htn), puPl_mk (l := (l.filter (puKeep (t : Int))).map (puRen (t : Int))) (by rw [d6, hL.1]) (fun i hi => ?_) (fun u hu => ?_) hA' hB2⟩
    · rw [hL.1] at hu
      obtain ⟨g1, g2, g3⟩ := puLess_t hL (u := u) (by omega)
      rw [g1, g2, g3]
      by_cases e : u < t
      · rw [if_pos e, if_pos e, if_pos e]
        exact ⟨ho.g (by omega), ho.f (by omega), ho.l (by omega)⟩
      · rw [if_neg e, if_neg e, if_neg e]
        exact ⟨ho.g (t := u + 1) (by omega), ho.f (t := u + 1) (by omega), ho.l (t := u + 1) (by omega)⟩
    · rw [hL.2.1 i hi]
      show σ2 3 i = _
      rw [d3]
      exact hp1.2.2.1 i hi
    · rw [hL.1] at hu
      obtain ⟨g1, g2, g3⟩ := puLess_t hL (u := u) (by omega)
      obtain ⟨b1, b2, b3⟩ := dT u (by omega)
      show σ2 5 u = _ ∧ σ2 7 u = _ ∧ σ2 9 u = _
      rw [g1, g2, g3, b1, b2, b3]
      by_cases e : u < t
      · rw [if_pos e, if_pos e, if_pos e, if_pos e, if_pos e, if_pos e]
        exact hp1.2.2.2.1 u (by omega)
      · rw [if_neg e, if_neg e, if_neg e, if_neg e, if_neg e, if_neg e]
        exact hp1.2.2.2.1 (u + 1) (by omega)
  obtain ⟨σ3, e3, h3⟩ := pv_end (σ := σ) (σ2 := σ2) h1 k1 k2 hmk.1 hmk.2
  refine ⟨σ3, ?_, h3⟩
  unfold DX8_removeTask
  rw [pu_reqTask ho hV.1 hx, if_pos ⟨by omega, by omega⟩, pu_xbR, e1, Option.bind_some, e2, Option.bind_some, e3, Option.bind_some, r1]
end PV1
