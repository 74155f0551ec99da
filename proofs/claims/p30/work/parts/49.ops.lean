/-! calls that change the plan: set, addTask, move, addArrow -/
theorem puSet_e {s : Nat → Int} {i : Nat} {v : Int} : puSet s i v i = v := by
  show (if i = i then v else s i) = v
  rw [if_pos rfl]
theorem puSet_n {s : Nat → Int} {i j : Nat} {v : Int} (h : j ≠ i) : puSet s i v j = s j := by
  show (if j = i then v else s j) = s j
  rw [if_neg h]
theorem pu_fin {σ σ1 σ2 σ3 : gSt} {nx c : Nat} {p : Nat → Nat → Int} (hI : puInv σ) (hC1 : puHC σ1 nx c p) (k1 : ∀ k, k < 27 ∨ 80 < k → σ1 k = σ k) (k2 : ∀ k, 13 < k → σ2 k = σ1 k) (k3 : ∀ k, k < 87 ∨ 117 < k → σ3 k = σ2 k) : puHC σ3 nx c p ∧ puTx σ3 ∧ (∀ k, 117 < k → σ3 k = σ k) :=
  ⟨hC1.same (fun k a1 a2 => by rw [k3 k (by omega), k2 k (by omega)]), hI.2.2.2.same (fun k q => by rw [k3 k (by omega), k2 k (by omega), k1 k (by omega)]) (by rw [k3 136 (by omega), k2 136 (by omega), k1 136 (by omega)]), fun k hk => by rw [k3 k (by omega), k2 k (by omega), k1 k (by omega)]⟩
theorem puOk_set {s : Nat → Int} (ho : puOk s) {w : Nat} {v : Int} (h : puRg (w : Int) v) : puOk (puSet s w v) := by
  have hw : w < 4 := by unfold puRg at h; omega
  have key : ∀ j, j ≠ w → puSet s w v j = s j := fun j hj => puSet_n hj
  have h6 : ∀ t : Nat, (t : Int) < puSet s w v 4 → (0 ≤ puSet s w v (5 + 3 * t) ∧ puSet s w v (5 + 3 * t) ≤ 5) ∧ (0 ≤ puSet s w v (6 + 3 * t) ∧ puSet s w v (6 + 3 * t) ≤ 199) ∧ (1 ≤ puSet s w v (7 + 3 * t) ∧ puSet s w v (7 + 3 * t) ≤ 60) := fun t ht => by
    rw [key 4 (by omega)] at ht
    rw [key _ (by omega), key _ (by omega), key _ (by omega)]
    exact ⟨ho.g ht, ho.f ht, ho.l ht⟩
  have h7 : ∀ a : Nat, (a : Int) < puSet s w v 77 → (0 ≤ puSet s w v (78 + 2 * a) ∧ puSet s w v (78 + 2 * a) < puSet s w v 4) ∧ (0 ≤ puSet s w v (79 + 2 * a) ∧ puSet s w v (79 + 2 * a) < puSet s w v 4) := fun a ha => by
    rw [key 77 (by omega)] at ha
    rw [key (78 + 2 * a) (by omega), key (79 + 2 * a) (by omega), key 4 (by omega)]
    exact ⟨ho.fr ha, ho.to ha⟩
  have h4 : 0 ≤ puSet s w v 4 ∧ puSet s w v 4 ≤ 24 := by rw [key 4 (by omega)]; exact ho.tasks
  have h77 : 0 ≤ puSet s w v 77 ∧ puSet s w v 77 ≤ 30 := by rw [key 77 (by omega)]; exact ho.arrows
  rcases h with ⟨q, h⟩ | ⟨q, h⟩ | ⟨q, h⟩ | ⟨q, h⟩
  · have e : w = 0 := by omega
    subst e
    exact ⟨by rw [puSet_e]; exact h, by rw [key 1 (by omega)]; exact ho.days, by rw [key 2 (by omega)]; exact ho.keep, by rw [key 3 (by omega)]; exact ho.order, h4, h77, h6, h7⟩
  · have e : w = 1 := by omega
    subst e
    exact ⟨by rw [key 0 (by omega)]; exact ho.rows, by rw [puSet_e]; exact h, by rw [key 2 (by omega)]; exact ho.keep, by rw [key 3 (by omega)]; exact ho.order, h4, h77, h6, h7⟩
  · have e : w = 2 := by omega
    subst e
    exact ⟨by rw [key 0 (by omega)]; exact ho.rows, by rw [key 1 (by omega)]; exact ho.days, by rw [puSet_e]; exact h, by rw [key 3 (by omega)]; exact ho.order, h4, h77, h6, h7⟩
  · have e : w = 3 := by omega
    subst e
    exact ⟨by rw [key 0 (by omega)]; exact ho.rows, by rw [key 1 (by omega)]; exact ho.days, by rw [key 2 (by omega)]; exact ho.keep, by rw [puSet_e]; exact h, h4, h77, h6, h7⟩
theorem puPl_set {σ : gSt} {s : Nat → Int} (hp : puPl σ 1 s) {w : Nat} {v : Int} (hw : w < 4) : puPl (gUp σ 3 w v) 1 (puSet s w v) := by
  have key : ∀ j, j ≠ w → puSet s w v j = s j := fun j hj => puSet_n hj
  have hK : ∀ k, k ≠ 3 → gUp σ 3 w v k = σ k := fun k hk => pu_upK hk
  refine ⟨by rw [hK 1 (by decide), key 4 (by omega)]; exact hp.1, by rw [hK 1 (by decide), key 77 (by omega)]; exact hp.2.1, fun i hi => ?_, fun t ht => ?_, fun a ha => ?_⟩
  · show gUp σ 3 w v 3 i = _
    rw [puSet_up]
    by_cases e : i = w
    · rw [e, puSet_e, puSet_e]
    · rw [puSet_n e, puSet_n e]
      exact hp.2.2.1 i hi
  · rw [key 4 (by omega)] at ht
    rw [hK (1 + 4) (by decide), hK (1 + 6) (by decide), hK (1 + 8) (by decide), key _ (by omega), key _ (by omega), key _ (by omega)]
    exact hp.2.2.2.1 t ht
  · rw [key 77 (by omega)] at ha
    rw [hK (1 + 10) (by decide), hK (1 + 12) (by decide), key _ (by omega), key _ (by omega)]
    exact hp.2.2.2.2 a ha
/-! a bar's range -/
theorem pu_isBarC {σ : gSt} {f l : Int} (hf : gR f) (hl : gR l) : DX8_isBar σ f l = some (if (0 ≤ f ∧ f ≤ 199) ∧ 1 ≤ l ∧ l ≤ 60 then 1 else 0) := by
  unfold DX8_isBar
  rw [pu_ite hf (by decide), pu_ite hf (by decide), pu_ite hl (by decide), pu_ite hl (by decide), pu_bo (Or.inl rfl), pu_bo (Or.inr rfl)]
  by_cases a : f < 0
  · rw [if_pos a, if_neg (by omega)]
  · rw [if_neg a]
    by_cases b : 199 < f
    · rw [if_pos b, if_neg (by omega)]
    · rw [if_neg b]
      by_cases c : l < 1
      · rw [if_pos c, if_neg (by omega)]
      · rw [if_neg c]
        by_cases d : 60 < l
        · rw [if_pos d, if_neg (by omega)]
        · rw [if_neg d, if_pos (by omega)]
/-! addTask -/
def puAddT (s : Nat → Int) (n : Nat) (g f l : Int) : Nat → Int := puSet (puSet (puSet (puSet s (5 + 3 * n) g) (6 + 3 * n) f) (7 + 3 * n) l) 4 ((n : Int) + 1)
theorem puAddT_o {s : Nat → Int} {n : Nat} {g f l : Int} {j : Nat} (h1 : j ≠ 4) (h2 : j < 5 + 3 * n ∨ 7 + 3 * n < j) : puAddT s n g f l j = s j := by
  unfold puAddT
  rw [puSet_n h1, puSet_n (by omega), puSet_n (by omega), puSet_n (by omega)]
theorem puAddT_4 {s : Nat → Int} {n : Nat} {g f l : Int} : puAddT s n g f l 4 = (n : Int) + 1 := puSet_e
theorem puAddT_n {s : Nat → Int} {n : Nat} {g f l : Int} : puAddT s n g f l (5 + 3 * n) = g ∧ puAddT s n g f l (6 + 3 * n) = f ∧ puAddT s n g f l (7 + 3 * n) = l := by
  unfold puAddT
  refine ⟨?_, ?_, ?_⟩
  · rw [puSet_n (by omega), puSet_n (by omega), puSet_n (by omega), puSet_e]
  · rw [puSet_n (by omega), puSet_n (by omega), puSet_e]
  · rw [puSet_n (by omega), puSet_e]
theorem puOk_addT {s : Nat → Int} (ho : puOk s) {n : Nat} {g f l : Int} (hn : s 4 = (n : Int)) (hn2 : n < 24) (hg : 0 ≤ g ∧ g ≤ 5) (hf : 0 ≤ f ∧ f ≤ 199) (hl : 1 ≤ l ∧ l ≤ 60) : puOk (puAddT s n g f l) := by
  have h77 := ho.arrows
  refine ⟨?_, ?_, ?_, ?_, ?_, ?_, fun t ht => ?_, fun a ha => ?_⟩
  · rw [puAddT_o (by decide) (by omega)]; exact ho.rows
  · rw [puAddT_o (by decide) (by omega)]; exact ho.days
  · rw [puAddT_o (by decide) (by omega)]; exact ho.keep
  · rw [puAddT_o (by decide) (by omega)]; exact ho.order
  · rw [puAddT_4]; omega
  · rw [puAddT_o (by decide) (by omega)]; exact ho.arrows
  · rw [puAddT_4] at ht
    by_cases e : t = n
    · subst e
      rw [puAddT_n.1, puAddT_n.2.1, puAddT_n.2.2]
      exact ⟨hg, hf, hl⟩
    · have ht : (t : Int) < s 4 := by omega
      rw [puAddT_o (by omega) (by omega), puAddT_o (by omega) (by omega), puAddT_o (by omega) (by omega)]
      exact ⟨ho.g ht, ho.f ht, ho.l ht⟩
  · rw [puAddT_o (by decide) (by omega)] at ha
    rw [puAddT_o (j := 78 + 2 * a) (by omega) (by omega), puAddT_o (j := 79 + 2 * a) (by omega) (by omega), puAddT_4]
    have := ho.fr ha
    have := ho.to ha
    omega
theorem pu_tellTask {σ : gSt} {b : Nat} {s : Nat → Int} (hp : puPl σ b s) {n : Nat} {g f l : Int} (hn : s 4 = (n : Int)) (hn2 : n < 24) (h77 : s 77 ≤ 30) : puP (DX5_tellTask b σ g f l) (fun r => r.1 = (n : Int) ∧ puPl r.2 b (puAddT s n g f l) ∧ (∀ k, k < b ∨ b + 12 < k → r.2 k = σ k)) := by
  have e6 : σ b 6 = (n : Int) := by rw [hp.1, hn]
  unfold DX5_tellTask DX5_putBar
  rw [e6, pu_ifT ⟨by omega, by omega⟩ (by decide) (by omega), pu_putN hn2 (by decide), Option.bind_some, show gUp σ (b + 3 + 1) n g b 6 = (n : Int) by rw [pu_upK (by omega), e6], pu_putN hn2 (by decide), Option.bind_some, pu_putN hn2 (by decide), Option.bind_some, Option.bind_some]
  have hK : ∀ k, k ≠ b + 4 → k ≠ b + 6 → k ≠ b + 8 → gUp (gUp (gUp σ (b + 3 + 1) n g) (b + 5 + 1) n f) (b + 7 + 1) n l k = σ k := fun k k1 k2 k3 => by rw [pu_upK k3, pu_upK k2, pu_upK k1]
  have hb6 : gUp (gUp (gUp σ (b + 3 + 1) n g) (b + 5 + 1) n f) (b + 7 + 1) n l b 6 = (n : Int) := by rw [hK b (by omega) (by omega) (by omega), e6]
  rw [hb6, pu_upE]
  refine pu_some ⟨by show (n : Int) + 1 - 1 = (n : Int); omega, ⟨?_, ?_, fun i hi => ?_, fun t ht => ?_, fun a ha => ?_⟩, fun k hk => ?_⟩
  · show gUp _ b 6 ((n : Int) + 1) b 6 = _
    rw [pu_upE, puAddT_4]
  · show gUp _ b 6 ((n : Int) + 1) b 7 = _
    rw [pu_upI (by decide), hK b (by omega) (by omega) (by omega), hp.2.1, puAddT_o (by decide) (by omega)]
  · show gUp _ b 6 ((n : Int) + 1) (b + 2) i = _
    rw [pu_upK (by omega), hK (b + 2) (by omega) (by omega) (by omega), puAddT_o (by omega) (by omega)]
    exact hp.2.2.1 i hi
  · rw [puAddT_4] at ht
    show gUp (gUp (gUp (gUp σ (b + 3 + 1) n g) (b + 5 + 1) n f) (b + 7 + 1) n l) b 6 ((n : Int) + 1) (b + 4) t = _ ∧ gUp (gUp (gUp (gUp σ (b + 3 + 1) n g) (b + 5 + 1) n f) (b + 7 + 1) n l) b 6 ((n : Int) + 1) (b + 6) t = _ ∧ gUp (gUp (gUp (gUp σ (b + 3 + 1) n g) (b + 5 + 1) n f) (b + 7 + 1) n l) b 6 ((n : Int) + 1) (b + 8) t = _
    rw [pu_upK (k' := b + 4) (by omega), pu_upK (k' := b + 4) (by omega), pu_upK (k' := b + 4) (by omega), pu_upK (k' := b + 6) (by omega), pu_upK (k' := b + 6) (by omega), pu_upK (k' := b + 8) (by omega)]
    by_cases e : t = n
    · subst e
      rw [puAddT_n.1, puAddT_n.2.1, puAddT_n.2.2]
      exact ⟨pu_upE _ _ _ _, pu_upE _ _ _ _, pu_upE _ _ _ _⟩
    · have ht : (t : Int) < s 4 := by omega
      rw [pu_upI e, pu_upI e, pu_upI e, pu_upI e, pu_upI e, pu_upI e, puAddT_o (by omega) (by omega), puAddT_o (by omega) (by omega), puAddT_o (by omega) (by omega)]
      exact hp.2.2.2.1 t ht
  · rw [puAddT_o (by decide) (by omega)] at ha
    show gUp (gUp (gUp (gUp σ (b + 3 + 1) n g) (b + 5 + 1) n f) (b + 7 + 1) n l) b 6 ((n : Int) + 1) (b + 10) a = _ ∧ gUp (gUp (gUp (gUp σ (b + 3 + 1) n g) (b + 5 + 1) n f) (b + 7 + 1) n l) b 6 ((n : Int) + 1) (b + 12) a = _
    rw [pu_upK (k' := b + 10) (by omega), hK (b + 10) (by omega) (by omega) (by omega), pu_upK (k' := b + 12) (by omega), hK (b + 12) (by omega) (by omega) (by omega), puAddT_o (by omega) (by omega), puAddT_o (by omega) (by omega)]
    exact hp.2.2.2.2 a ha
  · show gUp _ b 6 ((n : Int) + 1) k = _
    rw [pu_upK (by omega), hK k (by omega) (by omega) (by omega)]
/-! move -/
def puMov (s : Nat → Int) (t : Nat) (f l : Int) : Nat → Int := puSet (puSet s (6 + 3 * t) f) (7 + 3 * t) l
theorem puMov_o {s : Nat → Int} {t : Nat} {f l : Int} {j : Nat} (h1 : j ≠ 6 + 3 * t) (h2 : j ≠ 7 + 3 * t) : puMov s t f l j = s j := by
  unfold puMov
  rw [puSet_n h2, puSet_n h1]
theorem puMov_n {s : Nat → Int} {t : Nat} {f l : Int} : puMov s t f l (6 + 3 * t) = f ∧ puMov s t f l (7 + 3 * t) = l := by
  unfold puMov
  exact ⟨by rw [puSet_n (by omega), puSet_e], puSet_e⟩
theorem puOk_mov {s : Nat → Int} (ho : puOk s) {t : Nat} {f l : Int} (ht : (t : Int) < s 4) (hf : 0 ≤ f ∧ f ≤ 199) (hl : 1 ≤ l ∧ l ≤ 60) : puOk (puMov s t f l) := by
  have h24 := ho.t24 ht
  refine ⟨?_, ?_, ?_, ?_, ?_, ?_, fun u hu => ?_, fun a ha => ?_⟩
  · rw [puMov_o (by omega) (by omega)]; exact ho.rows
  · rw [puMov_o (by omega) (by omega)]; exact ho.days
  · rw [puMov_o (by omega) (by omega)]; exact ho.keep
  · rw [puMov_o (by omega) (by omega)]; exact ho.order
  · rw [puMov_o (by omega) (by omega)]; exact ho.tasks
  · rw [puMov_o (by omega) (by omega)]; exact ho.arrows
  · rw [puMov_o (by omega) (by omega)] at hu
    rw [puMov_o (j := 5 + 3 * u) (by omega) (by omega)]
    by_cases e : u = t
    · subst e
      rw [puMov_n.1, puMov_n.2]
      exact ⟨ho.g hu, hf, hl⟩
    · rw [puMov_o (by omega) (by omega), puMov_o (by omega) (by omega)]
      exact ⟨ho.g hu, ho.f hu, ho.l hu⟩
  · rw [puMov_o (by omega) (by omega)] at ha
    rw [puMov_o (j := 78 + 2 * a) (by omega) (by omega), puMov_o (j := 79 + 2 * a) (by omega) (by omega), puMov_o (j := 4) (by omega) (by omega)]
    exact ⟨ho.fr ha, ho.to ha⟩
theorem puPl_mov {σ : gSt} {s : Nat → Int} (ho : puOk s) (hp : puPl σ 1 s) {t : Nat} {f l : Int} (ht : (t : Int) < s 4) : puPl (gUp (gUp σ 7 t f) 9 t l) 1 (puMov s t f l) := by
  have h24 := ho.t24 ht
  have hK : ∀ k, k ≠ 7 → k ≠ 9 → gUp (gUp σ 7 t f) 9 t l k = σ k := fun k k1 k2 => by rw [pu_upK k2, pu_upK k1]
  refine ⟨?_, ?_, fun i hi => ?_, fun u hu => ?_, fun a ha => ?_⟩
  · rw [hK 1 (by decide) (by decide), puMov_o (by omega) (by omega)]; exact hp.1
  · rw [hK 1 (by decide) (by decide), puMov_o (by omega) (by omega)]; exact hp.2.1
  · rw [hK (1 + 2) (by decide) (by decide), puMov_o (by omega) (by omega)]; exact hp.2.2.1 i hi
  · rw [puMov_o (by omega) (by omega)] at hu
    obtain ⟨g1, g2, g3⟩ := hp.2.2.2.1 u hu
    rw [hK (1 + 4) (by decide) (by decide), puMov_o (j := 5 + 3 * u) (by omega) (by omega), pu_upK (k' := 1 + 6) (by decide)]
    refine ⟨g1, ?_, ?_⟩
    · show gUp σ 7 t f 7 u = _
      by_cases e : u = t
      · subst e
        rw [pu_upE, puMov_n.1]
      · rw [pu_upI e, puMov_o (by omega) (by omega)]
        exact g2
    · show gUp (gUp σ 7 t f) 9 t l 9 u = _
      by_cases e : u = t
      · subst e
        rw [pu_upE, puMov_n.2]
      · rw [pu_upI e, pu_upK (by decide), puMov_o (by omega) (by omega)]
        exact g3
  · rw [puMov_o (by omega) (by omega)] at ha
    rw [hK (1 + 10) (by decide) (by decide), hK (1 + 12) (by decide) (by decide), puMov_o (j := 78 + 2 * a) (by omega) (by omega), puMov_o (j := 79 + 2 * a) (by omega) (by omega)]
    exact hp.2.2.2.2 a ha
