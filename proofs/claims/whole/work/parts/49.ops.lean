/-! calls that change the plan: set, addTask, move, addArrow -/
theorem puSet_e {s : Nat → Int} {i : Nat} {v : Int} : puSet s i v i = v := by
  show (if i = i then v else s i) = v
  rw [if_pos rfl]
theorem puSet_n {s : Nat → Int} {i j : Nat} {v : Int} (h : j ≠ i) : puSet s i v j = s j := by
  show (if j = i then v else s j) = s j
  rw [if_neg h]
theorem pu_fin {σ σ1 σ2 σ3 : gSt} {nx c : Nat} {p : Nat → Nat → Int} (hI : puInv σ) (hC1 : puHC σ1 nx c p) (k1 : ∀ k, k < 27 ∨ 80 < k → σ1 k = σ k) (k2 : ∀ k, 13 < k → σ2 k = σ1 k) (k3 : ∀ k, k < 87 ∨ 117 < k → σ3 k = σ2 k) : puHC σ3 nx c p ∧ puTx σ3 ∧ (∀ k, 117 < k → σ3 k = σ k) :=
  ⟨hC1.same (fun k a1 a2 => by rw [k3 k (by omega), k2 k (by omega)]), hI.2.2.2.same (fun k q => by rw [k3 k (by omega), k2 k (by omega), k1 k (by omega)]) (by rw [k3 136 (by omega), k2 136 (by omega), k1 136 (by omega)]), fun k hk => by rw [k3 k (by omega), k2 k (by omega), k1 k (by omega)]⟩
theorem pu_refEnd {σ σ3 τ2 : gSt} {s s' : Nat → Int} {nx c : Nat} {p : Nat → Nat → Int} (ho' : puOk s') (hV : puCV σ3 s') (hc : c ≤ 4) (hC : puHC σ3 nx (puCt c) (puPush c s p)) (ht : puTx σ3) (kσ : ∀ k, 117 < k → σ3 k = σ k) (hR : puHR σ c p) (h139 : ∀ i : Nat, i < 138 → τ2 139 i = s i) (hK : ∀ k, k ≠ 137 → k ≠ 139 → τ2 k = σ3 k) (h137 : τ2 137 = s') (v : Int) : ∃ τ3, DX9_ends τ2 v = some (v, gUp τ3 136 6 0) ∧ puInv (gUp τ3 136 6 0) := by
  have hR2 : puHR τ2 c p := ⟨by rw [hK 136 (by decide) (by decide), kσ 136 (by decide)]; exact hR.1, fun k hk i hi => by rw [hK 138 (by decide) (by decide), kσ 138 (by decide)]; exact hR.2 k hk i hi⟩
  obtain ⟨τ3, e1, e2, e3, e4⟩ := pu_ends hc hR2 h139 v
  refine ⟨τ3, e1, puInv_op (σ1 := σ3) ho' hV hC ht (by rw [e3 137 (by decide) (by decide), h137]) e2 (fun k k1 k2 k3 k4 => by rw [e3 k k1 k3, hK k k2 k4]) (fun i hi => by rw [e4 i hi, hK 136 (by decide) (by decide)])⟩
theorem puOk_set {s : Nat → Int} (ho : puOk s) {w : Nat} {v : Int} (h : puRg (w : Int) v) : puOk (puSet s w v) := by
  have hw : w < 4 := by unfold puRg at h; omega
  have key : ∀ j, j ≠ w → puSet s w v j = s j := fun j hj => puSet_n hj
  have h6 : ∀ t : Nat, (t : Int) < puSet s w v 4 → (0 ≤ puSet s w v (5 + 3 * t) ∧ puSet s w v (5 + 3 * t) ≤ 5) ∧ (0 ≤ puSet s w v (6 + 3 * t) ∧ puSet s w v (6 + 3 * t) ≤ 199) ∧ (1 ≤ puSet s w v (7 + 3 * t) ∧ puSet s w v (7 + 3 * t) ≤ 60) := fun t ht => by
    rw [key 4 (by omega)] at ht
    rw [key _ (by omega), key _ (by omega), key _ (by omega)]
    exact ⟨ho.g ht, ho.f ht, ho.l ht⟩
  have h7 : ∀ a : Nat, (a : Int) < puSet s w v 77 → (0 ≤ puSet s w v (78 + 2 * a) ∧ puSet s w v (78 + 2 * a) < puSet s w v 4) ∧ (0 ≤ puSet s w v (79 + 2 * a) ∧ puSet s w v (79 + 2 * a) < puSet s w v 4) := fun a ha => by
    rw [key 77 (by omega)] at ha
    rw [key (78 + 2 * a) (by omega), key (79 + 2 * a) (by omega), key 4 (by omega)]
    exact ⟨ho.fr ha, ho.to ha⟩
  have h4 : 0 ≤ puSet s w v 4 ∧ puSet s w v 4 ≤ 24 := by rw [key 4 (by omega)]; exact ho.tasks
  have h77 : 0 ≤ puSet s w v 77 ∧ puSet s w v 77 ≤ 30 := by rw [key 77 (by omega)]; exact ho.arrows
  rcases h with ⟨q, h⟩ | ⟨q, h⟩ | ⟨q, h⟩ | ⟨q, h⟩
  · have e : w = 0 := by omega
    subst e
    exact ⟨by rw [puSet_e]; exact h, by rw [key 1 (by omega)]; exact ho.days, by rw [key 2 (by omega)]; exact ho.keep, by rw [key 3 (by omega)]; exact ho.order, h4, h77, h6, h7⟩
  · have e : w = 1 := by omega
    subst e
    exact ⟨by rw [key 0 (by omega)]; exact ho.rows, by rw [puSet_e]; exact h, by rw [key 2 (by omega)]; exact ho.keep, by rw [key 3 (by omega)]; exact ho.order, h4, h77, h6, h7⟩
  · have e : w = 2 := by omega
    subst e
    exact ⟨by rw [key 0 (by omega)]; exact ho.rows, by rw [key 1 (by omega)]; exact ho.days, by rw [puSet_e]; exact h, by rw [key 3 (by omega)]; exact ho.order, h4, h77, h6, h7⟩
  · have e : w = 3 := by omega
    subst e
    exact ⟨by rw [key 0 (by omega)]; exact ho.rows, by rw [key 1 (by omega)]; exact ho.days, by rw [key 2 (by omega)]; exact ho.keep, by rw [puSet_e]; exact h, h4, h77, h6, h7⟩
theorem puPl_set {σ : gSt} {s : Nat → Int} (hp : puPl σ 1 s) {w : Nat} {v : Int} (hw : w < 4) : puPl (gUp σ 3 w v) 1 (puSet s w v) := by
  have key : ∀ j, j ≠ w → puSet s w v j = s j := fun j hj => puSet_n hj
  have hK : ∀ k, k ≠ 3 → gUp σ 3 w v k = σ k := fun k hk => pu_upK hk
  refine ⟨by rw [hK 1 (by decide), key 4 (by omega)]; exact hp.1, by rw [hK 1 (by decide), key 77 (by omega)]; exact hp.2.1, fun i hi => ?_, fun t ht => ?_, fun a ha => ?_⟩
  · show gUp σ 3 w v 3 i = _
    rw [puSet_up]
    by_cases e : i = w
    · rw [e, puSet_e, puSet_e]
    · rw [puSet_n e, puSet_n e]
      exact hp.2.2.1 i hi
  · rw [key 4 (by omega)] at ht
    rw [hK (1 + 4) (by decide), hK (1 + 6) (by decide), hK (1 + 8) (by decide), key _ (by omega), key _ (by omega), key _ (by omega)]
    exact hp.2.2.2.1 t ht
  · rw [key 77 (by omega)] at ha
    rw [hK (1 + 10) (by decide), hK (1 + 12) (by decide), key _ (by omega), key _ (by omega)]
    exact hp.2.2.2.2 a ha
theorem pu_0 {σ : gSt} {μ : gLg} (xs : Nat → Int32) (j : Nat) (hI : puInv σ) : puP (DL_c0 xs j σ μ) (fun r => puInv r.1) := by
  unfold DL_c0
  have hx := gR_x (xs (Int.toNat ((4 * (j : Int)) + (1 : Int))))
  have hy := gR_x (xs (Int.toNat ((4 * (j : Int)) + (2 : Int))))
  generalize (xs (Int.toNat ((4 * (j : Int)) + (1 : Int)))).toInt = w at hx ⊢
  generalize (xs (Int.toNat ((4 * (j : Int)) + (2 : Int)))).toInt = v at hy ⊢
  refine pu_stepS (y := fun τ => DX9_set τ w v) ?_
  have ho := hI.1
  by_cases c : puRg w v
  · obtain ⟨w, rfl⟩ : ∃ u : Nat, w = (u : Int) := ⟨w.toNat, by unfold puRg at c; omega⟩
    have hw : w < 4 := by unfold puRg at c; omega
    obtain ⟨nx, cc, p, hC, hR⟩ := puHis_to hI.2.2.1
    obtain ⟨σ1, e1, hC1, k1⟩ := pu_save ho hI.2.1.1 hC
    have hp1 : puPl σ1 1 (σ 137) := hI.2.1.1.same (fun k a1 a2 => k1 k (by omega))
    have hp2 := puPl_set (v := v) hp1 hw
    have ho2 := puOk_set ho c
    obtain ⟨σ3, e3, hV, k3⟩ := pu_printAnew ho2 hp2
    obtain ⟨hC3, hT3, kσ⟩ := pu_fin (σ2 := gUp σ1 3 w v) hI hC1 k1 (fun k hk => pu_upK (by omega)) k3
    obtain ⟨τ1, e4, k4, a4⟩ := pu_hold σ3
    have e137 : τ1 137 = σ 137 := by rw [k4 137 (by decide), kσ 137 (by decide)]
    obtain ⟨τ3, e5, hI3⟩ := pu_refEnd (τ2 := gUp τ1 137 w v) ho2 hV hC.2.1 hC3 hT3 kσ hR (fun i hi => by rw [pu_upK (by decide), a4 i hi, kσ 137 (by decide)]) (fun k q1 q2 => by rw [pu_upK q1, k4 k q2]) (by rw [puSet_up, e137]) (σ 137 w)
    refine puAnsS.ok (v := σ 137 w) (σ1 := σ3) (σ2 := τ3) hI3 ?_ ?_
    · unfold DX8_set DX5_putSetting
      rw [pu_isSetC1 hx hy c, Option.bind_some, pu_ifF (by decide) (by decide) (by decide), e1, Option.bind_some, pu_setting hp1 hw, Option.bind_some, pu_putN hw (by decide), Option.bind_some, Option.bind_some, show gUp σ1 (1 + 1 + 1) w v = gUp σ1 3 w v from rfl, e3, Option.bind_some]
    · show DX9_set σ3 (w : Int) v = _
      unfold DX9_set
      rw [pu_isSetR1 hx hy c, Option.bind_some, pu_ifF (by decide) (by decide) (by decide), e4, Option.bind_some, pu_gat (by omega) (by omega), pu_gat (by omega) (by omega), Int.toNat_natCast, e137, e5]; rfl
  · refine puAnsS.no (hI.six 1) (k := 1) (r := 0) ?_ rfl (Or.inl rfl) ?_
    · unfold DX8_set
      rw [pu_isSetC0 hx hy c, Option.bind_some, pu_ifT (by decide) (by decide) rfl]
    · show DX9_set σ w v = _
      unfold DX9_set
      rw [pu_isSetR0 hx hy c, Option.bind_some, pu_ifT (by decide) (by decide) rfl]; rfl
/-! a bar's range -/
theorem pu_isBarC {σ : gSt} {f l : Int} (hf : gR f) (hl : gR l) : DX8_isBar σ f l = some (if (0 ≤ f ∧ f ≤ 199) ∧ 1 ≤ l ∧ l ≤ 60 then 1 else 0) := by
  unfold DX8_isBar
  rw [pu_ite hf (by decide), pu_ite hf (by decide), pu_ite hl (by decide), pu_ite hl (by decide), pu_bo (Or.inl rfl), pu_bo (Or.inr rfl)]
  by_cases a : f < 0
  · rw [if_pos a, if_neg (by omega)]
  · rw [if_neg a]
    by_cases b : 199 < f
    · rw [if_pos b, if_neg (by omega)]
    · rw [if_neg b]
      by_cases c : l < 1
      · rw [if_pos c, if_neg (by omega)]
      · rw [if_neg c]
        by_cases d : 60 < l
        · rw [if_pos d, if_neg (by omega)]
        · rw [if_neg d, if_pos (by omega)]
theorem pu_isBarR {σ : gSt} {f l : Int} (hf : gR f) (hl : gR l) : DX9_isBar σ f l = some (if (0 ≤ f ∧ f ≤ 199) ∧ 1 ≤ l ∧ l ≤ 60 then 1 else 0) := by
  unfold DX9_isBar
  rw [pu_in hf (by decide) (by decide), Option.bind_some, pu_in hl (by decide) (by decide), Option.bind_some, pu_bo (Or.inl rfl), pu_bo (Or.inr rfl)]
  by_cases a : 0 ≤ f ∧ f ≤ 199
  · rw [if_pos a, pu_ifF (by decide) (by decide) (by decide)]
    by_cases b : 1 ≤ l ∧ l ≤ 60
    · rw [if_pos b, pu_ifF (by decide) (by decide) (by decide), if_pos ⟨a, b⟩]
    · rw [if_neg b, pu_ifT (by decide) (by decide) rfl, if_neg (fun q => b q.2)]
  · rw [if_neg a, pu_ifT (by decide) (by decide) rfl, if_neg (fun q => a q.1)]
/-! addTask -/
def puAddT (s : Nat → Int) (n : Nat) (g f l : Int) : Nat → Int := puSet (puSet (puSet (puSet s (5 + 3 * n) g) (6 + 3 * n) f) (7 + 3 * n) l) 4 ((n : Int) + 1)
theorem puAddT_o {s : Nat → Int} {n : Nat} {g f l : Int} {j : Nat} (h1 : j ≠ 4) (h2 : j < 5 + 3 * n ∨ 7 + 3 * n < j) : puAddT s n g f l j = s j := by
  unfold puAddT
  rw [puSet_n h1, puSet_n (by omega), puSet_n (by omega), puSet_n (by omega)]
theorem puAddT_4 {s : Nat → Int} {n : Nat} {g f l : Int} : puAddT s n g f l 4 = (n : Int) + 1 := puSet_e
theorem puAddT_n {s : Nat → Int} {n : Nat} {g f l : Int} : puAddT s n g f l (5 + 3 * n) = g ∧ puAddT s n g f l (6 + 3 * n) = f ∧ puAddT s n g f l (7 + 3 * n) = l := by
  unfold puAddT
  refine ⟨?_, ?_, ?_⟩
  · rw [puSet_n (by omega), puSet_n (by omega), puSet_n (by omega), puSet_e]
  · rw [puSet_n (by omega), puSet_n (by omega), puSet_e]
  · rw [puSet_n (by omega), puSet_e]
theorem puOk_addT {s : Nat → Int} (ho : puOk s) {n : Nat} {g f l : Int} (hn : s 4 = (n : Int)) (hn2 : n < 24) (hg : 0 ≤ g ∧ g ≤ 5) (hf : 0 ≤ f ∧ f ≤ 199) (hl : 1 ≤ l ∧ l ≤ 60) : puOk (puAddT s n g f l) := by
  have h77 := ho.arrows
  refine ⟨?_, ?_, ?_, ?_, ?_, ?_, fun t ht => ?_, fun a ha => ?_⟩
  · rw [puAddT_o (by decide) (by omega)]; exact ho.rows
  · rw [puAddT_o (by decide) (by omega)]; exact ho.days
  · rw [puAddT_o (by decide) (by omega)]; exact ho.keep
  · rw [puAddT_o (by decide) (by omega)]; exact ho.order
  · rw [puAddT_4]; omega
  · rw [puAddT_o (by decide) (by omega)]; exact ho.arrows
  · rw [puAddT_4] at ht
    by_cases e : t = n
    · subst e
      rw [puAddT_n.1, puAddT_n.2.1, puAddT_n.2.2]
      exact ⟨hg, hf, hl⟩
    · have ht : (t : Int) < s 4 := by omega
      rw [puAddT_o (by omega) (by omega), puAddT_o (by omega) (by omega), puAddT_o (by omega) (by omega)]
      exact ⟨ho.g ht, ho.f ht, ho.l ht⟩
  · rw [puAddT_o (by decide) (by omega)] at ha
    rw [puAddT_o (j := 78 + 2 * a) (by omega) (by omega), puAddT_o (j := 79 + 2 * a) (by omega) (by omega), puAddT_4]
    have := ho.fr ha
    have := ho.to ha
    omega
theorem pu_tellTask {σ : gSt} {b : Nat} {s : Nat → Int} (hp : puPl σ b s) {n : Nat} {g f l : Int} (hn : s 4 = (n : Int)) (hn2 : n < 24) (h77 : s 77 ≤ 30) : puP (DX5_tellTask b σ g f l) (fun r => r.1 = (n : Int) ∧ puPl r.2 b (puAddT s n g f l) ∧ (∀ k, k < b ∨ b + 12 < k → r.2 k = σ k)) := by
  have e6 : σ b 6 = (n : Int) := by rw [hp.1, hn]
  unfold DX5_tellTask DX5_putBar
  rw [e6, pu_ifT ⟨by omega, by omega⟩ (by decide) (by omega), pu_putN hn2 (by decide), Option.bind_some, show gUp σ (b + 3 + 1) n g b 6 = (n : Int) by rw [pu_upK (by omega), e6], pu_putN hn2 (by decide), Option.bind_some, pu_putN hn2 (by decide), Option.bind_some, Option.bind_some]
  have hK : ∀ k, k ≠ b + 4 → k ≠ b + 6 → k ≠ b + 8 → gUp (gUp (gUp σ (b + 3 + 1) n g) (b + 5 + 1) n f) (b + 7 + 1) n l k = σ k := fun k k1 k2 k3 => by rw [pu_upK k3, pu_upK k2, pu_upK k1]
  have hb6 : gUp (gUp (gUp σ (b + 3 + 1) n g) (b + 5 + 1) n f) (b + 7 + 1) n l b 6 = (n : Int) := by rw [hK b (by omega) (by omega) (by omega), e6]
  rw [hb6, pu_upE]
  refine pu_some ⟨by show (n : Int) + 1 - 1 = (n : Int); omega, ⟨?_, ?_, fun i hi => ?_, fun t ht => ?_, fun a ha => ?_⟩, fun k hk => ?_⟩
  · show gUp _ b 6 ((n : Int) + 1) b 6 = _
    rw [pu_upE, puAddT_4]
  · show gUp _ b 6 ((n : Int) + 1) b 7 = _
    rw [pu_upI (by decide), hK b (by omega) (by omega) (by omega), hp.2.1, puAddT_o (by decide) (by omega)]
  · show gUp _ b 6 ((n : Int) + 1) (b + 2) i = _
    rw [pu_upK (by omega), hK (b + 2) (by omega) (by omega) (by omega), puAddT_o (by omega) (by omega)]
    exact hp.2.2.1 i hi
  · rw [puAddT_4] at ht
    show gUp (gUp (gUp (gUp σ (b + 3 + 1) n g) (b + 5 + 1) n f) (b + 7 + 1) n l) b 6 ((n : Int) + 1) (b + 4) t = _ ∧ gUp (gUp (gUp (gUp σ (b + 3 + 1) n g) (b + 5 + 1) n f) (b + 7 + 1) n l) b 6 ((n : Int) + 1) (b + 6) t = _ ∧ gUp (gUp (gUp (gUp σ (b + 3 + 1) n g) (b + 5 + 1) n f) (b + 7 + 1) n l) b 6 ((n : Int) + 1) (b + 8) t = _
    rw [pu_upK (k' := b + 4) (by omega), pu_upK (k' := b + 4) (by omega), pu_upK (k' := b + 4) (by omega), pu_upK (k' := b + 6) (by omega), pu_upK (k' := b + 6) (by omega), pu_upK (k' := b + 8) (by omega)]
    by_cases e : t = n
    · subst e
      rw [puAddT_n.1, puAddT_n.2.1, puAddT_n.2.2]
      exact ⟨pu_upE _ _ _ _, pu_upE _ _ _ _, pu_upE _ _ _ _⟩
    · have ht : (t : Int) < s 4 := by omega
      rw [pu_upI e, pu_upI e, pu_upI e, pu_upI e, pu_upI e, pu_upI e, puAddT_o (by omega) (by omega), puAddT_o (by omega) (by omega), puAddT_o (by omega) (by omega)]
      exact hp.2.2.2.1 t ht
  · rw [puAddT_o (by decide) (by omega)] at ha
    show gUp (gUp (gUp (gUp σ (b + 3 + 1) n g) (b + 5 + 1) n f) (b + 7 + 1) n l) b 6 ((n : Int) + 1) (b + 10) a = _ ∧ gUp (gUp (gUp (gUp σ (b + 3 + 1) n g) (b + 5 + 1) n f) (b + 7 + 1) n l) b 6 ((n : Int) + 1) (b + 12) a = _
    rw [pu_upK (k' := b + 10) (by omega), hK (b + 10) (by omega) (by omega) (by omega), pu_upK (k' := b + 12) (by omega), hK (b + 12) (by omega) (by omega) (by omega), puAddT_o (by omega) (by omega), puAddT_o (by omega) (by omega)]
    exact hp.2.2.2.2 a ha
  · show gUp _ b 6 ((n : Int) + 1) k = _
    rw [pu_upK (by omega), hK k (by omega) (by omega) (by omega)]
theorem pu_comes {σ : gSt} {s : Nat → Int} (hs : σ 137 = s) {n : Nat} {g f l : Int} (hn : s 4 = (n : Int)) (hn2 : n < 24) : puP (DX9_comes σ g f l) (fun σ' => σ' 137 = puAddT s n g f l ∧ (∀ k, k ≠ 137 → σ' k = σ k)) := by
  have e4 : σ 137 (Int.toNat (4 : Int)) = (n : Int) := by rw [hs]; exact hn
  unfold DX9_comes
  rw [e4, pu_gat (by decide) (by decide), pu_gat (by omega) (by omega), pu_gat (by omega) (by omega), pu_gat (by omega) (by omega), pu_gat (by decide) (by decide), pu_gat (by decide) (by decide), show Int.toNat ((5 : Int) + 3 * (n : Int)) = 5 + 3 * n by omega, show Int.toNat ((5 : Int) + 3 * (n : Int) + 1) = 6 + 3 * n by omega, show Int.toNat ((5 : Int) + 3 * (n : Int) + 2) = 7 + 3 * n by omega, show Int.toNat (4 : Int) = 4 from rfl]
  refine pu_some ⟨?_, fun k hk => ?_⟩
  · rw [puSet_up, puSet_up, puSet_up, puSet_up, hs]
    rw [show puSet (puSet (puSet s (5 + 3 * n) g) (6 + 3 * n) f) (7 + 3 * n) l 4 = (n : Int) by rw [puSet_n (by omega), puSet_n (by omega), puSet_n (by omega), hn]]
    rfl
  · rw [pu_upK hk, pu_upK hk, pu_upK hk, pu_upK hk]
theorem pu_2 {σ : gSt} {μ : gLg} (xs : Nat → Int32) (j : Nat) (hI : puInv σ) : puP (DL_c2 xs j σ μ) (fun r => puInv r.1) := by
  unfold DL_c2
  have hx := gR_x (xs (Int.toNat ((4 * (j : Int)) + (1 : Int))))
  have hy := gR_x (xs (Int.toNat ((4 * (j : Int)) + (2 : Int))))
  have hz := gR_x (xs (Int.toNat ((4 * (j : Int)) + (3 : Int))))
  generalize (xs (Int.toNat ((4 * (j : Int)) + (1 : Int)))).toInt = g at hx ⊢
  generalize (xs (Int.toNat ((4 * (j : Int)) + (2 : Int)))).toInt = f at hy ⊢
  generalize (xs (Int.toNat ((4 * (j : Int)) + (3 : Int)))).toInt = l at hz ⊢
  refine pu_stepS (y := fun τ => DX9_addTask τ g f l) ?_
  have ho := hI.1
  have hn := ho.tasks
  have h77 := ho.arrows
  by_cases c : 0 ≤ g ∧ g ≤ 5
  · by_cases c2 : (0 ≤ f ∧ f ≤ 199) ∧ 1 ≤ l ∧ l ≤ 60
    · obtain ⟨n, hn4⟩ : ∃ n : Nat, σ 137 4 = (n : Int) := ⟨(σ 137 4).toNat, by omega⟩
      by_cases c3 : n < 24
      · obtain ⟨nx, cc, p, hC, hR⟩ := puHis_to hI.2.2.1
        obtain ⟨σ1, e1, hC1, k1⟩ := pu_save ho hI.2.1.1 hC
        have hp1 : puPl σ1 1 (σ 137) := hI.2.1.1.same (fun k a1 a2 => k1 k (by omega))
        obtain ⟨⟨r, σ2⟩, e2, r1, hp2, k2⟩ := pu_tellTask (g := g) (f := f) (l := l) hp1 hn4 c3 h77.2
        have r1 : r = (n : Int) := r1
        have hp2 : puPl σ2 1 (puAddT (σ 137) n g f l) := hp2
        have k2 : ∀ k, k < 1 ∨ 1 + 12 < k → σ2 k = σ1 k := k2
        have ho2 := puOk_addT ho hn4 c3 c c2.1 c2.2
        obtain ⟨σ3, e3, hV, k3⟩ := pu_printAnew ho2 hp2
        obtain ⟨hC3, hT3, kσ⟩ := pu_fin (σ2 := σ2) hI hC1 k1 (fun k hk => k2 k (by omega)) k3
        obtain ⟨τ1, e4, k4, a4⟩ := pu_hold σ3
        have e137 : τ1 137 = σ 137 := by rw [k4 137 (by decide), kσ 137 (by decide)]
        obtain ⟨τ2, e6, h6, k6⟩ := pu_comes (g := g) (f := f) (l := l) e137 hn4 c3
        obtain ⟨τ3, e5, hI3⟩ := pu_refEnd (τ2 := τ2) ho2 hV hC.2.1 hC3 hT3 kσ hR (fun i hi => by rw [k6 139 (by decide), a4 i hi, kσ 137 (by decide)]) (fun k q1 q2 => by rw [k6 k q1, k4 k q2]) h6 (n : Int)
        refine puAnsS.ok (v := (n : Int)) (σ1 := σ3) (σ2 := τ3) hI3 ?_ ?_
        · unfold DX8_addTask
          rw [pu_ifF hx (by decide) (by omega), pu_ifT hx (by decide) (by omega), pu_isBarC hy hz, Option.bind_some, if_pos c2, pu_ifF (by decide) (by decide) (by decide), pu_tasks hI.2.1.1, Option.bind_some, hn4, pu_ifT ⟨by omega, by omega⟩ (by decide) (by omega), e1, Option.bind_some, e2, Option.bind_some, e3, Option.bind_some, r1]
        · show DX9_addTask σ3 g f l = _
          unfold DX9_addTask
          rw [pu_in hx (by decide) (by decide), Option.bind_some, if_pos c, pu_ifF (by decide) (by decide) (by decide), pu_isBarR hy hz, Option.bind_some, if_pos c2, pu_ifF (by decide) (by decide) (by decide), pu_gat (by decide) (by decide), pu_r4 (kσ 137 (by decide)), hn4, pu_ifF ⟨by omega, by omega⟩ (by decide) (by omega), e4, Option.bind_some, e6, Option.bind_some, pu_gat (by decide) (by decide), pu_r4 h6, puAddT_4, show (n : Int) + 1 - 1 = (n : Int) by omega, e5]; rfl
      · refine puAnsS.no (hI.six 2) (k := 2) (r := 0) ?_ rfl (Or.inr (Or.inl rfl)) ?_
        · unfold DX8_addTask
          rw [pu_ifF hx (by decide) (by omega), pu_ifT hx (by decide) (by omega), pu_isBarC hy hz, Option.bind_some, if_pos c2, pu_ifF (by decide) (by decide) (by decide), pu_tasks hI.2.1.1, Option.bind_some, hn4, pu_ifF ⟨by omega, by omega⟩ (by decide) (by omega)]
        · show DX9_addTask σ g f l = _
          unfold DX9_addTask
          rw [pu_in hx (by decide) (by decide), Option.bind_some, if_pos c, pu_ifF (by decide) (by decide) (by decide), pu_isBarR hy hz, Option.bind_some, if_pos c2, pu_ifF (by decide) (by decide) (by decide), pu_gat (by decide) (by decide), pu_r4 (σ := σ) (s := σ 137) rfl, hn4, pu_ifT ⟨by omega, by omega⟩ (by decide) (by omega)]; rfl
    · refine puAnsS.no (hI.six 1) (k := 1) (r := 0) ?_ rfl (Or.inl rfl) ?_
      · unfold DX8_addTask DX8_addTask_J18
        rw [pu_ifF hx (by decide) (by omega), pu_ifT hx (by decide) (by omega), pu_isBarC hy hz, Option.bind_some, if_neg c2, pu_ifT (by decide) (by decide) rfl]
      · show DX9_addTask σ g f l = _
        unfold DX9_addTask DX9_addTask_J17
        rw [pu_in hx (by decide) (by decide), Option.bind_some, if_pos c, pu_ifF (by decide) (by decide) (by decide), pu_isBarR hy hz, Option.bind_some, if_neg c2, pu_ifT (by decide) (by decide) rfl]; rfl
  · refine puAnsS.no (hI.six 1) (k := 1) (r := 0) ?_ rfl (Or.inl rfl) ?_
    · unfold DX8_addTask DX8_addTask_J18
      by_cases c1 : g < 0
      · rw [pu_ifT hx (by decide) c1]
      · rw [pu_ifF hx (by decide) c1, pu_ifF hx (by decide) (by omega)]
    · show DX9_addTask σ g f l = _
      unfold DX9_addTask DX9_addTask_J17
      rw [pu_in hx (by decide) (by decide), Option.bind_some, if_neg c, pu_ifT (by decide) (by decide) rfl]; rfl
/-! move -/
def puMov (s : Nat → Int) (t : Nat) (f l : Int) : Nat → Int := puSet (puSet s (6 + 3 * t) f) (7 + 3 * t) l
theorem puMov_o {s : Nat → Int} {t : Nat} {f l : Int} {j : Nat} (h1 : j ≠ 6 + 3 * t) (h2 : j ≠ 7 + 3 * t) : puMov s t f l j = s j := by
  unfold puMov
  rw [puSet_n h2, puSet_n h1]
theorem puMov_n {s : Nat → Int} {t : Nat} {f l : Int} : puMov s t f l (6 + 3 * t) = f ∧ puMov s t f l (7 + 3 * t) = l := by
  unfold puMov
  exact ⟨by rw [puSet_n (by omega), puSet_e], puSet_e⟩
theorem puOk_mov {s : Nat → Int} (ho : puOk s) {t : Nat} {f l : Int} (ht : (t : Int) < s 4) (hf : 0 ≤ f ∧ f ≤ 199) (hl : 1 ≤ l ∧ l ≤ 60) : puOk (puMov s t f l) := by
  have h24 := ho.t24 ht
  refine ⟨?_, ?_, ?_, ?_, ?_, ?_, fun u hu => ?_, fun a ha => ?_⟩
  · rw [puMov_o (by omega) (by omega)]; exact ho.rows
  · rw [puMov_o (by omega) (by omega)]; exact ho.days
  · rw [puMov_o (by omega) (by omega)]; exact ho.keep
  · rw [puMov_o (by omega) (by omega)]; exact ho.order
  · rw [puMov_o (by omega) (by omega)]; exact ho.tasks
  · rw [puMov_o (by omega) (by omega)]; exact ho.arrows
  · rw [puMov_o (by omega) (by omega)] at hu
    rw [puMov_o (j := 5 + 3 * u) (by omega) (by omega)]
    by_cases e : u = t
    · subst e
      rw [puMov_n.1, puMov_n.2]
      exact ⟨ho.g hu, hf, hl⟩
    · rw [puMov_o (by omega) (by omega), puMov_o (by omega) (by omega)]
      exact ⟨ho.g hu, ho.f hu, ho.l hu⟩
  · rw [puMov_o (by omega) (by omega)] at ha
    rw [puMov_o (j := 78 + 2 * a) (by omega) (by omega), puMov_o (j := 79 + 2 * a) (by omega) (by omega), puMov_o (j := 4) (by omega) (by omega)]
    exact ⟨ho.fr ha, ho.to ha⟩
theorem puPl_mov {σ : gSt} {s : Nat → Int} (ho : puOk s) (hp : puPl σ 1 s) {t : Nat} {f l : Int} (ht : (t : Int) < s 4) : puPl (gUp (gUp σ 7 t f) 9 t l) 1 (puMov s t f l) := by
  have h24 := ho.t24 ht
  have hK : ∀ k, k ≠ 7 → k ≠ 9 → gUp (gUp σ 7 t f) 9 t l k = σ k := fun k k1 k2 => by rw [pu_upK k2, pu_upK k1]
  refine ⟨?_, ?_, fun i hi => ?_, fun u hu => ?_, fun a ha => ?_⟩
  · rw [hK 1 (by decide) (by decide), puMov_o (by omega) (by omega)]; exact hp.1
  · rw [hK 1 (by decide) (by decide), puMov_o (by omega) (by omega)]; exact hp.2.1
  · rw [hK (1 + 2) (by decide) (by decide), puMov_o (by omega) (by omega)]; exact hp.2.2.1 i hi
  · rw [puMov_o (by omega) (by omega)] at hu
    obtain ⟨g1, g2, g3⟩ := hp.2.2.2.1 u hu
    rw [hK (1 + 4) (by decide) (by decide), puMov_o (j := 5 + 3 * u) (by omega) (by omega), pu_upK (k' := 1 + 6) (by decide)]
    refine ⟨g1, ?_, ?_⟩
    · show gUp σ 7 t f 7 u = _
      by_cases e : u = t
      · subst e
        rw [pu_upE, puMov_n.1]
      · rw [pu_upI e, puMov_o (by omega) (by omega)]
        exact g2
    · show gUp (gUp σ 7 t f) 9 t l 9 u = _
      by_cases e : u = t
      · subst e
        rw [pu_upE, puMov_n.2]
      · rw [pu_upI e, pu_upK (by decide), puMov_o (by omega) (by omega)]
        exact g3
  · rw [puMov_o (by omega) (by omega)] at ha
    rw [hK (1 + 10) (by decide) (by decide), hK (1 + 12) (by decide) (by decide), puMov_o (j := 78 + 2 * a) (by omega) (by omega), puMov_o (j := 79 + 2 * a) (by omega) (by omega)]
    exact hp.2.2.2.2 a ha
theorem pu_3 {σ : gSt} {μ : gLg} (xs : Nat → Int32) (j : Nat) (hI : puInv σ) : puP (DL_c3 xs j σ μ) (fun r => puInv r.1) := by
  unfold DL_c3
  have hx := gR_x (xs (Int.toNat ((4 * (j : Int)) + (1 : Int))))
  have hy := gR_x (xs (Int.toNat ((4 * (j : Int)) + (2 : Int))))
  have hz := gR_x (xs (Int.toNat ((4 * (j : Int)) + (3 : Int))))
  generalize (xs (Int.toNat ((4 * (j : Int)) + (1 : Int)))).toInt = v at hx ⊢
  generalize (xs (Int.toNat ((4 * (j : Int)) + (2 : Int)))).toInt = f at hy ⊢
  generalize (xs (Int.toNat ((4 * (j : Int)) + (3 : Int)))).toInt = l at hz ⊢
  refine pu_stepS (y := fun τ => DX9_move τ v f l) ?_
  have ho := hI.1
  by_cases c : 0 ≤ v ∧ v < σ 137 4
  · obtain ⟨t, rfl⟩ : ∃ t : Nat, v = (t : Int) := ⟨v.toNat, by omega⟩
    have h24 := ho.t24 c.2
    by_cases c2 : (0 ≤ f ∧ f ≤ 199) ∧ 1 ≤ l ∧ l ≤ 60
    · obtain ⟨nx, cc, p, hC, hR⟩ := puHis_to hI.2.2.1
      obtain ⟨σ1, e1, hC1, k1⟩ := pu_save ho hI.2.1.1 hC
      have hp1 : puPl σ1 1 (σ 137) := hI.2.1.1.same (fun k a1 a2 => k1 k (by omega))
      have hp2 := puPl_mov (f := f) (l := l) ho hp1 c.2
      have ho2 := puOk_mov ho c.2 c2.1 c2.2
      obtain ⟨σ3, e3, hV, k3⟩ := pu_printAnew ho2 hp2
      obtain ⟨hC3, hT3, kσ⟩ := pu_fin (σ2 := gUp (gUp σ1 7 t f) 9 t l) hI hC1 k1 (fun k hk => by rw [pu_upK (by omega), pu_upK (by omega)]) k3
      obtain ⟨τ1, e4, k4, a4⟩ := pu_hold σ3
      have e137 : τ1 137 = σ 137 := by rw [k4 137 (by decide), kσ 137 (by decide)]
      obtain ⟨τ3, e5, hI3⟩ := pu_refEnd (τ2 := gUp (gUp τ1 137 (6 + 3 * t) f) 137 (7 + 3 * t) l) ho2 hV hC.2.1 hC3 hT3 kσ hR (fun i hi => by rw [pu_upK (by decide), pu_upK (by decide), a4 i hi, kσ 137 (by decide)]) (fun k q1 q2 => by rw [pu_upK q1, pu_upK q1, k4 k q2]) (by rw [puSet_up, puSet_up, e137]; rfl) (σ 137 (6 + 3 * t))
      refine puAnsS.ok (v := σ 137 (6 + 3 * t)) (σ1 := σ3) (σ2 := τ3) hI3 ?_ ?_
      · unfold DX8_move DX5_putBar
        rw [pu_reqTask ho hI.2.1.1 hx, if_pos c, pu_xbR, pu_isBarC hy hz, Option.bind_some, if_pos c2, pu_ifF (by decide) (by decide) (by decide), e1, Option.bind_some, pu_first ho hp1 c.2, Option.bind_some, pu_putN h24 (by decide), Option.bind_some, pu_putN h24 (by decide), Option.bind_some, Option.bind_some, show gUp (gUp σ1 (1 + 5 + 1) t f) (1 + 7 + 1) t l = gUp (gUp σ1 7 t f) 9 t l from rfl, e3, Option.bind_some]
      · show DX9_move σ3 (t : Int) f l = _
        have h137 : σ3 137 = σ 137 := kσ 137 (by decide)
        unfold DX9_move
        rw [pu_isTask (by rw [h137]; exact ho) hx, h137, Option.bind_some, if_pos c, pu_ifF (by decide) (by decide) (by decide), pu_isBarR hy hz, Option.bind_some, if_pos c2, pu_ifF (by decide) (by decide) (by decide), e4, Option.bind_some, pu_rof1 ho e137 c.2, Option.bind_some, pu_gat (by omega) (by omega), pu_gat (by omega) (by omega), show Int.toNat ((5 : Int) + 3 * (t : Int) + 1) = 6 + 3 * t by omega, show Int.toNat ((5 : Int) + 3 * (t : Int) + 2) = 7 + 3 * t by omega, e5]; rfl
    · refine puAnsS.no (hI.six 2) (k := 1) (r := 0) ?_ rfl (Or.inr (Or.inl rfl)) ?_
      · unfold DX8_move
        rw [pu_reqTask ho hI.2.1.1 hx, if_pos c, pu_xbR, pu_isBarC hy hz, Option.bind_some, if_neg c2, pu_ifT (by decide) (by decide) rfl]
      · show DX9_move σ (t : Int) f l = _
        unfold DX9_move
        rw [pu_isTask ho hx, Option.bind_some, if_pos c, pu_ifF (by decide) (by decide) (by decide), pu_isBarR hy hz, Option.bind_some, if_neg c2, pu_ifT (by decide) (by decide) rfl]; rfl
  · refine puAnsS.no (hI.six 1) (k := 3) (r := 0) ?_ rfl (Or.inl rfl) ?_
    · unfold DX8_move
      rw [pu_reqTask ho hI.2.1.1 hx, if_neg c, pu_xbL]
    · show DX9_move σ v f l = _
      unfold DX9_move
      rw [pu_isTask ho hx, Option.bind_some, if_neg c, pu_ifT (by decide) (by decide) rfl]; rfl
