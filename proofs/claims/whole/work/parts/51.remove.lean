/-! removeArrow, removeTask, undo -/
theorem pu_gap30 {σ : gSt} {n : Nat} {a : Nat} (ha : a < 30) : DX4_closeGap n 30 σ (a : Int) = some (puGap σ (n + 1) (a : Int) 30) := pu_gap (by decide) (by omega) (by omega)
theorem puErase_len {l : List (Int × Int)} {a : Nat} (h : a < l.length) : ((l.eraseIdx a).length : Int) = (l.length : Int) - 1 := by
  rw [List.length_eraseIdx_of_lt h]
  omega
theorem pu_dropC {σ : gSt} {l : List (Int × Int)} (hB : puHB σ 1 l) (hl : l.length ≤ 30) {a : Nat} (ha : a < l.length) : puP (DX5_dropArrow 1 σ (a : Int)) (fun σ' => puHB σ' 1 (l.eraseIdx a) ∧ (∀ k, k ≠ 1 → k ≠ 11 → k ≠ 13 → σ' k = σ k) ∧ (∀ i, i ≠ 7 → σ' 1 i = σ 1 i)) := by
  have e7 : σ 1 7 = (l.length : Int) := hB.1
  unfold DX5_dropArrow DX5_hasArrow
  rw [e7, pu_ifF ⟨by omega, by omega⟩ (by decide) (by omega), pu_ifT ⟨by omega, by omega⟩ ⟨by omega, by omega⟩ (by omega), pu_bo (Or.inr rfl), Option.bind_some, pu_ifF (by decide) (by decide) (by decide), pu_gap30 (by omega), Option.bind_some, pu_gap30 (by omega), Option.bind_some]
  have hK : ∀ k, k ≠ 11 → k ≠ 13 → puGap (puGap σ (1 + 9 + 1) (a : Int) 30) (1 + 11 + 1) (a : Int) 30 k = σ k := fun k k1 k2 => by rw [puGap_K k2, puGap_K k1]
  refine pu_some ⟨⟨?_, fun i q hi => ?_⟩, fun k k1 k2 k3 => ?_, fun i hi => ?_⟩
  · rw [pu_upE, hK 1 (by decide) (by decide), e7, puErase_len ha]
  · have hlt := (List.getElem?_eq_some_iff.mp hi).1
    rw [List.length_eraseIdx_of_lt ha] at hlt
    rw [List.getElem?_eraseIdx] at hi
    rw [pu_upK (k' := 1 + 10) (by decide), pu_upK (k' := 1 + 12) (by decide), puGap_K (k' := 1 + 10) (by decide)]
    show (if (11 : Nat) = 11 ∧ (a : Int) ≤ (i : Int) ∧ i + 1 < 30 then σ 11 (i + 1) else σ 11 i) = q.1 ∧ (if (13 : Nat) = 13 ∧ (a : Int) ≤ (i : Int) ∧ i + 1 < 30 then puGap σ (1 + 9 + 1) (a : Int) 30 13 (i + 1) else puGap σ (1 + 9 + 1) (a : Int) 30 13 i) = q.2
    rw [puGap_K (k' := 13) (by decide)]
    by_cases c : i < a
    · rw [if_pos c] at hi
      rw [if_neg (by omega), if_neg (by omega)]
      exact hB.2 i q hi
    · rw [if_neg c] at hi
      rw [if_pos (by omega), if_pos (by omega)]
      exact hB.2 (i + 1) q hi
  · rw [pu_upK k1, hK k k2 k3]
  · rw [pu_upI hi, hK 1 (by decide) (by decide)]
theorem pu_goes_L {s : Nat → Int} {a n : Nat} (ha : a < n) (hn : n ≤ 30) {σ0 : gSt} : ∀ (f x : Nat) (σ : gSt), 78 + 2 * (n - 1) - x < f → 78 + 2 * a ≤ x → x ≤ 78 + 2 * (n - 1) → (∀ k, k ≠ 137 → σ k = σ0 k) → (∀ j : Nat, σ 137 j = if 78 + 2 * a ≤ j ∧ j < x then s (j + 2) else if j = 77 then ((n - 1 : Nat) : Int) else s j) → puP (DX9_arrowGoes_L18 f (x : Int) σ) (fun σ' => (∀ k, k ≠ 137 → σ' k = σ0 k) ∧ (∀ j : Nat, σ' 137 j = if 78 + 2 * a ≤ j ∧ j < 78 + 2 * (n - 1) then s (j + 2) else if j = 77 then ((n - 1 : Nat) : Int) else s j)) := by
  intro f
  induction f with
  | zero => intro x σ h; omega
  | succ f ih =>
    intro x σ hf hx hx2 hK hA
    have e77 : σ 137 (Int.toNat (77 : Int)) = ((n - 1 : Nat) : Int) := by
      show σ 137 77 = _
      rw [hA 77, if_neg (by omega), if_pos rfl]
    rw [DX9_arrowGoes_L18, pu_gat (by decide) (by decide), e77]
    refine pu_if ⟨by omega, by omega⟩ ⟨by omega, by omega⟩ (fun c => ?_) (fun c => ?_)
    · rw [pu_gat (by omega) (by omega), pu_gat (by omega) (by omega), Int.toNat_natCast, show Int.toNat ((x : Int) + 2) = x + 2 by omega, show ((x : Int) + 1) = ((x + 1 : Nat) : Int) by omega, hA (x + 2), if_neg (by omega), if_neg (by omega)]
      refine ih (x + 1) _ (by omega) (by omega) (by omega) (fun k hk => by rw [pu_upK hk, hK k hk]) (fun j => ?_)
      show (if (137 : Nat) = 137 ∧ j = x then s (x + 2) else σ 137 j) = _
      by_cases e : j = x
      · rw [if_pos ⟨rfl, e⟩, if_pos (by omega), e]
      · rw [if_neg (fun q => e q.2), hA j]
        by_cases e2 : 78 + 2 * a ≤ j ∧ j < x
        · rw [if_pos e2, if_pos (by omega)]
        · rw [if_neg e2, if_neg (show ¬ (78 + 2 * a ≤ j ∧ j < x + 1) by omega)]
    · have e : x = 78 + 2 * (n - 1) := by omega
      subst e
      exact pu_some ⟨hK, hA⟩
theorem pu_goes {σ : gSt} {l : List (Int × Int)} (hA : puHA (σ 137) l) (hl : l.length ≤ 30) {a : Nat} (ha : a < l.length) : puP (DX9_arrowGoes σ (a : Int)) (fun σ' => puHA (σ' 137) (l.eraseIdx a) ∧ (∀ j, j < 77 → σ' 137 j = σ 137 j) ∧ (∀ k, k ≠ 137 → σ' k = σ k)) := by
  have e77 : σ 137 77 = (l.length : Int) := hA.1
  unfold DX9_arrowGoes
  rw [pu_gat (by decide) (by decide), pu_gat (by decide) (by decide), show Int.toNat (77 : Int) = 77 from rfl, e77, show (78 : Int) + 2 * (a : Int) = ((78 + 2 * a : Nat) : Int) by omega]
  refine pu_mono (pu_goes_L (s := σ 137) (a := a) (n := l.length) ha hl (σ0 := σ) gFuel (78 + 2 * a) _ (by rw [gFuel_eq]; omega) (Nat.le_refl _) (by omega) (fun k hk => pu_upK hk) (fun j => ?_)) (fun σ' q => ?_)
  · rw [if_neg (by omega)]
    by_cases e : j = 77
    · rw [if_pos e, e, pu_upE]
      omega
    · rw [if_neg e, pu_upI e]
  · obtain ⟨q1, q2⟩ := q
    refine ⟨⟨?_, fun i q hi => ?_⟩, fun j hj => ?_, q1⟩
    · rw [q2 77, if_neg (by omega), if_pos rfl, List.length_eraseIdx_of_lt ha]
    · have hlt := (List.getElem?_eq_some_iff.mp hi).1
      rw [List.length_eraseIdx_of_lt ha] at hlt
      rw [List.getElem?_eraseIdx] at hi
      rw [q2 (78 + 2 * i), q2 (79 + 2 * i)]
      by_cases c : i < a
      · rw [if_pos c] at hi
        rw [if_neg (by omega), if_neg (by omega), if_neg (by omega), if_neg (by omega)]
        exact hA.2 i q hi
      · rw [if_neg c] at hi
        rw [if_pos (by omega), if_pos (by omega), show 78 + 2 * i + 2 = 78 + 2 * (i + 1) by omega, show 79 + 2 * i + 2 = 79 + 2 * (i + 1) by omega]
        exact hA.2 (i + 1) q hi
    · rw [q2 j, if_neg (by omega), if_neg (by omega)]
theorem puEnds.erase {n : Int} {l : List (Int × Int)} (h : puEnds n l) (a : Nat) : puEnds n (l.eraseIdx a) := fun q hq => h q (List.mem_of_mem_eraseIdx hq)
theorem pu_6 {σ : gSt} {μ : gLg} (xs : Nat → Int32) (j : Nat) (hI : puInv σ) : puP (DL_c6 xs j σ μ) (fun r => puInv r.1) := by
  unfold DL_c6
  have hx := gR_x (xs (Int.toNat ((4 * (j : Int)) + (1 : Int))))
  generalize (xs (Int.toNat ((4 * (j : Int)) + (1 : Int)))).toInt = u at hx ⊢
  refine pu_stepS (y := fun τ => DX9_removeArrow τ u) ?_
  have ho := hI.1
  by_cases c : 0 ≤ u ∧ u < σ 137 77
  · obtain ⟨a, rfl⟩ : ∃ a : Nat, u = (a : Int) := ⟨u.toNat, by omega⟩
    obtain ⟨l, hA, hl, hE⟩ := puHA_of ho
    have hal : a < l.length := by have := hA.1; omega
    obtain ⟨nx, cc, p, hC, hR⟩ := puHis_to hI.2.2.1
    obtain ⟨σ1, e1, hC1, k1⟩ := pu_save ho hI.2.1.1 hC
    have hp1 : puPl σ1 1 (σ 137) := hI.2.1.1.same (fun k a1 a2 => k1 k (by omega))
    obtain ⟨σ2, e2, hB2, k2, i2⟩ := pu_dropC (puHB_of hp1 hA) hl hal
    -- what any row with these arrows gives
    have hmk : ∀ s' : Nat → Int, puHA s' (l.eraseIdx a) → (∀ j, j < 77 → s' j = σ 137 j) → puOk s' ∧ puPl σ2 1 s' := by
      intro s' hA' hj
      refine ⟨puOk_mk (l := l.eraseIdx a) (by rw [hj 0 (by decide)]; exact ho.rows) (by rw [hj 1 (by decide)]; exact ho.days) (by rw [hj 2 (by decide)]; exact ho.keep) (by rw [hj 3 (by decide)]; exact ho.order) (by rw [hj 4 (by decide)]; exact ho.tasks) (fun t ht => ?_) hA' (by rw [List.length_eraseIdx_of_lt hal]; omega) (by rw [hj 4 (by decide)]; exact hE.erase a), puPl_mk (l := l.eraseIdx a) ?_ (fun i hi => ?_) (fun t ht => ?_) hA' hB2⟩
      · rw [hj 4 (by decide)] at ht
        have := ho.t24 ht
        rw [hj _ (by omega), hj _ (by omega), hj _ (by omega)]
        exact ⟨ho.g ht, ho.f ht, ho.l ht⟩
      · rw [i2 6 (by decide), hj 4 (by decide)]; exact hp1.1
      · rw [k2 (1 + 2) (by decide) (by decide) (by decide), hj i (by omega)]; exact hp1.2.2.1 i hi
      · rw [hj 4 (by decide)] at ht
        have := ho.t24 ht
        rw [k2 (1 + 4) (by decide) (by decide) (by decide), k2 (1 + 6) (by decide) (by decide) (by decide), k2 (1 + 8) (by decide) (by decide) (by decide), hj _ (by omega), hj _ (by omega), hj _ (by omega)]
        exact hp1.2.2.2.1 t ht
    obtain ⟨τA, eA, hA2, jA, kA⟩ := pu_goes (σ := σ) hA hl hal
    obtain ⟨ho2, hp2⟩ := hmk _ hA2 jA
    obtain ⟨σ3, e3, hV, k3⟩ := pu_printAnew ho2 hp2
    obtain ⟨hC3, hT3, kσ⟩ := pu_fin (σ2 := σ2) hI hC1 k1 (fun k hk => k2 k (by omega) (by omega) (by omega)) k3
    obtain ⟨τ1, e4, k4, a4⟩ := pu_hold σ3
    have e137 : τ1 137 = σ 137 := by rw [k4 137 (by decide), kσ 137 (by decide)]
    obtain ⟨τ2, e6, hA3, jB, k6⟩ := pu_goes (σ := τ1) (by rw [e137]; exact hA) hl hal
    obtain ⟨ho3, hp3⟩ := hmk _ hA3 (fun j hj => by rw [jB j hj, e137])
    obtain ⟨σ3', e3', hV', k3'⟩ := pu_printAnew ho3 hp3
    have eS : σ3' = σ3 := Option.some.inj (e3'.symm.trans e3)
    rw [eS] at hV'
    obtain ⟨τ3, e5, hI3⟩ := pu_refEnd (τ2 := τ2) ho3 hV' hC.2.1 hC3 hT3 kσ hR (fun i hi => by rw [k6 139 (by decide), a4 i hi, kσ 137 (by decide)]) (fun k q1 q2 => by rw [k6 k q1, k4 k q2]) rfl ((l.length : Int) - 1)
    refine puAnsS.ok (v := (l.length : Int) - 1) (σ1 := σ3) (σ2 := τ3) hI3 ?_ ?_
    · unfold DX8_removeArrow
      rw [pu_reqArrow ho hI.2.1.1 hx, if_pos c, pu_xbR, e1, Option.bind_some, e2, Option.bind_some, e3, Option.bind_some, pu_arrows hV'.1, Option.bind_some, hA3.1, puErase_len hal]
    · show DX9_removeArrow σ3 (a : Int) = _
      have h137 : σ3 137 = σ 137 := kσ 137 (by decide)
      unfold DX9_removeArrow
      rw [pu_isArrow (by rw [h137]; exact ho) hx, h137, Option.bind_some, if_pos c, pu_ifF (by decide) (by decide) (by decide), e4, Option.bind_some, e6, Option.bind_some, pu_gat (by decide) (by decide), show τ2 137 (Int.toNat (77 : Int)) = ((l.eraseIdx a).length : Int) from hA3.1, puErase_len hal, e5]; rfl
  · refine puAnsS.no (hI.six 1) (k := 3) (r := 0) ?_ rfl (Or.inl rfl) ?_
    · unfold DX8_removeArrow
      rw [pu_reqArrow ho hI.2.1.1 hx, if_neg c, pu_xbL]
    · show DX9_removeArrow σ u = _
      unfold DX9_removeArrow
      rw [pu_isArrow ho hx, Option.bind_some, if_neg c, pu_ifT (by decide) (by decide) rfl]; rfl
/-! removeTask -/
def puKeep (t : Int) (q : Int × Int) : Bool := !(decide (q.1 = t) || decide (q.2 = t))
def puRen (t : Int) (q : Int × Int) : Int × Int := (if t < q.1 then q.1 - 1 else q.1, if t < q.2 then q.2 - 1 else q.2)
theorem puKeep_F {t : Int} {q : Int × Int} (h : q.1 = t ∨ q.2 = t) : ¬ puKeep t q = true := by
  unfold puKeep
  rcases h with h | h <;> simp [h]
theorem puKeep_T {t : Int} {q : Int × Int} (h1 : ¬ q.1 = t) (h2 : ¬ q.2 = t) : puKeep t q = true := by
  unfold puKeep
  simp [h1, h2]
theorem puKeep_e {t : Int} {q : Int × Int} (h : puKeep t q = true) : ¬ q.1 = t ∧ ¬ q.2 = t := by
  unfold puKeep at h
  simpa using h
theorem pu_rm_L30 {σ0 : gSt} {l : List (Int × Int)} (hl : l.length ≤ 30) {n t : Int} (hE : puEnds n l) (hn : n ≤ 24) (ht : 0 ≤ t ∧ t < 24) {K : Int → gSt → Option (Int × gSt)} {Q : Int × gSt → Prop} : ∀ (f m : Nat) (g : Int) (σ : gSt), m < f → m ≤ l.length → puHA (σ 137) (l.take m ++ (l.drop m).filter (puKeep t)) → g = ((l.length - m : Nat) : Int) - (((l.drop m).filter (puKeep t)).length : Int) → (∀ j, j < 77 → σ 137 j = σ0 137 j) → (∀ k, k ≠ 137 → σ k = σ0 k) → (∀ σ', puHA (σ' 137) (l.filter (puKeep t)) → (∀ j, j < 77 → σ' 137 j = σ0 137 j) → (∀ k, k ≠ 137 → σ' k = σ0 k) → puP (K ((l.length : Int) - ((l.filter (puKeep t)).length : Int)) σ') Q) → puP (DX9_removeTask_L30 K t f ((m : Int) - 1) g σ) Q := by
  intro f
  induction f with
  | zero => intro m g σ h; omega
  | succ f ih =>
    intro m g σ hf hm hA hg hj hK kk
    rw [DX9_removeTask_L30]
    cases m with
    | zero =>
      rw [pu_ifT (by decide) (by decide) (by decide)]
      have e : g = (l.length : Int) - ((l.filter (puKeep t)).length : Int) := by
        rw [hg]
        show ((l.length - 0 : Nat) : Int) - ((l.filter (puKeep t)).length : Int) = _
        omega
      rw [e]
      exact kk σ hA hj hK
    | succ m =>
      obtain ⟨q, hq⟩ : ∃ q, l[m]? = some q := ⟨_, List.getElem?_eq_some_iff.mpr ⟨by omega, rfl⟩⟩
      have hqm := hE q (List.mem_of_getElem? hq)
      have htk : l.take (m + 1) = l.take m ++ [q] := by
        rw [List.take_add_one, hq]
        rfl
      have hdr : l.drop m = q :: l.drop (m + 1) := by
        obtain ⟨h1, h2⟩ := List.getElem?_eq_some_iff.mp hq
        rw [List.drop_eq_getElem_cons h1, h2]
      have htl : (l.take m).length = m := by
        rw [List.length_take]
        omega
      generalize hrest : (l.drop (m + 1)).filter (puKeep t) = rest at hA hg
      have hLq : (l.take (m + 1) ++ rest)[m]? = some q := by
        rw [htk, List.append_assoc, List.getElem?_append_right (by omega), htl, Nat.sub_self]
        rfl
      obtain ⟨e1, e2⟩ := hA.2 m q hLq
      have hlen : (l.take (m + 1) ++ rest).length ≤ 30 := by
        have h1 := List.length_filter_le (puKeep t) (l.drop (m + 1))
        rw [hrest, List.length_drop] at h1
        rw [List.length_append, List.length_take]
        omega
      have hgone : ¬ puKeep t q = true → puP (DX9_removeTask_J54 (DX9_removeTask_L30 K t f) (m : Int) g σ) Q := by
        intro hk
        have hrest2 : (l.drop m).filter (puKeep t) = rest := by
          rw [hdr, List.filter_cons_of_neg hk, hrest]
        unfold DX9_removeTask_J54 DX9_removeTask_J62
        refine pu_b (pu_goes hA hlen (a := m) (by rw [List.length_append, htk, List.length_append, htl]; show m < m + 1 + rest.length; omega)) (fun σ1 w => ?_)
        rw [show (m : Int) + -1 = (m : Int) - 1 by omega]
        refine ih m (g + 1) σ1 (by omega) (by omega) ?_ ?_ (fun j hj2 => by rw [w.2.1 j hj2, hj j hj2]) (fun k hk2 => by rw [w.2.2 k hk2, hK k hk2]) kk
        · rw [hrest2]
          have e3 : (l.take (m + 1) ++ rest).eraseIdx m = l.take m ++ rest := by
            rw [htk, List.append_assoc, List.eraseIdx_append_of_length_le (by omega), htl, Nat.sub_self]
            rfl
          rw [← e3]
          exact w.1
        · rw [hrest2, hg]
          omega
      have hstay : puKeep t q = true → puP (DX9_removeTask_J62 (DX9_removeTask_L30 K t f) (m : Int) g σ) Q := by
        intro hk
        have hrest2 : (l.drop m).filter (puKeep t) = q :: rest := by
          rw [hdr, List.filter_cons_of_pos hk, hrest]
        unfold DX9_removeTask_J62
        rw [show (m : Int) + -1 = (m : Int) - 1 by omega]
        refine ih m g σ (by omega) (by omega) ?_ ?_ hj hK kk
        · rw [hrest2]
          have e3 : l.take m ++ q :: rest = l.take (m + 1) ++ rest := by rw [htk, List.append_assoc]; rfl
          rw [e3]
          exact hA
        · rw [hrest2, hg]
          show _ = _ - ((rest.length + 1 : Nat) : Int)
          omega
      unfold DX9_end
      rw [show ((m + 1 : Nat) : Int) - 1 = (m : Int) by omega, pu_ifF ⟨by omega, by omega⟩ (by decide) (by omega), pu_gat (by omega) (by omega), Option.bind_some, show Int.toNat ((78 : Int) + 2 * (m : Int) + 0) = 78 + 2 * m by omega, e1, pu_gat (by omega) (by omega), Option.bind_some, show Int.toNat ((78 : Int) + 2 * (m : Int) + 1) = 79 + 2 * m by omega, e2]
      refine pu_if ⟨by omega, by omega⟩ ⟨by omega, by omega⟩ (fun c => hgone (puKeep_F (Or.inl c))) (fun c => ?_)
      refine pu_if ⟨by omega, by omega⟩ ⟨by omega, by omega⟩ (fun c2 => hgone (puKeep_F (Or.inr c2))) (fun c2 => hstay (puKeep_T c c2))
theorem pu_rm_L71 {σ0 : gSt} {s : Nat → Int} {c : Nat} (hc : c ≤ 30) (h77 : s 77 = (c : Int)) {t : Int} (ht : gR t) (hr : ∀ j : Nat, 78 ≤ j → j < 78 + 2 * c → gR (s j)) {K : gSt → Option (Int × gSt)} {Q : Int × gSt → Prop} : ∀ (f x : Nat) (σ : gSt), 78 + 2 * c - x < f → 78 ≤ x → x ≤ 78 + 2 * c → (∀ k, k ≠ 137 → σ k = σ0 k) → (∀ j : Nat, σ 137 j = if 78 ≤ j ∧ j < x then (if t < s j then s j - 1 else s j) else s j) → (∀ σ', (∀ k, k ≠ 137 → σ' k = σ0 k) → (∀ j : Nat, σ' 137 j = if 78 ≤ j ∧ j < 78 + 2 * c then (if t < s j then s j - 1 else s j) else s j) → puP (K σ') Q) → puP (DX9_removeTask_L71 K t f (x : Int) σ) Q := by
  intro f
  induction f with
  | zero => intro x σ h; omega
  | succ f ih =>
    intro x σ hf hx hx2 hK hA kk
    have e77 : σ 137 (Int.toNat (77 : Int)) = (c : Int) := by
      show σ 137 77 = _
      rw [hA 77, if_neg (by omega), h77]
    rw [DX9_removeTask_L71, pu_gat (by decide) (by decide), e77]
    refine pu_if ⟨by omega, by omega⟩ ⟨by omega, by omega⟩ (fun c1 => ?_) (fun c1 => ?_)
    · have hx9 := hr x hx (by omega)
      have eX : σ 137 x = s x := by rw [hA x, if_neg (by omega)]
      have hgo : ∀ d : Int, (if t < s x then s x - 1 else s x) = s x - d → puP (DX9_removeTask_J109 (DX9_removeTask_L71 K t f) (x : Int) σ d) Q := by
        intro d hd
        unfold DX9_removeTask_J109
        rw [pu_gat (by omega) (by omega), Int.toNat_natCast, eX, show ((x : Int) + 1) = ((x + 1 : Nat) : Int) by omega]
        refine ih (x + 1) _ (by omega) (by omega) (by omega) (fun k hk => by rw [pu_upK hk, hK k hk]) (fun j => ?_) kk
        show (if (137 : Nat) = 137 ∧ j = x then s x - d else σ 137 j) = _
        by_cases e : j = x
        · rw [if_pos ⟨rfl, e⟩, if_pos (by omega), e, hd]
        · rw [if_neg (fun q => e q.2), hA j]
          by_cases e2 : 78 ≤ j ∧ j < x
          · rw [if_pos e2, if_pos (show 78 ≤ j ∧ j < x + 1 by omega)]
          · rw [if_neg e2, if_neg (show ¬ (78 ≤ j ∧ j < x + 1) by omega)]
      rw [pu_gat (by omega) (by omega), pu_gat (by omega) (by omega), Int.toNat_natCast, eX]
      refine pu_if hx9 ht (fun c2 => hgo 1 (by rw [if_pos c2])) (fun c2 => hgo 0 (by rw [if_neg c2, Int.sub_zero]))
    · have e : x = 78 + 2 * c := by omega
      subst e
      exact kk σ hK hA
theorem pu_rm_L133 {σ0 : gSt} {s : Nat → Int} {t n : Nat} (htn : t < n) (hn : n ≤ 24) {K : gSt → Option (Int × gSt)} {Q : Int × gSt → Prop} : ∀ (f x : Nat) (σ : gSt), 5 + 3 * (n - 1) - x < f → 5 + 3 * t ≤ x → x ≤ 5 + 3 * (n - 1) → (∀ k, k ≠ 137 → σ k = σ0 k) → (∀ j : Nat, σ 137 j = if 5 + 3 * t ≤ j ∧ j < x then s (j + 3) else if j = 4 then ((n - 1 : Nat) : Int) else s j) → (∀ σ', (∀ k, k ≠ 137 → σ' k = σ0 k) → (∀ j : Nat, σ' 137 j = if 5 + 3 * t ≤ j ∧ j < 5 + 3 * (n - 1) then s (j + 3) else if j = 4 then ((n - 1 : Nat) : Int) else s j) → puP (K σ') Q) → puP (DX9_removeTask_L133 K f (x : Int) σ) Q := by
  intro f
  induction f with
  | zero => intro x σ h; omega
  | succ f ih =>
    intro x σ hf hx hx2 hK hA kk
    have e4 : σ 137 (Int.toNat (4 : Int)) = ((n - 1 : Nat) : Int) := by
      show σ 137 4 = _
      rw [hA 4, if_neg (by omega), if_pos rfl]
    rw [DX9_removeTask_L133, pu_gat (by decide) (by decide), e4]
    refine pu_if ⟨by omega, by omega⟩ ⟨by omega, by omega⟩ (fun c => ?_) (fun c => ?_)
    · rw [pu_gat (by omega) (by omega), pu_gat (by omega) (by omega), Int.toNat_natCast, show Int.toNat ((x : Int) + 3) = x + 3 by omega, show ((x : Int) + 1) = ((x + 1 : Nat) : Int) by omega, hA (x + 3), if_neg (by omega), if_neg (by omega)]
      refine ih (x + 1) _ (by omega) (by omega) (by omega) (fun k hk => by rw [pu_upK hk, hK k hk]) (fun j => ?_) kk
      show (if (137 : Nat) = 137 ∧ j = x then s (x + 3) else σ 137 j) = _
      by_cases e : j = x
      · rw [if_pos ⟨rfl, e⟩, if_pos (by omega), e]
      · rw [if_neg (fun q => e q.2), hA j]
        by_cases e2 : 5 + 3 * t ≤ j ∧ j < x
        · rw [if_pos e2, if_pos (by omega)]
        · rw [if_neg e2, if_neg (show ¬ (5 + 3 * t ≤ j ∧ j < x + 1) by omega)]
    · have e : x = 5 + 3 * (n - 1) := by omega
      subst e
      exact kk σ hK hA
/-- the row of numbers without a task -/
def puLess (s s' : Nat → Int) (t n : Nat) : Prop := s' 4 = ((n - 1 : Nat) : Int) ∧ (∀ i : Nat, i < 4 → s' i = s i) ∧ (∀ u : Nat, u < n - 1 → ∀ w : Nat, w < 3 → s' (5 + 3 * u + w) = if u < t then s (5 + 3 * u + w) else s (5 + 3 * (u + 1) + w))
theorem pu_rmR {σ : gSt} {s : Nat → Int} {l : List (Int × Int)} (hs : σ 137 = s) (hA : puHA s l) (hl : l.length ≤ 30) {t n : Nat} (h4 : s 4 = (n : Int)) (hn : n ≤ 24) (htn : t < n) (hE : puEnds (n : Int) l) {Q : Int × gSt → Prop} (kk : ∀ τ, puHA (τ 137) ((l.filter (puKeep (t : Int))).map (puRen (t : Int))) → puLess s (τ 137) t n → (∀ k, k ≠ 137 → τ k = σ k) → puP (DX9_removeTask_K167 ((l.length : Int) - ((l.filter (puKeep (t : Int))).length : Int)) τ) Q) : puP (DX9_removeTask_L30 (DX9_removeTask_K68 (t : Int)) (t : Int) gFuel ((σ 137 (Int.toNat (77 : Int))) - 1) 0 σ) Q := by
  have e77 : σ 137 (Int.toNat (77 : Int)) = (l.length : Int) := by rw [hs]; exact hA.1
  rw [e77]
  refine pu_rm_L30 (σ0 := σ) hl hE (by omega) ⟨by omega, by omega⟩ gFuel l.length 0 σ (by rw [gFuel_eq]; omega) (Nat.le_refl _) ?_ ?_ (fun _ _ => rfl) (fun _ _ => rfl) (fun σ1 hA1 j1 k1 => ?_)
  · rw [List.take_length, List.drop_length]
    simp
    rw [hs]
    exact hA
  · rw [List.drop_length]
    simp
  · generalize hL : l.filter (puKeep (t : Int)) = L at hA1 kk ⊢
    have hLm : ∀ q ∈ L, q ∈ l ∧ puKeep (t : Int) q = true := fun q hq => by
      rw [← hL] at hq
      exact List.mem_filter.mp hq
    have hLl : L.length ≤ 30 := by
      have := List.length_filter_le (puKeep (t : Int)) l
      rw [hL] at this
      omega
    unfold DX9_removeTask_K68
    refine pu_rm_L71 (σ0 := σ1) (s := σ1 137) (c := L.length) hLl hA1.1 ⟨by omega, by omega⟩ (fun j hj1 hj2 => ?_) gFuel 78 σ1 (by rw [gFuel_eq]; omega) (Nat.le_refl _) (by omega) (fun _ _ => rfl) (fun j => by rw [if_neg (by omega)]) (fun σ2 k2 a2 => ?_)
    · obtain ⟨q, hq⟩ : ∃ q, L[(j - 78) / 2]? = some q := ⟨_, List.getElem?_eq_some_iff.mpr ⟨by omega, rfl⟩⟩
      obtain ⟨g1, g2⟩ := hA1.2 _ q hq
      have hqe := hE q (hLm q (List.mem_of_getElem? hq)).1
      by_cases e : j % 2 = 0
      · rw [show 78 + 2 * ((j - 78) / 2) = j by omega] at g1
        rw [g1]
        exact ⟨by omega, by omega⟩
      · rw [show 79 + 2 * ((j - 78) / 2) = j by omega] at g2
        rw [g2]
        exact ⟨by omega, by omega⟩
    · unfold DX9_removeTask_K117
      have e4 : σ2 137 (Int.toNat (4 : Int)) = (n : Int) := by
        show σ2 137 4 = _
        rw [a2 4, if_neg (by omega), j1 4 (by decide), hs, h4]
      rw [pu_gat (by decide) (by decide), pu_gat (by decide) (by decide), e4, show (5 : Int) + 3 * (t : Int) = ((5 + 3 * t : Nat) : Int) by omega, show Int.toNat (4 : Int) = 4 from rfl]
      refine pu_rm_L133 (σ0 := σ2) (s := σ2 137) htn hn gFuel (5 + 3 * t) _ (by rw [gFuel_eq]; omega) (Nat.le_refl _) (by omega) (fun k hk => pu_upK hk) (fun j => ?_) (fun σ3 k3 a3 => ?_)
      · rw [if_neg (by omega)]
        by_cases e : j = 4
        · rw [if_pos e, e, pu_upE]
          omega
        · rw [if_neg e, pu_upI e]
      · have hrow : ∀ j, j < 77 → σ2 137 j = s j := fun j hj => by rw [a2 j, if_neg (by omega), j1 j hj, hs]
        refine kk σ3 ⟨?_, fun i q hi => ?_⟩ ⟨?_, fun i hi => ?_, fun u hu w hw => ?_⟩ (fun k hk => by rw [k3 k hk, k2 k hk, k1 k hk])
        · rw [a3 77, if_neg (by omega), if_neg (by decide), a2 77, if_neg (by omega), hA1.1, List.length_map]
        · rw [List.getElem?_map] at hi
          cases hq : L[i]? with
          | none => rw [hq] at hi; cases hi
          | some q0 =>
            rw [hq] at hi
            have e0 : q = puRen (t : Int) q0 := (Option.some.inj hi).symm
            have hlt := (List.getElem?_eq_some_iff.mp hq).1
            obtain ⟨g1, g2⟩ := hA1.2 i q0 hq
            have A : σ3 137 (78 + 2 * i) = (puRen (t : Int) q0).1 := by
              rw [a3 (78 + 2 * i), if_neg (by omega), if_neg (by omega), a2 (78 + 2 * i), if_pos (by omega), g1]
              rfl
            have B : σ3 137 (79 + 2 * i) = (puRen (t : Int) q0).2 := by
              rw [a3 (79 + 2 * i), if_neg (by omega), if_neg (by omega), a2 (79 + 2 * i), if_pos (by omega), g2]
              rfl
            rw [A, B, e0]
            exact ⟨rfl, rfl⟩
        · rw [a3 4, if_neg (by omega), if_pos rfl]
        · rw [a3 i, if_neg (by omega), if_neg (by omega), hrow i (by omega)]
        · rw [a3 (5 + 3 * u + w)]
          by_cases e : u < t
          · rw [if_neg (by omega), if_neg (by omega), if_pos e, hrow _ (by omega)]
          · rw [if_pos (by omega), if_neg e, hrow _ (by omega), show 5 + 3 * u + w + 3 = 5 + 3 * (u + 1) + w by omega]
/-- the class drops the arrows of a task -/
theorem pu_rmC_L {σ0 : gSt} {l : List (Int × Int)} (hl : l.length ≤ 30) {n t : Int} (hE : puEnds n l) (hn : n ≤ 24) (ht : gR t) (h7 : σ0 1 7 = (l.length : Int)) : ∀ (f x : Nat) (σ : gSt), l.length - x < f → x ≤ l.length → (∀ k, k ≠ 11 → k ≠ 13 → σ k = σ0 k) → (∀ (i : Nat) (q : Int × Int), (((l.take x).filter (puKeep t)).map (puRen t))[i]? = some q → σ 11 i = q.1 ∧ σ 13 i = q.2) → (∀ (i : Nat) (q : Int × Int), x ≤ i → l[i]? = some q → σ 11 i = q.1 ∧ σ 13 i = q.2) → puP (DX5_dropArrowsOf_L4 (DX5_dropArrowsOf_K93 1) 1 t f (x : Int) (((l.take x).filter (puKeep t)).length : Int) σ) (fun r => r.1 = (l.length : Int) - ((l.filter (puKeep t)).length : Int) ∧ puHB r.2 1 ((l.filter (puKeep t)).map (puRen t)) ∧ (∀ k, k ≠ 1 → k ≠ 11 → k ≠ 13 → r.2 k = σ0 k) ∧ (∀ i, i ≠ 7 → r.2 1 i = σ0 1 i)) := by
  intro f
  induction f with
  | zero => intro x σ h; omega
  | succ f ih =>
    intro x σ hf hx hK hA hB
    have e7 : σ 1 7 = (l.length : Int) := by rw [hK 1 (by decide) (by decide), h7]
    rw [DX5_dropArrowsOf_L4, e7]
    refine pu_if ⟨by omega, by omega⟩ ⟨by omega, by omega⟩ (fun c => ?_) (fun c => ?_)
    · obtain ⟨q, hq⟩ : ∃ q, l[x]? = some q := ⟨_, List.getElem?_eq_some_iff.mpr ⟨by omega, rfl⟩⟩
      have hqm := hE q (List.mem_of_getElem? hq)
      obtain ⟨g1, g2⟩ := hB x q (Nat.le_refl _) hq
      have htk : l.take (x + 1) = l.take x ++ [q] := by
        rw [List.take_add_one, hq]
        rfl
      have hkl : ((l.take x).filter (puKeep t)).length ≤ x := by
        have h1 := List.length_filter_le (puKeep t) (l.take x)
        rw [List.length_take] at h1
        omega
      have hskip : ¬ puKeep t q = true → puP (DX5_dropArrowsOf_J87 (DX5_dropArrowsOf_L4 (DX5_dropArrowsOf_K93 1) 1 t f) (x : Int) (((l.take x).filter (puKeep t)).length : Int) σ) (fun r => r.1 = (l.length : Int) - ((l.filter (puKeep t)).length : Int) ∧ puHB r.2 1 ((l.filter (puKeep t)).map (puRen t)) ∧ (∀ k, k ≠ 1 → k ≠ 11 → k ≠ 13 → r.2 k = σ0 k) ∧ (∀ i, i ≠ 7 → r.2 1 i = σ0 1 i)) := by
        intro hk
        have e3 : (l.take (x + 1)).filter (puKeep t) = (l.take x).filter (puKeep t) := by
          rw [htk, List.filter_append, List.filter_cons_of_neg hk]
          simp
        unfold DX5_dropArrowsOf_J87
        rw [show ((x : Int) + 1) = ((x + 1 : Nat) : Int) by omega, ← e3]
        exact ih (x + 1) σ (by omega) (by omega) hK (by rw [e3]; exact hA) (fun i p hi hp => hB i p (by omega) hp)
      have hput : puKeep t q = true → ∀ σ1 : gSt, (∀ k, k ≠ 11 → k ≠ 13 → σ1 k = σ k) → (∀ i, σ1 11 i = if i = ((l.take x).filter (puKeep t)).length then (puRen t q).1 else σ 11 i) → (∀ i, σ1 13 i = if i = ((l.take x).filter (puKeep t)).length then (puRen t q).2 else σ 13 i) → puP (DX5_dropArrowsOf_J87 (DX5_dropArrowsOf_L4 (DX5_dropArrowsOf_K93 1) 1 t f) (x : Int) ((((l.take x).filter (puKeep t)).length : Int) + 1) σ1) (fun r => r.1 = (l.length : Int) - ((l.filter (puKeep t)).length : Int) ∧ puHB r.2 1 ((l.filter (puKeep t)).map (puRen t)) ∧ (∀ k, k ≠ 1 → k ≠ 11 → k ≠ 13 → r.2 k = σ0 k) ∧ (∀ i, i ≠ 7 → r.2 1 i = σ0 1 i)) := by
        intro hk σ1 k1 a1 b1
        have e3 : (l.take (x + 1)).filter (puKeep t) = (l.take x).filter (puKeep t) ++ [q] := by
          rw [htk, List.filter_append, List.filter_cons_of_pos hk]
          simp
        unfold DX5_dropArrowsOf_J87
        rw [show ((x : Int) + 1) = ((x + 1 : Nat) : Int) by omega, show (((l.take x).filter (puKeep t)).length : Int) + 1 = (((l.take (x + 1)).filter (puKeep t)).length : Int) by rw [e3, List.length_append]; show _ = ((((l.take x).filter (puKeep t)).length + 1 : Nat) : Int); omega]
        refine ih (x + 1) σ1 (by omega) (by omega) (fun k q1 q2 => by rw [k1 k q1 q2, hK k q1 q2]) (fun i p hi => ?_) (fun i p hi hp => ?_)
        · rw [e3, List.map_append] at hi
          rw [a1 i, b1 i]
          rcases pu_snoc (show (((l.take x).filter (puKeep t)).map (puRen t) ++ [puRen t q])[i]? = some p from hi) with ⟨w1, w2⟩ | ⟨w1, w2⟩
          · rw [List.length_map] at w1
            rw [if_neg (by omega), if_neg (by omega)]
            exact hA i p w2
          · rw [List.length_map] at w1
            rw [if_pos w1, if_pos w1, w2]
            exact ⟨rfl, rfl⟩
        · rw [a1 i, b1 i, if_neg (by omega), if_neg (by omega)]
          exact hB i p (by omega) hp
      unfold DX5_from DX5_to
      rw [pu_atN (by omega) (by decide), Option.bind_some, Option.bind_some, pu_atN (by omega) (by decide), Option.bind_some, Option.bind_some, show σ (1 + 9 + 1) x = q.1 from g1, show σ (1 + 11 + 1) x = q.2 from g2]
      refine pu_if ⟨by omega, by omega⟩ ht (fun c1 => hskip (puKeep_F (Or.inl c1))) (fun c1 => ?_)
      refine pu_if ⟨by omega, by omega⟩ ht (fun c2 => hskip (puKeep_F (Or.inr c2))) (fun c2 => ?_)
      have hk := puKeep_T c1 c2
      have hJ58 : ∀ d : Int, d = (puRen t q).1 → puP (DX5_dropArrowsOf_J58 1 t (DX5_dropArrowsOf_L4 (DX5_dropArrowsOf_K93 1) 1 t f) (x : Int) (((l.take x).filter (puKeep t)).length : Int) σ q.2 d) (fun r => r.1 = (l.length : Int) - ((l.filter (puKeep t)).length : Int) ∧ puHB r.2 1 ((l.filter (puKeep t)).map (puRen t)) ∧ (∀ k, k ≠ 1 → k ≠ 11 → k ≠ 13 → r.2 k = σ0 k) ∧ (∀ i, i ≠ 7 → r.2 1 i = σ0 1 i)) := by
        intro d hd
        have hJ81 : ∀ e : Int, e = (puRen t q).2 → puP (DX5_dropArrowsOf_J81 1 (DX5_dropArrowsOf_L4 (DX5_dropArrowsOf_K93 1) 1 t f) (x : Int) (((l.take x).filter (puKeep t)).length : Int) (gUp σ (1 + 9 + 1) ((l.take x).filter (puKeep t)).length d) e) (fun r => r.1 = (l.length : Int) - ((l.filter (puKeep t)).length : Int) ∧ puHB r.2 1 ((l.filter (puKeep t)).map (puRen t)) ∧ (∀ k, k ≠ 1 → k ≠ 11 → k ≠ 13 → r.2 k = σ0 k) ∧ (∀ i, i ≠ 7 → r.2 1 i = σ0 1 i)) := by
          intro e he
          unfold DX5_dropArrowsOf_J81
          rw [pu_putN (by omega) (by decide), Option.bind_some]
          refine hput hk _ (fun k k1 k2 => by rw [pu_upK k2, pu_upK k1]) (fun i => ?_) (fun i => ?_)
          · rw [pu_upK (by decide), ← hd]
            show (if (11 : Nat) = 11 ∧ i = _ then d else σ 11 i) = _
            by_cases w : i = ((l.take x).filter (puKeep t)).length
            · rw [if_pos ⟨rfl, w⟩, if_pos w]
            · rw [if_neg (fun z => w z.2), if_neg w]
          · rw [← he]
            show (if (13 : Nat) = 13 ∧ i = _ then e else gUp σ (1 + 9 + 1) ((l.take x).filter (puKeep t)).length d 13 i) = _
            rw [pu_upK (k' := 13) (by decide)]
            by_cases w : i = ((l.take x).filter (puKeep t)).length
            · rw [if_pos ⟨rfl, w⟩, if_pos w]
            · rw [if_neg (fun z => w z.2), if_neg w]
        unfold DX5_dropArrowsOf_J58
        rw [pu_putN (by omega) (by decide), Option.bind_some]
        refine pu_if ⟨by omega, by omega⟩ ht (fun c3 => hJ81 _ ?_) (fun c3 => hJ81 _ ?_)
        · show _ = if t < q.2 then q.2 - 1 else q.2
          rw [if_pos c3]
        · show _ = if t < q.2 then q.2 - 1 else q.2
          rw [if_neg c3]
      refine pu_if ⟨by omega, by omega⟩ ht (fun c3 => hJ58 _ ?_) (fun c3 => hJ58 _ ?_)
      · show _ = if t < q.1 then q.1 - 1 else q.1
        rw [if_pos c3]
      · show _ = if t < q.1 then q.1 - 1 else q.1
        rw [if_neg c3]
    · have e : x = l.length := by omega
      subst e
      rw [List.take_length] at hA ⊢
      unfold DX5_dropArrowsOf_K93
      rw [e7]
      refine pu_some ⟨rfl, ⟨?_, fun i q hi => ?_⟩, fun k k1 k2 k3 => ?_, fun i hi => ?_⟩
      · show gUp σ 1 7 ((l.filter (puKeep t)).length : Int) 1 7 = _
        rw [pu_upE, List.length_map]
      · show gUp σ 1 7 ((l.filter (puKeep t)).length : Int) (1 + 10) i = _ ∧ gUp σ 1 7 ((l.filter (puKeep t)).length : Int) (1 + 12) i = _
        rw [pu_upK (by decide), pu_upK (by decide)]
        exact hA i q hi
      · show gUp σ 1 7 ((l.filter (puKeep t)).length : Int) k = _
        rw [pu_upK k1, hK k k2 k3]
      · show gUp σ 1 7 ((l.filter (puKeep t)).length : Int) 1 i = _
        rw [pu_upI hi, hK 1 (by decide) (by decide)]
theorem pu_rmC {σ : gSt} {s : Nat → Int} {l : List (Int × Int)} (hp : puPl σ 1 s) (hA : puHA s l) (hl : l.length ≤ 30) {t n : Nat} (h4 : s 4 = (n : Int)) (hn : n ≤ 24) (htn : t < n) (hE : puEnds (n : Int) l) : puP (DX5_dropTask 1 σ (t : Int)) (fun r => r.1 = (l.length : Int) - ((l.filter (puKeep (t : Int))).length : Int) ∧ puHB r.2 1 ((l.filter (puKeep (t : Int))).map (puRen (t : Int))) ∧ r.2 1 6 = ((n - 1 : Nat) : Int) ∧ r.2 3 = σ 3 ∧ (∀ u : Nat, u < n - 1 → r.2 5 u = (if u < t then σ 5 u else σ 5 (u + 1)) ∧ r.2 7 u = (if u < t then σ 7 u else σ 7 (u + 1)) ∧ r.2 9 u = (if u < t then σ 9 u else σ 9 (u + 1))) ∧ (∀ k, 13 < k → r.2 k = σ k)) := by
  have e6 : σ 1 6 = (n : Int) := by rw [hp.1, h4]
  have hB := puHB_of hp hA
  have e7 : σ 1 7 = (l.length : Int) := hB.1
  have hgap : ∀ (τ : gSt) (m : Nat), DX4_closeGap m 24 τ (t : Int) = some (puGap τ (m + 1) (t : Int) 24) := fun τ m => pu_gap (by decide) (by omega) (by omega)
  unfold DX5_dropTask DX5_hasTask
  rw [e6, pu_ifF ⟨by omega, by omega⟩ (by decide) (by omega), pu_ifT ⟨by omega, by omega⟩ ⟨by omega, by omega⟩ (by omega), pu_bo (Or.inr rfl), Option.bind_some, pu_ifF (by decide) (by decide) (by decide), hgap, Option.bind_some, hgap, Option.bind_some, hgap, Option.bind_some]
  have hK : ∀ k, k ≠ 5 → k ≠ 7 → k ≠ 9 → puGap (puGap (puGap σ (1 + 3 + 1) (t : Int) 24) (1 + 5 + 1) (t : Int) 24) (1 + 7 + 1) (t : Int) 24 k = σ k := fun k k1 k2 k3 => by rw [puGap_K k3, puGap_K k2, puGap_K k1]
  have hG : ∀ u : Nat, u < n - 1 → puGap (puGap (puGap σ (1 + 3 + 1) (t : Int) 24) (1 + 5 + 1) (t : Int) 24) (1 + 7 + 1) (t : Int) 24 5 u = (if u < t then σ 5 u else σ 5 (u + 1)) ∧ puGap (puGap (puGap σ (1 + 3 + 1) (t : Int) 24) (1 + 5 + 1) (t : Int) 24) (1 + 7 + 1) (t : Int) 24 7 u = (if u < t then σ 7 u else σ 7 (u + 1)) ∧ puGap (puGap (puGap σ (1 + 3 + 1) (t : Int) 24) (1 + 5 + 1) (t : Int) 24) (1 + 7 + 1) (t : Int) 24 9 u = (if u < t then σ 9 u else σ 9 (u + 1)) := by
    intro u hu
    refine ⟨?_, ?_, ?_⟩
    · rw [puGap_K (by decide), puGap_K (by decide)]
      show (if (5 : Nat) = 5 ∧ (t : Int) ≤ (u : Int) ∧ u + 1 < 24 then σ 5 (u + 1) else σ 5 u) = _
      by_cases e : u < t
      · rw [if_neg (by omega), if_pos e]
      · rw [if_pos (by omega), if_neg e]
    · rw [puGap_K (by decide)]
      show (if (7 : Nat) = 7 ∧ (t : Int) ≤ (u : Int) ∧ u + 1 < 24 then puGap σ (1 + 3 + 1) (t : Int) 24 7 (u + 1) else puGap σ (1 + 3 + 1) (t : Int) 24 7 u) = _
      rw [puGap_K (k' := 7) (by decide)]
      by_cases e : u < t
      · rw [if_neg (by omega), if_pos e]
      · rw [if_pos (by omega), if_neg e]
    · show (if (9 : Nat) = 9 ∧ (t : Int) ≤ (u : Int) ∧ u + 1 < 24 then puGap (puGap σ (1 + 3 + 1) (t : Int) 24) (1 + 5 + 1) (t : Int) 24 9 (u + 1) else puGap (puGap σ (1 + 3 + 1) (t : Int) 24) (1 + 5 + 1) (t : Int) 24 9 u) = _
      rw [puGap_K (k' := 9) (by decide), puGap_K (k' := 9) (by decide)]
      by_cases e : u < t
      · rw [if_neg (by omega), if_pos e]
      · rw [if_pos (by omega), if_neg e]
  generalize puGap (puGap (puGap σ (1 + 3 + 1) (t : Int) 24) (1 + 5 + 1) (t : Int) 24) (1 + 7 + 1) (t : Int) 24 = σ1 at hK hG ⊢
  rw [hK 1 (by decide) (by decide) (by decide), e6]
  unfold DX5_dropArrowsOf
  have h := pu_rmC_L (σ0 := gUp σ1 1 6 ((n : Int) - 1)) (l := l) hl hE (by omega) (t := (t : Int)) ⟨by omega, by omega⟩ (by rw [pu_upI (by decide), hK 1 (by decide) (by decide) (by decide), e7]) gFuel 0 (gUp σ1 1 6 ((n : Int) - 1)) (by rw [gFuel_eq]; omega) (Nat.zero_le _) (fun _ _ _ => rfl) (fun i q hi => by
    rw [List.take_zero] at hi
    cases hi) (fun i q _ hi => by
    rw [pu_upK (by decide), pu_upK (by decide), hK 11 (by decide) (by decide) (by decide), hK 13 (by decide) (by decide) (by decide)]
    exact hB.2 i q hi)
  refine pu_b h (fun r w => pu_some ?_)
  obtain ⟨w1, w2, w3, w4⟩ := w
  refine ⟨w1, w2, ?_, ?_, fun u hu => ?_, fun k hk => ?_⟩
  · show r.2 1 6 = _
    rw [w4 6 (by decide), pu_upE]
    omega
  · show r.2 3 = _
    rw [w3 3 (by decide) (by decide) (by decide), pu_upK (by decide), hK 3 (by decide) (by decide) (by decide)]
  · show r.2 5 u = _ ∧ r.2 7 u = _ ∧ r.2 9 u = _
    rw [w3 5 (by decide) (by decide) (by decide), w3 7 (by decide) (by decide) (by decide), w3 9 (by decide) (by decide) (by decide), pu_upK (by decide), pu_upK (by decide), pu_upK (by decide)]
    exact hG u hu
  · show r.2 k = _
    rw [w3 k (by omega) (by omega) (by omega), pu_upK (by omega), hK k (by omega) (by omega) (by omega)]
