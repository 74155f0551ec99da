/-! the law's case parse -/
theorem puRd_nol {tx : Nat → Int} {n d p e : Nat} {lo hi : Int} (hd : d ≤ 3) (h : puRd tx n d lo hi p = .inl e) : e ≤ p + 3 := (puRd_no hd h).2
theorem puItT_e {tx : Nat → Int} {n p e : Nat} (h : puItT tx n p = .inl e) : e ≤ p + 30 := by
  by_cases c1 : 48 ≤ puNt tx n (p + 1) ∧ puNt tx n (p + 1) ≤ 53
  · by_cases c2 : puNt tx n (p + 2) = 44
    · cases e3 : puRd tx n 3 0 199 (p + 3) with
      | inl x =>
        rw [puItT_3 c1 c2 e3] at h
        have := Sum.inl.inj h
        have := puRd_nol (by decide) e3
        omega
      | inr q =>
        obtain ⟨q1, q2, q3, q4⟩ := puRd_e (by decide) e3
        by_cases c3 : puNt tx n q.1 = 44
        · cases e4 : puRd tx n 2 1 60 (q.1 + 1) with
          | inl x =>
            rw [puItT_5 c1 c2 e3 c3 e4] at h
            have := Sum.inl.inj h
            have := puRd_nol (by decide) e4
            omega
          | inr r =>
            obtain ⟨r1, r2, r3, r4⟩ := puRd_e (by decide) e4
            by_cases c4 : puNt tx n r.1 = 59
            · rw [puItT_7 c1 c2 e3 c3 e4 c4] at h
              cases h
            · rw [puItT_6 c1 c2 e3 c3 e4 c4] at h
              have := Sum.inl.inj h
              omega
        · rw [puItT_4 c1 c2 e3 c3] at h
          have := Sum.inl.inj h
          omega
    · rw [puItT_2 c1 c2] at h
      have := Sum.inl.inj h
      omega
  · rw [puItT_1 c1] at h
    have := Sum.inl.inj h
    omega
theorem puItA_e {tx : Nat → Int} {n p m e : Nat} (h : puItA tx n p m = .inl e) : e ≤ p + 30 := by
  by_cases c1 : puNt tx n p = 97
  · cases e3 : puRd tx n 2 0 ((m : Int) - 1) (p + 1) with
    | inl x =>
      rw [puItA_2 c1 e3] at h
      have := Sum.inl.inj h
      have := puRd_nol (by decide) e3
      omega
    | inr q =>
      obtain ⟨q1, q2, q3, q4⟩ := puRd_e (by decide) e3
      by_cases c3 : puNt tx n q.1 = 44
      · cases e4 : puRd tx n 2 0 ((m : Int) - 1) (q.1 + 1) with
        | inl x =>
          rw [puItA_4 c1 e3 c3 e4] at h
          have := Sum.inl.inj h
          have := puRd_nol (by decide) e4
          omega
        | inr r =>
          obtain ⟨r1, r2, r3, r4⟩ := puRd_e (by decide) e4
          by_cases c4 : r.2 = q.2
          · rw [puItA_5 c1 e3 c3 e4 c4] at h
            have := Sum.inl.inj h
            omega
          · by_cases c5 : puNt tx n r.1 = 59
            · rw [puItA_7 c1 e3 c3 e4 c4 c5] at h
              cases h
            · rw [puItA_6 c1 e3 c3 e4 c4 c5] at h
              have := Sum.inl.inj h
              omega
      · rw [puItA_3 c1 e3 c3] at h
        have := Sum.inl.inj h
        omega
  · rw [puItA_1 c1] at h
    have := Sum.inl.inj h
    omega
theorem puPs_e {tx : Nat → Int} {n : Nat} : ∀ (f p : Nat) (T : List (Int × Int × Int)) (A : List (Int × Int)) (e : Nat), puPs tx n f p T A = .inl e → e ≤ n + 30 := by
  intro f
  induction f with
  | zero =>
    intro p T A e h
    have : 0 = e := Sum.inl.inj h
    omega
  | succ f ih =>
    intro p T A e h
    unfold puPs at h
    split at h
    · rename_i hp
      split at h
      · cases e1 : puItT tx n p with
        | inl x =>
          rw [e1] at h
          have : x = e := Sum.inl.inj h
          have := puItT_e e1
          omega
        | inr x =>
          rw [e1] at h
          exact ih _ _ _ _ h
      · cases e1 : puItA tx n p T.length with
        | inl x =>
          rw [e1] at h
          have : x = e := Sum.inl.inj h
          have := puItA_e e1
          omega
        | inr x =>
          rw [e1] at h
          exact ih _ _ _ _ h
    · cases h
theorem puInv.tx2 {σ σ' : gSt} (h : puInv σ) (hk : ∀ k, (1 ≤ k ∧ k ≤ 13) ∨ (27 ≤ k ∧ k ≤ 80) ∨ (87 ≤ k ∧ k ≤ 117) ∨ k = 137 ∨ k = 138 → σ' k = σ k) (h3 : σ' 136 3 = σ 136 3) (ht : puTx σ') : puInv σ' := by
  obtain ⟨g1, g2, g3, g4⟩ := h
  have e : σ' 137 = σ 137 := hk 137 (by omega)
  refine ⟨by rw [e]; exact g1, ?_, g3.same (fun k q => hk k (by omega)) h3, ht⟩
  rw [e]
  exact g2.same (fun k q => hk k (by omega))
theorem pu_24 {σ : gSt} {μ : gLg} (xs : Nat → Int32) (j : Nat) (hI : puInv σ) : puP (DL_c24 xs j σ μ) (fun r => puInv r.1) := by
  unfold DL_c24
  have ho := hI.1
  obtain ⟨n, n1, n2, n3, n4⟩ := hI.2.2.2
  have hx : puTxOk (σ 140) n := ⟨n1, fun i hi => (n4 i hi).2⟩
  obtain ⟨⟨r, σ1⟩, e1, w1, w2⟩ := pu_readC (tx := σ 140) hx n2 (fun i hi => (n4 i hi).1)
  have w1 : puXF σ σ1 := w1
  have k1 : ∀ k, k ≠ 81 → k < 14 ∨ 26 < k → σ1 k = σ k := w1.1
  have hT1 : puTx σ1 := hI.2.2.2.elim (fun m hm => by
    obtain ⟨m1, m2, m3, m4⟩ := hm
    refine ⟨m, m1, by rw [w1.2, m2], by rw [k1 136 (by decide) (by decide), m3], fun i hi => ?_⟩
    rw [k1 83 (by decide) (by decide), k1 140 (by decide) (by decide)]
    exact m4 i hi)
  cases e : puPs (σ 140) n 200 0 [] [] with
  | inl e0 =>
    rw [e] at w2
    have w2 : r = (e0 : Int) := w2
    have he := puPs_e 200 0 [] [] e0 e
    obtain ⟨τ0, k0, i0, a0, hO, h6⟩ := pu_parseR (σ := σ1) (tx := σ 140) hx (by rw [k1 136 (by decide) (by decide), n3]) (fun i hi => by rw [k1 140 (by decide) (by decide)])
    rw [e] at hO
    obtain ⟨τ', f1, f2, f3⟩ := hO
    have ec : DX8_parse σ = some ((-10 : Int) - (e0 : Int), σ1) := by
      unfold DX8_parse
      rw [e1, Option.bind_some]
      show gIf (r = -1) r (-1) _ (some ((-10 : Int) - r, σ1)) = _
      rw [w2, pu_ifF ⟨by omega, by omega⟩ (by decide) (by omega)]
    rw [ec, Option.bind_some]
    show puP ((DX9_parse σ1).bind fun q1471 => gIf ((-10 : Int) - (e0 : Int) = q1471.1) ((-10 : Int) - (e0 : Int)) q1471.1 (some (q1471.2, μ)) none) _
    rw [f1, Option.bind_some]
    show puP (gIf ((-10 : Int) - (e0 : Int) = (-10 : Int) - (e0 : Int)) ((-10 : Int) - (e0 : Int)) ((-10 : Int) - (e0 : Int)) (some (τ', μ)) none) _
    rw [pu_ifT ⟨by omega, by omega⟩ ⟨by omega, by omega⟩ rfl]
    have kk : ∀ k, k ≠ 136 → k ≠ 137 → k ≠ 139 → τ' k = σ1 k := fun k q1 q2 q3 => by rw [f2.1 k q1 q2, k0 k q1 q2 q3]
    have hfin : puInv τ' := by
      refine hI.tx2 (fun k hk => ?_) ?_ (hT1.same (fun k hk => kk k (by omega) (by omega) (by omega)) (by rw [f2.2 5 (by decide) (by decide), i0 5 (by decide) (by decide)]))
      · by_cases q : k = 137
        · subst q
          rw [f3, k1 137 (by decide) (by decide)]
        · rw [kk k (by omega) q (by omega), k1 k (by omega) (by omega)]
      · rw [f2.2 3 (by decide) (by decide), i0 3 (by decide) (by decide), k1 136 (by decide) (by decide)]
    exact pu_some hfin
  | inr q =>
    obtain ⟨T, A⟩ := q
    rw [e] at w2
    have w2 : r = -1 ∧ puTd σ1 T A := w2
    obtain ⟨p', hG⟩ := puPs_gd 200 0 [] [] T A ⟨Nat.zero_le _, Nat.le_refl _, (fun q hq => by cases hq), (fun q hq => by cases hq)⟩ e
    obtain ⟨g1, g2, g3, g4⟩ := hG
    obtain ⟨nx, cc, p, hC, hR⟩ := puHis_to hI.2.2.1
    obtain ⟨σ2, e2, hC2, k2⟩ := pu_save ho (hI.2.1.1.same (σ' := σ1) (fun k a1 a2 => k1 k (by omega) (by omega))) (hC.same (σ' := σ1) (fun k a1 a2 => k1 k (by omega) (by omega)))
    have t2 : puTd σ2 T A := w2.2.same (fun k a1 a2 => k2 k (by omega))
    have hp2 : puPl σ2 1 (σ 137) := hI.2.1.1.same (fun k a1 a2 => by rw [k2 k (by omega), k1 k (by omega) (by omega)])
    obtain ⟨σ3, e3, c1, c2, c3, c4, k3⟩ := pu_cta (σ := σ2) (b := 1) (p := 14) (by decide)
    have hB3 : puHB σ3 1 A := by
      refine ⟨by rw [c4]; exact t2.2.2.1, fun i q hi => ?_⟩
      have hlt := (List.getElem?_eq_some_iff.mp hi).1
      obtain ⟨b1, b2⟩ := c2 i (by omega)
      obtain ⟨b3, b4⟩ := t2.2.2.2 i q hi
      exact ⟨by rw [b1, b3], by rw [b2, b4]⟩
    have hmk : ∀ s' : Nat → Int, puRT s' (σ 137) T A → puOk s' ∧ puPl σ3 1 s' := by
      intro s' hs'
      obtain ⟨h1, h2, h3, h4⟩ := hs'
      refine ⟨puOk_mk (l := A) (by rw [h4 0 (by omega)]; exact ho.rows) (by rw [h4 1 (by omega)]; exact ho.days) (by rw [h4 2 (by omega)]; exact ho.keep) (by rw [h4 3 (by omega)]; exact ho.order) (by rw [h1]; omega) (fun t ht => ?_) h3 (by omega) (by rw [h1]; exact g4), puPl_mk (l := A) (by rw [c3, h1]; exact t2.1) (fun i hi => ?_) (fun t ht => ?_) h3 hB3⟩
      · rw [h1] at ht
        obtain ⟨q, hq⟩ : ∃ q, T[t]? = some q := ⟨_, List.getElem?_eq_some_iff.mpr ⟨by omega, rfl⟩⟩
        obtain ⟨b1, b2, b3⟩ := h2 t q hq
        rw [b1, b2, b3]
        exact g3 q (List.mem_of_getElem? hq)
      · rw [k3 (1 + 2) (by decide) (by decide) (by decide) (by decide) (by decide) (by decide), h4 i (by omega)]
        exact hp2.2.2.1 i hi
      · rw [h1] at ht
        obtain ⟨q, hq⟩ : ∃ q, T[t]? = some q := ⟨_, List.getElem?_eq_some_iff.mpr ⟨by omega, rfl⟩⟩
        obtain ⟨b1, b2, b3⟩ := h2 t q hq
        obtain ⟨d1, d2, d3⟩ := c1 t (by omega)
        obtain ⟨b4, b5, b6⟩ := t2.2.1 t q hq
        rw [d1, d2, d3, b1, b2, b3]
        exact ⟨b4, b5, b6⟩
    -- some row that it can be
    have hex : ∃ s' : Nat → Int, puRT s' (σ 137) T A := by
      obtain ⟨τ0, k0, i0, a0, hO, h6⟩ := pu_parseR (σ := σ1) (tx := σ 140) hx (by rw [k1 136 (by decide) (by decide), n3]) (fun i hi => by rw [k1 140 (by decide) (by decide)])
      rw [e, k1 137 (by decide) (by decide)] at hO
      obtain ⟨τ', f1, f2, f3⟩ := hO
      exact ⟨τ' 137, f3⟩
    obtain ⟨s', hs'⟩ := hex
    obtain ⟨ho3, hp3⟩ := hmk s' hs'
    obtain ⟨σ4, e4, hV, k4⟩ := pu_printAnew ho3 hp3
    have k34 : ∀ k, 13 < k → k < 87 ∨ 117 < k → σ4 k = σ2 k := fun k q1 q2 => by rw [k4 k q2, k3 k (by omega) (by omega) (by omega) (by omega) (by omega) (by omega)]
    have kσ : ∀ k, 117 < k → σ4 k = σ k := fun k hk => by rw [k34 k (by omega) (by omega), k2 k (by omega), k1 k (by omega) (by omega)]
    have hC4 : puHC σ4 ((nx + 1) % 4) (puCt cc) (puPush cc (σ 137) p) := hC2.same (fun k a1 a2 => k34 k (by omega) (by omega))
    have hT4 : puTx σ4 := hT1.same (fun k hk => by rw [k34 k (by omega) (by omega), k2 k (by omega)]) (by rw [k34 136 (by decide) (by decide), k2 136 (by decide)])
    obtain ⟨τ0, k0, i0, a0, hO, h6⟩ := pu_parseR (σ := σ4) (tx := σ 140) hx (by rw [kσ 136 (by decide), n3]) (fun i hi => by rw [kσ 140 (by decide)])
    rw [e, kσ 137 (by decide)] at hO
    obtain ⟨τ', f1, f2, f3⟩ := hO
    obtain ⟨ho5, hp5⟩ := hmk (τ' 137) f3
    obtain ⟨σ4', e4', hV', _⟩ := pu_printAnew ho5 hp5
    have eS : σ4' = σ4 := Option.some.inj (e4'.symm.trans e4)
    rw [eS] at hV'
    have kk : ∀ k, k ≠ 136 → k ≠ 137 → k ≠ 139 → τ' k = σ4 k := fun k q1 q2 q3 => by rw [f2.1 k q1 q2, k0 k q1 q2 q3]
    have hR' : puHR τ' cc p := ⟨by rw [f2.2 3 (by decide) (by decide), i0 3 (by decide) (by decide), kσ 136 (by decide)]; exact hR.1, fun k hk i hi => by rw [kk 138 (by decide) (by decide) (by decide), kσ 138 (by decide)]; exact hR.2 k hk i hi⟩
    obtain ⟨τ3, u1, u2, u3, u4⟩ := pu_ends (σ := τ') (s := σ 137) hC.2.1 hR' (fun i hi => by rw [f2.1 139 (by decide) (by decide), a0 i hi, kσ 137 (by decide)]) (T.length : Int)
    have hIf : puInv (gUp τ3 136 6 0) := by
      have h : puInv τ3 := by
        have e137 : τ3 137 = τ' 137 := u3 137 (by decide) (by decide)
        have k5 : ∀ k, k ≠ 136 → k ≠ 137 → k ≠ 138 → k ≠ 139 → τ3 k = σ4 k := fun k q1 q2 q3 q4 => by rw [u3 k q1 q3, kk k q1 q2 q4]
        refine ⟨by rw [e137]; exact ho5, ?_, puHis_of (hC4.same (fun k a1 a2 => k5 k (by omega) (by omega) (by omega) (by omega))) u2, hT4.same (fun k q => k5 k (by omega) (by omega) (by omega) (by omega)) (by rw [u4 5 (by decide), f2.2 5 (by decide) (by decide), i0 5 (by decide) (by decide)])⟩
        rw [e137]
        exact hV'.same (fun k q => k5 k (by omega) (by omega) (by omega) (by omega))
      exact h.six 0
    have ec : DX8_parse σ = some ((T.length : Int), σ4) := by
      unfold DX8_parse
      rw [e1, Option.bind_some]
      show gIf (r = -1) r (-1) ((DX3_save 1 σ1).bind fun q30 => (DX5_copyTasksAndArrows 1 14 q30).bind fun q41 => (DX8_printAnew q41).bind fun q45 => (DX5_taskCount 1 q45).bind fun q52 => some (q52, q45)) (some ((-10 : Int) - r, σ1)) = _
      rw [w2.1, pu_ifT (by decide) (by decide) rfl, e2, Option.bind_some, e3, Option.bind_some, e4, Option.bind_some, pu_tasks hV'.1, Option.bind_some, f3.1]
    have er : DX9_parse σ4 = some ((T.length : Int), gUp τ3 136 6 0) := by
      rw [f1]
      unfold DX9_parse_K82
      rw [pu_gat (by decide) (by decide), show τ' 137 (Int.toNat (4 : Int)) = (T.length : Int) from f3.1, u1]; rfl
    rw [ec, Option.bind_some]
    show puP ((DX9_parse σ4).bind fun q1471 => gIf ((T.length : Int) = q1471.1) (T.length : Int) q1471.1 (some (q1471.2, μ)) none) _
    rw [er, Option.bind_some]
    show puP (gIf ((T.length : Int) = (T.length : Int)) (T.length : Int) (T.length : Int) (some (gUp τ3 136 6 0, μ)) none) _
    rw [pu_ifT ⟨by omega, by omega⟩ ⟨by omega, by omega⟩ rfl]
    exact pu_some hIf
