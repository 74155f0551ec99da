/-! the reference reads an item -/
theorem pu_itemA {τ : gSt} {tx : Nat → Int} {n p : Nat} {s0 : Nat → Int} {T : List (Int × Int × Int)} {A : List (Int × Int)} (hx : puTxOk tx n) (h : puRX τ tx n p) (hp : p < n) (ht : puRT (τ 137) s0 T A) (hT : T.length ≤ 24) (hA : A.length < 30) (hE : puEnds (T.length : Int) A) : puP (DX9_isItem_J141 τ) (fun r => puRH τ r.2 ∧ match puItA tx n p T.length with
    | .inl e => r.1 = 0 ∧ r.2 136 16 = (e : Int) ∧ r.2 137 = τ 137
    | .inr q => r.1 = 1 ∧ puRX r.2 tx n q.1 ∧ puRT (r.2 137) s0 T (puAdd A q.2)) := by
  have hn := hx.1
  have e77 : τ 137 (Int.toNat (77 : Int)) = (A.length : Int) := ht.2.2.1.1
  unfold DX9_isItem_J141
  rw [pu_isAt hx h (by omega) (by decide) (by decide), Option.bind_some]
  by_cases c1 : puNt tx n p = 97
  · rw [if_pos (by omega), pu_ifF (by decide) (by decide) (by decide), pu_gat (by decide) (by decide), e77, pu_ifF ⟨by omega, by omega⟩ (by decide) (by omega), pu_gat (by decide) (by decide), h.2.1, show ((p : Int) + 1) = ((p + 1 : Nat) : Int) by omega]
    have h1 := h.up (p + 1)
    have F1 : puRG τ (gUp τ 136 16 ((p + 1 : Nat) : Int)) := puRG.up (Or.inl rfl)
    generalize gUp τ 136 16 ((p + 1 : Nat) : Int) = τ1 at h1 F1 ⊢
    rw [show τ1 137 (Int.toNat (4 : Int)) = (T.length : Int) by rw [F1.1 137 (by decide)]; exact ht.1]
    show puP ((DX9_isWithin τ1 ((2 : Nat) : Int) 0 ((T.length : Int) - 1) (-1)).bind _) _
    cases e3 : puRd tx n 2 0 ((T.length : Int) - 1) (p + 1) with
    | inl e =>
      obtain ⟨τ4, w1, w2, w3⟩ := pu_rdR0 (no := -1) hx h1 (by omega) (by decide) (by decide) ⟨by omega, by omega⟩ (by decide) e3
      rw [puItA_2 c1 e3, w1, Option.bind_some]
      refine pu_p0 ?_
      rw [pu_bo (Or.inl rfl)]
      exact pu_some ⟨(F1.trans w2).h, rfl, w3, (F1.trans w2).1 137 (by decide)⟩
    | inr q =>
      obtain ⟨q1, q2, q3, q4⟩ := puRd_e (by decide) e3
      obtain ⟨τ4, w1, w2, w3, w4⟩ := pu_rdR1 (no := -1) hx h1 (by omega) (by decide) (by decide) ⟨by omega, by omega⟩ (by decide) e3 (by omega)
      have F4 := F1.trans w2
      rw [w1, Option.bind_some]
      refine pu_p1 ?_
      by_cases c3 : puNt tx n q.1 = 44
      · have h5 := w3.up (q.1 + 1)
        have F5 := F4.trans (puRG.up (i := 16) (v := ((q.1 + 1 : Nat) : Int)) (Or.inl rfl))
        rw [show ((1, τ4) : Int × gSt).2 = τ4 from rfl, pu_takes1 hx w3 (by omega) (by decide) c3, Option.bind_some]
        refine pu_p1 ?_
        rw [show ((1, gUp τ4 136 16 ((q.1 + 1 : Nat) : Int)) : Int × gSt).2 = gUp τ4 136 16 ((q.1 + 1 : Nat) : Int) from rfl, pu_gat (by decide) (by decide), w4]
        generalize gUp τ4 136 16 ((q.1 + 1 : Nat) : Int) = τ5 at h5 F5 ⊢
        rw [show τ5 137 (Int.toNat (4 : Int)) = (T.length : Int) by rw [F5.1 137 (by decide)]; exact ht.1]
        show puP ((DX9_isWithin τ5 ((2 : Nat) : Int) 0 ((T.length : Int) - 1) q.2).bind _) _
        cases e4 : puRd tx n 2 0 ((T.length : Int) - 1) (q.1 + 1) with
        | inl e =>
          obtain ⟨τ6, v1, v2, v3⟩ := pu_rdR0 (no := q.2) hx h5 (by omega) (by decide) (by decide) ⟨by omega, by omega⟩ ⟨by omega, by omega⟩ e4
          rw [puItA_4 c1 e3 c3 e4, v1, Option.bind_some]
          refine pu_p0 ?_
          rw [pu_bo (Or.inl rfl)]
          exact pu_some ⟨(F5.trans v2).h, rfl, v3, (F5.trans v2).1 137 (by decide)⟩
        | inr r =>
          obtain ⟨r1, r2, r3, r4⟩ := puRd_e (by decide) e4
          by_cases c4 : r.2 = q.2
          · obtain ⟨τ6, v1, v2, v3⟩ := pu_rdR2 (no := q.2) hx h5 (by omega) (by decide) (by decide) ⟨by omega, by omega⟩ ⟨by omega, by omega⟩ e4 c4
            rw [puItA_5 c1 e3 c3 e4 c4, v1, Option.bind_some]
            refine pu_p0 ?_
            rw [pu_bo (Or.inl rfl)]
            exact pu_some ⟨(F5.trans v2).h, rfl, v3, (F5.trans v2).1 137 (by decide)⟩
          · obtain ⟨τ6, v1, v2, v3, v4⟩ := pu_rdR1 (no := q.2) hx h5 (by omega) (by decide) (by decide) ⟨by omega, by omega⟩ ⟨by omega, by omega⟩ e4 c4
            have F6 := F5.trans v2
            rw [v1, Option.bind_some]
            refine pu_p1 ?_
            by_cases c5 : puNt tx n r.1 = 59
            · have h7 := v3.up (r.1 + 1)
              have F7 := F6.trans (puRG.up (i := 16) (v := ((r.1 + 1 : Nat) : Int)) (Or.inl rfl))
              rw [show ((1, τ6) : Int × gSt).2 = τ6 from rfl, pu_takes1 hx v3 (by omega) (by decide) c5, Option.bind_some]
              refine pu_p1 ?_
              have e74 : gUp τ6 136 16 ((r.1 + 1 : Nat) : Int) 136 17 = r.2 := by rw [pu_upI (by decide), v4]
              rw [show ((1, gUp τ6 136 16 ((r.1 + 1 : Nat) : Int)) : Int × gSt).2 = gUp τ6 136 16 ((r.1 + 1 : Nat) : Int) from rfl, e74, puItA_7 c1 e3 c3 e4 c4 c5]
              generalize gUp τ6 136 16 ((r.1 + 1 : Nat) : Int) = τ7 at h7 F7 ⊢
              have e137 : τ7 137 = τ 137 := F7.1 137 (by decide)
              have hA7 : puHA (τ7 137) A := by rw [e137]; exact ht.2.2.1
              have hr := hE.gR (by omega)
              rw [pu_hasR hA7 (by omega) ⟨by omega, by omega⟩ ⟨by omega, by omega⟩ hr, Option.bind_some, pu_bo (Or.inr rfl)]
              by_cases c6 : puHas A q.2 r.2 A.length = true
              · rw [if_pos c6, pu_ifF (by decide) (by decide) (by decide)]
                refine pu_some ⟨F7.h, rfl, h7, ?_⟩
                show puRT (τ7 137) s0 T (puAdd A (q.2, r.2))
                unfold puAdd
                rw [if_pos c6, e137]
                exact ht
              · rw [if_neg c6, pu_ifT (by decide) (by decide) rfl]
                obtain ⟨τ8, u1, u2, u3, u4⟩ := pu_arrowComes hA7 hA q.2 r.2
                have u5 := pu_comesHi hA7 hA u1
                rw [u1, Option.bind_some, pu_bo (Or.inr rfl)]
                have e136 : τ8 136 = τ7 136 := u4 136 (by decide)
                refine pu_some ⟨F7.h.trans ⟨fun k _ k2 => u4 k k2, fun i _ _ => by show τ8 136 i = τ7 136 i; rw [e136]⟩, rfl, ⟨?_, ?_, fun i hi => ?_⟩, ?_⟩
                · show τ8 136 5 = _
                  rw [e136]
                  exact h7.1
                · show τ8 136 16 = _
                  rw [e136]
                  exact h7.2.1
                · show τ8 140 i = _
                  rw [u4 140 (by decide)]
                  exact h7.2.2 i hi
                · show puRT (τ8 137) s0 T (puAdd A (q.2, r.2))
                  unfold puAdd
                  rw [if_neg c6]
                  refine ⟨by rw [u3 4 (by decide), e137]; exact ht.1, fun i z hi => ?_, u2, fun i hi => ?_⟩
                  · have hlt := (List.getElem?_eq_some_iff.mp hi).1
                    rw [u3 (5 + 3 * i) (by omega), u3 (6 + 3 * i) (by omega), u3 (7 + 3 * i) (by omega), e137]
                    exact ht.2.1 i z hi
                  · rcases hi with hi | hi
                    · rw [u3 i (by omega), e137]
                      exact ht.2.2.2 i (Or.inl hi)
                    · rw [u5 i hi, e137]
                      exact ht.2.2.2 i (Or.inr hi)
            · rw [show ((1, τ6) : Int × gSt).2 = τ6 from rfl, pu_takes0 hx v3 (by omega) (by decide) c5, Option.bind_some, puItA_6 c1 e3 c3 e4 c4 c5]
              refine pu_p0 ?_
              rw [pu_bo (Or.inl rfl)]
              exact pu_some ⟨(F6.trans (puRG.up (Or.inl rfl))).h, rfl, by show gUp τ6 136 16 (r.1 : Int) 136 16 = _; exact pu_upE _ _ _ _, by show gUp τ6 136 16 (r.1 : Int) 137 = _; rw [pu_upK (by decide)]; exact F6.1 137 (by decide)⟩
      · rw [show ((1, τ4) : Int × gSt).2 = τ4 from rfl, pu_takes0 hx w3 (by omega) (by decide) c3, Option.bind_some, puItA_3 c1 e3 c3]
        refine pu_p0 ?_
        rw [pu_bo (Or.inl rfl)]
        exact pu_some ⟨(F4.trans (puRG.up (Or.inl rfl))).h, rfl, by show gUp τ4 136 16 (q.1 : Int) 136 16 = _; exact pu_upE _ _ _ _, by show gUp τ4 136 16 (q.1 : Int) 137 = _; rw [pu_upK (by decide)]; exact F4.1 137 (by decide)⟩
  · rw [if_neg (by omega), pu_ifT (by decide) (by decide) rfl, pu_bo (Or.inl rfl), puItA_1 c1]
    exact pu_some ⟨puRH.rf, rfl, h.2.1, rfl⟩
theorem pu_itemT {τ : gSt} {tx : Nat → Int} {n p : Nat} {s0 : Nat → Int} {T : List (Int × Int × Int)} {A : List (Int × Int)} (hx : puTxOk tx n) (h : puRX τ tx n p) (hp : p < n) (ht : puRT (τ 137) s0 T A) (hT : T.length < 24) (c0 : puNt tx n p = 116) : puP (DX9_isItem τ) (fun r => puRH τ r.2 ∧ match puItT tx n p with
    | .inl e => r.1 = 0 ∧ r.2 136 16 = (e : Int) ∧ r.2 137 = τ 137
    | .inr q => r.1 = 1 ∧ puRX r.2 tx n q.1 ∧ puRT (r.2 137) s0 (T ++ [q.2]) A) := by
  have hn := hx.1
  unfold DX9_isItem
  rw [pu_isAt hx h (by omega) (by decide) (by decide), Option.bind_some, if_pos (by omega), pu_ifF (by decide) (by decide) (by decide), pu_gat (by decide) (by decide), show τ 137 (Int.toNat (4 : Int)) = (T.length : Int) from ht.1, pu_ifT ⟨by omega, by omega⟩ (by decide) (by omega), h.2.1, show ((p : Int) + 1) = ((p + 1 : Nat) : Int) by omega]
  have h1 := h.up (p + 1)
  have F1 : puRG τ (gUp τ 136 16 ((p + 1 : Nat) : Int)) := puRG.up (Or.inl rfl)
  have eA : gUp τ 136 16 ((p + 1 : Nat) : Int) 136 16 = ((p + 1 : Nat) : Int) := pu_upE _ _ _ _
  rw [pu_isAt hx h1 (by omega) (by decide) (by decide), Option.bind_some, eA]
  by_cases c1 : 48 ≤ puNt tx n (p + 1) ∧ puNt tx n (p + 1) ≤ 53
  · have hlt := puNt_lt (tx := tx) (n := n) (p := p + 1) (by omega)
    have hv : gUp τ 136 16 ((p + 1 : Nat) : Int) 140 (Int.toNat ((p + 1 : Nat) : Int)) = puNt tx n (p + 1) := by
      rw [Int.toNat_natCast, h1.2.2 (p + 1) hlt]
      unfold puNt
      rw [if_pos hlt]
    have h2 := h1.up (p + 2)
    have F2 := F1.trans (puRG.up (i := 16) (v := ((p + 2 : Nat) : Int)) (Or.inl rfl))
    rw [if_pos c1, pu_ifF (by decide) (by decide) (by decide), pu_gat (by omega) (by omega), hv, show (((p + 1 : Nat) : Int) + 1) = ((p + 2 : Nat) : Int) by omega]
    generalize gUp (gUp τ 136 16 ((p + 1 : Nat) : Int)) 136 16 ((p + 2 : Nat) : Int) = τ2 at h2 F2 ⊢
    by_cases c2 : puNt tx n (p + 2) = 44
    · have h3 := h2.up (p + 3)
      have F3 := F2.trans (puRG.up (i := 16) (v := ((p + 3 : Nat) : Int)) (Or.inl rfl))
      rw [pu_takes1 hx h2 (by omega) (by decide) c2, Option.bind_some]
      refine pu_p1 ?_
      rw [show ((1, gUp τ2 136 16 ((p + 2 + 1 : Nat) : Int)) : Int × gSt).2 = gUp τ2 136 16 ((p + 3 : Nat) : Int) from rfl]
      generalize gUp τ2 136 16 ((p + 3 : Nat) : Int) = τ3 at h3 F3 ⊢
      show puP ((DX9_isWithin τ3 ((3 : Nat) : Int) 0 199 (-1)).bind _) _
      cases e3 : puRd tx n 3 0 199 (p + 3) with
      | inl e =>
        obtain ⟨τ4, w1, w2, w3⟩ := pu_rdR0 (no := -1) hx h3 (by omega) (by decide) (by decide) (by decide) (by decide) e3
        rw [puItT_3 c1 c2 e3, w1, Option.bind_some]
        refine pu_p0 ?_
        rw [pu_bo (Or.inl rfl)]
        exact pu_some ⟨(F3.trans w2).h, rfl, w3, (F3.trans w2).1 137 (by decide)⟩
      | inr q =>
        obtain ⟨q1, q2, q3, q4⟩ := puRd_e (by decide) e3
        obtain ⟨τ4, w1, w2, w3, w4⟩ := pu_rdR1 (no := -1) hx h3 (by omega) (by decide) (by decide) (by decide) (by decide) e3 (by omega)
        have F4 := F3.trans w2
        rw [w1, Option.bind_some]
        refine pu_p1 ?_
        by_cases c3 : puNt tx n q.1 = 44
        · have h5 := w3.up (q.1 + 1)
          have F5 := F4.trans (puRG.up (i := 16) (v := ((q.1 + 1 : Nat) : Int)) (Or.inl rfl))
          rw [show ((1, τ4) : Int × gSt).2 = τ4 from rfl, pu_takes1 hx w3 (by omega) (by decide) c3, Option.bind_some]
          refine pu_p1 ?_
          rw [show ((1, gUp τ4 136 16 ((q.1 + 1 : Nat) : Int)) : Int × gSt).2 = gUp τ4 136 16 ((q.1 + 1 : Nat) : Int) from rfl, w4]
          generalize gUp τ4 136 16 ((q.1 + 1 : Nat) : Int) = τ5 at h5 F5 ⊢
          show puP ((DX9_isWithin τ5 ((2 : Nat) : Int) 1 60 (-1)).bind _) _
          cases e4 : puRd tx n 2 1 60 (q.1 + 1) with
          | inl e =>
            obtain ⟨τ6, v1, v2, v3⟩ := pu_rdR0 (no := -1) hx h5 (by omega) (by decide) (by decide) (by decide) (by decide) e4
            rw [puItT_5 c1 c2 e3 c3 e4, v1, Option.bind_some]
            refine pu_p0 ?_
            rw [pu_bo (Or.inl rfl)]
            exact pu_some ⟨(F5.trans v2).h, rfl, v3, (F5.trans v2).1 137 (by decide)⟩
          | inr r =>
            obtain ⟨r1, r2, r3, r4⟩ := puRd_e (by decide) e4
            obtain ⟨τ6, v1, v2, v3, v4⟩ := pu_rdR1 (no := -1) hx h5 (by omega) (by decide) (by decide) (by decide) (by decide) e4 (by omega)
            have F6 := F5.trans v2
            rw [v1, Option.bind_some]
            refine pu_p1 ?_
            by_cases c4 : puNt tx n r.1 = 59
            · have h7 := v3.up (r.1 + 1)
              have F7 := F6.trans (puRG.up (i := 16) (v := ((r.1 + 1 : Nat) : Int)) (Or.inl rfl))
              rw [show ((1, τ6) : Int × gSt).2 = τ6 from rfl, pu_takes1 hx v3 (by omega) (by decide) c4, Option.bind_some]
              refine pu_p1 ?_
              have e74 : gUp τ6 136 16 ((r.1 + 1 : Nat) : Int) 136 17 = r.2 := by rw [pu_upI (by decide), v4]
              rw [show ((1, gUp τ6 136 16 ((r.1 + 1 : Nat) : Int)) : Int × gSt).2 = gUp τ6 136 16 ((r.1 + 1 : Nat) : Int) from rfl, e74, puItT_7 c1 c2 e3 c3 e4 c4]
              generalize gUp τ6 136 16 ((r.1 + 1 : Nat) : Int) = τ7 at h7 F7 ⊢
              have e137 : τ7 137 = τ 137 := F7.1 137 (by decide)
              obtain ⟨τ8, u1, u2, u3⟩ := pu_comes (σ := τ7) (s := τ 137) (n := T.length) (g := puNt tx n (p + 1) - 48) (f := q.2) (l := r.2) e137 ht.1 hT
              rw [u1, Option.bind_some, pu_bo (Or.inr rfl)]
              have e136 : τ8 136 = τ7 136 := u3 136 (by decide)
              refine pu_some ⟨F7.h.trans ⟨fun k _ k2 => u3 k k2, fun i _ _ => by show τ8 136 i = τ7 136 i; rw [e136]⟩, rfl, ⟨?_, ?_, fun i hi => ?_⟩, ?_⟩
              · show τ8 136 5 = _
                rw [e136]
                exact h7.1
              · show τ8 136 16 = _
                rw [e136]
                exact h7.2.1
              · show τ8 140 i = _
                rw [u3 140 (by decide)]
                exact h7.2.2 i hi
              · show puRT (τ8 137) s0 (T ++ [(puNt tx n (p + 1) - 48, q.2, r.2)]) A
                rw [u2]
                exact puRT_add ht hT _ _ _
            · rw [show ((1, τ6) : Int × gSt).2 = τ6 from rfl, pu_takes0 hx v3 (by omega) (by decide) c4, Option.bind_some, puItT_6 c1 c2 e3 c3 e4 c4]
              refine pu_p0 ?_
              rw [pu_bo (Or.inl rfl)]
              exact pu_some ⟨(F6.trans (puRG.up (Or.inl rfl))).h, rfl, by show gUp τ6 136 16 (r.1 : Int) 136 16 = _; exact pu_upE _ _ _ _, by show gUp τ6 136 16 (r.1 : Int) 137 = _; rw [pu_upK (by decide)]; exact F6.1 137 (by decide)⟩
        · rw [show ((1, τ4) : Int × gSt).2 = τ4 from rfl, pu_takes0 hx w3 (by omega) (by decide) c3, Option.bind_some, puItT_4 c1 c2 e3 c3]
          refine pu_p0 ?_
          rw [pu_bo (Or.inl rfl)]
          exact pu_some ⟨(F4.trans (puRG.up (Or.inl rfl))).h, rfl, by show gUp τ4 136 16 (q.1 : Int) 136 16 = _; exact pu_upE _ _ _ _, by show gUp τ4 136 16 (q.1 : Int) 137 = _; rw [pu_upK (by decide)]; exact F4.1 137 (by decide)⟩
    · rw [pu_takes0 hx h2 (by omega) (by decide) c2, Option.bind_some, puItT_2 c1 c2]
      refine pu_p0 ?_
      rw [pu_bo (Or.inl rfl)]
      exact pu_some ⟨(F2.trans (puRG.up (Or.inl rfl))).h, rfl, by show gUp τ2 136 16 ((p + 2 : Nat) : Int) 136 16 = _; exact pu_upE _ _ _ _, by show gUp τ2 136 16 ((p + 2 : Nat) : Int) 137 = _; rw [pu_upK (by decide)]; exact F2.1 137 (by decide)⟩
  · rw [if_neg c1, pu_ifT (by decide) (by decide) rfl, pu_bo (Or.inl rfl), puItT_1 c1]
    exact pu_some ⟨F1.h, rfl, eA, F1.1 137 (by decide)⟩
/-! the reference reads all -/
theorem pu_parse_L49 {τ0 : gSt} {s0 : Nat → Int} (h139 : ∀ i : Nat, i < 138 → τ0 139 i = s0 i) (hhi : ∀ i : Nat, 138 ≤ i → τ0 137 i = s0 i) : ∀ (f x : Nat) (τ : gSt), 138 - x < f → x ≤ 138 → (∀ k, k ≠ 137 → τ k = τ0 k) → (∀ i : Nat, τ 137 i = if i < x then s0 i else τ0 137 i) → ∃ τ', DX9_parse_L49 DX9_parse_K74 f (x : Int) τ = some ((-10 : Int) - τ0 136 16, τ') ∧ (∀ k, k ≠ 137 → τ' k = τ0 k) ∧ τ' 137 = s0 := by
  intro f
  induction f with
  | zero => intro x τ h; omega
  | succ f ih =>
    intro x τ hf hx hK hA
    rw [DX9_parse_L49]
    by_cases c : (x : Int) < 138
    · rw [pu_ifT ⟨by omega, by omega⟩ (by decide) c, pu_gat (by omega) (by omega), pu_gat (by omega) (by omega), Int.toNat_natCast, show ((x : Int) + 1) = ((x + 1 : Nat) : Int) by omega, hK 139 (by decide), h139 x (by omega)]
      refine ih (x + 1) _ (by omega) (by omega) (fun k hk => by rw [pu_upK hk, hK k hk]) (fun i => ?_)
      show (if (137 : Nat) = 137 ∧ i = x then s0 x else τ 137 i) = _
      by_cases e : i = x
      · rw [if_pos ⟨rfl, e⟩, if_pos (by omega), e]
      · rw [if_neg (fun q => e q.2), hA i]
        by_cases e2 : i < x
        · rw [if_pos e2, if_pos (by omega)]
        · rw [if_neg e2, if_neg (show ¬ i < x + 1 by omega)]
    · rw [pu_ifF ⟨by omega, by omega⟩ (by decide) c]
      unfold DX9_parse_K74
      rw [hK 136 (by decide)]
      refine ⟨τ, rfl, hK, ?_⟩
      funext i
      rw [hA i]
      by_cases e : i < x
      · rw [if_pos e]
      · rw [if_neg e]
        exact hhi i (by omega)
def puPO (τ0 : gSt) (s0 : Nat → Int) (X : Option (Int × gSt)) (r : Nat ⊕ (List (Int × Int × Int) × List (Int × Int))) : Prop := match r with
  | .inl e => ∃ τ', X = some ((-10 : Int) - (e : Int), τ') ∧ puRH τ0 τ' ∧ τ' 137 = s0
  | .inr q => ∃ τ', X = DX9_parse_K82 τ' ∧ puRH τ0 τ' ∧ puRT (τ' 137) s0 q.1 q.2
theorem pu_parse_L29 {tx : Nat → Int} {n : Nat} (hx : puTxOk tx n) {τ0 : gSt} {s0 : Nat → Int} (h139 : ∀ i : Nat, i < 138 → τ0 139 i = s0 i) : ∀ (g f p : Nat) (T : List (Int × Int × Int)) (A : List (Int × Int)) (τ : gSt), n - p < g → n - p < f → puGd n p T A → puRX τ tx n p → puRT (τ 137) s0 T A → puRH τ0 τ → puPO τ0 s0 (DX9_parse_L29 DX9_parse_K82 f τ) (puPs tx n g p T A) := by
  have hn := hx.1
  intro g
  induction g with
  | zero => intro f p T A τ h; omega
  | succ g ih =>
    intro f p T A τ hg hf hG hX hT hF
    obtain ⟨f, rfl⟩ : ∃ f', f = f' + 1 := ⟨f - 1, by omega⟩
    obtain ⟨g1, g2, g3, g4⟩ := hG
    have hi := puNt_in hx p
    rw [DX9_parse_L29, hX.2.1, hX.1]
    unfold puPs
    have herr : ∀ (e : Nat) (τ1 : gSt), puRH τ τ1 → τ1 136 16 = (e : Int) → τ1 137 = τ 137 → puPO τ0 s0 (DX9_parse_L49 DX9_parse_K74 gFuel 0 τ1) (.inl e) := by
      intro e τ1 w1 w2 w3
      have hF1 := hF.trans w1
      obtain ⟨τ', z1, z2, z3⟩ := pu_parse_L49 (τ0 := τ1) (s0 := s0) (fun i hi => by rw [hF1.1 139 (by decide) (by decide)]; exact h139 i hi) (fun i hi => by rw [w3]; exact hT.2.2.2 i (Or.inr hi)) gFuel 0 τ1 (by rw [gFuel_eq]; omega) (Nat.zero_le _) (fun _ _ => rfl) (fun i => by rw [if_neg (Nat.not_lt_zero _)])
      refine ⟨τ', by rw [← w2]; exact z1, hF1.trans ⟨fun k _ k2 => z2 k k2, fun i _ _ => by rw [z2 136 (by decide)]⟩, z3⟩
    by_cases c : p < n
    · rw [pu_ifT ⟨by omega, by omega⟩ ⟨by omega, by omega⟩ (by omega), if_pos c]
      by_cases c2 : puNt tx n p = 116
      · rw [if_pos c2]
        obtain ⟨⟨r0, τ1⟩, er, w1, w2⟩ := pu_itemT hx hX c hT (by omega) c2
        have w1 : puRH τ τ1 := w1
        rw [er, Option.bind_some]
        cases e : puItT tx n p with
        | inl e0 =>
          rw [e] at w2
          have w2 : r0 = 0 ∧ τ1 136 16 = (e0 : Int) ∧ τ1 137 = τ 137 := w2
          show puPO τ0 s0 (gIf (r0 = 0) r0 0 (DX9_parse_L49 DX9_parse_K74 gFuel 0 τ1) (DX9_parse_L29 DX9_parse_K82 f τ1)) (.inl e0)
          rw [w2.1, pu_ifT (by decide) (by decide) rfl]
          exact herr e0 τ1 w1 w2.2.1 w2.2.2
        | inr q =>
          rw [e] at w2
          have w2 : r0 = 1 ∧ puRX τ1 tx n q.1 ∧ puRT (τ1 137) s0 (T ++ [q.2]) A := w2
          obtain ⟨d1, d2⟩ := puItT_gd ⟨g1, g2, g3, g4⟩ c (p' := q.1) (q := q.2) e
          show puPO τ0 s0 (gIf (r0 = 0) r0 0 (DX9_parse_L49 DX9_parse_K74 gFuel 0 τ1) (DX9_parse_L29 DX9_parse_K82 f τ1)) (puPs tx n g q.1 (T ++ [q.2]) A)
          rw [w2.1, pu_ifF (by decide) (by decide) (by decide)]
          exact ih f q.1 (T ++ [q.2]) A τ1 (by omega) (by omega) d1 w2.2.1 w2.2.2 (hF.trans w1)
      · rw [if_neg c2]
        have eJ : DX9_isItem τ = DX9_isItem_J141 τ := by
          unfold DX9_isItem
          rw [pu_isAt hx hX (by omega) (by decide) (by decide), Option.bind_some, if_neg (by omega), pu_ifT (by decide) (by decide) rfl]
        obtain ⟨⟨r0, τ1⟩, er, w1, w2⟩ := pu_itemA hx hX c hT (by omega) (by omega) g4
        have w1 : puRH τ τ1 := w1
        rw [eJ, er, Option.bind_some]
        cases e : puItA tx n p T.length with
        | inl e0 =>
          rw [e] at w2
          have w2 : r0 = 0 ∧ τ1 136 16 = (e0 : Int) ∧ τ1 137 = τ 137 := w2
          show puPO τ0 s0 (gIf (r0 = 0) r0 0 (DX9_parse_L49 DX9_parse_K74 gFuel 0 τ1) (DX9_parse_L29 DX9_parse_K82 f τ1)) (.inl e0)
          rw [w2.1, pu_ifT (by decide) (by decide) rfl]
          exact herr e0 τ1 w1 w2.2.1 w2.2.2
        | inr q =>
          rw [e] at w2
          have w2 : r0 = 1 ∧ puRX τ1 tx n q.1 ∧ puRT (τ1 137) s0 T (puAdd A q.2) := w2
          obtain ⟨d1, d2⟩ := puItA_gd ⟨g1, g2, g3, g4⟩ c (p' := q.1) (q := q.2) e
          show puPO τ0 s0 (gIf (r0 = 0) r0 0 (DX9_parse_L49 DX9_parse_K74 gFuel 0 τ1) (DX9_parse_L29 DX9_parse_K82 f τ1)) (puPs tx n g q.1 T (puAdd A q.2))
          rw [w2.1, pu_ifF (by decide) (by decide) (by decide)]
          exact ih f q.1 T (puAdd A q.2) τ1 (by omega) (by omega) d1 w2.2.1 w2.2.2 (hF.trans w1)
    · rw [pu_ifF ⟨by omega, by omega⟩ ⟨by omega, by omega⟩ (by omega), if_neg c]
      exact ⟨τ, rfl, hF, hT⟩
/-- the reference's parse, whole -/
theorem pu_parseR {σ : gSt} {tx : Nat → Int} {n : Nat} (hx : puTxOk tx n) (h5 : σ 136 5 = (n : Int)) (h140 : ∀ i : Nat, i < n → σ 140 i = tx i) : ∃ τ0 : gSt, (∀ k, k ≠ 136 → k ≠ 137 → k ≠ 139 → τ0 k = σ k) ∧ (∀ i, i ≠ 6 → i ≠ 16 → τ0 136 i = σ 136 i) ∧ (∀ i : Nat, i < 138 → τ0 139 i = σ 137 i) ∧ puPO τ0 (σ 137) (DX9_parse σ) (puPs tx n 200 0 [] []) ∧ τ0 136 6 = 0 := by
  have hn := hx.1
  obtain ⟨τ1, e1, k1, a1⟩ := pu_hold (gUp σ 136 6 0)
  refine ⟨gUp (gUp (gUp τ1 137 4 0) 137 77 0) 136 16 0, fun k q1 q2 q3 => ?_, fun i i1 i2 => ?_, fun i hi => ?_, ?_, ?_⟩
  · rw [pu_upK q1, pu_upK q2, pu_upK q2, k1 k q3, pu_upK q1]
  · rw [pu_upI i2, pu_upK (by decide), pu_upK (by decide), k1 136 (by decide), pu_upI i1]
  · rw [pu_upK (by decide), pu_upK (by decide), pu_upK (by decide), a1 i hi, pu_upK (by decide)]
  · unfold DX9_parse
    rw [e1, Option.bind_some, pu_gat (by decide) (by decide), pu_gat (by decide) (by decide), show Int.toNat (4 : Int) = 4 from rfl, show Int.toNat (77 : Int) = 77 from rfl]
    have e137 : τ1 137 = σ 137 := by rw [k1 137 (by decide), pu_upK (by decide)]
    refine pu_parse_L29 hx (τ0 := gUp (gUp (gUp τ1 137 4 0) 137 77 0) 136 16 0) (fun i hi => ?_) 200 gFuel 0 [] [] _ (by omega) (by rw [gFuel_eq]; omega) ⟨Nat.zero_le _, Nat.le_refl _, (fun q hq => by cases hq), (fun q hq => by cases hq)⟩ ⟨?_, ?_, fun i hi => ?_⟩ ⟨?_, (fun i q hi => by cases hi), ⟨?_, (fun i q hi => by cases hi)⟩, fun i hi => ?_⟩ puRH.rf
    · rw [pu_upK (by decide), pu_upK (by decide), pu_upK (by decide), a1 i hi, pu_upK (by decide)]
    · rw [pu_upI (by decide), pu_upK (by decide), pu_upK (by decide), k1 136 (by decide), pu_upI (by decide), h5]
    · rw [pu_upE]
      rfl
    · rw [pu_upK (by decide), pu_upK (by decide), pu_upK (by decide), k1 140 (by decide), pu_upK (by decide)]
      exact h140 i hi
    · rw [pu_upK (by decide), pu_upI (by decide), pu_upE]
      rfl
    · rw [pu_upK (by decide), pu_upE]
      rfl
    · rw [pu_upK (by decide), pu_upI (by omega), pu_upI (by omega), e137]
  · rw [pu_upI (by decide), pu_upK (by decide), pu_upK (by decide), k1 136 (by decide), pu_upE]
