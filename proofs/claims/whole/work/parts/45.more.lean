/-! the law's cases arrowOf, taskAt, covered, delay -/
theorem pu_arrowOf_L {σ : gSt} {s : Nat → Int} (ho : puOk s) (h : puRV σ s (s 0).toNat (s 1)) {e : Int} (he : gR e) {n : Nat} (hn : (n : Int) ≤ s 77) (hno : ∀ x : Nat, x < n → 0 < e → puXn s (s 0).toNat (s 1) x ≠ e) {K : gSt → Option (Int × gSt)} : ∀ (f x : Nat) (r : Option (Int × gSt)), n - x < f → x ≤ n → (∀ f', 0 < f' → DX9_arrowOf_L6 K e f' (n : Int) σ = r) → DX9_arrowOf_L6 K e f (x : Int) σ = r := by
  have hR := ho.rows
  have hD := ho.days
  intro f
  induction f with
  | zero => intro x r h; omega
  | succ f ih =>
    intro x r hf hx hr
    by_cases c : x = n
    · subst c
      exact hr (f + 1) (Nat.succ_pos f)
    · have hx2 : (x : Int) < s 77 := by omega
      have a30 := ho.a30 hx2
      have h77 := ho.arrows
      have hxn : -1 ≤ puXn s (s 0).toNat (s 1) x ∧ puXn s (s 0).toNat (s 1) x ≤ 31 := by
        have := puC_le (p := puEx s (s 0).toNat (s 1)) (x + 1)
        unfold puXn
        split <;> omega
      have hh := ih (x + 1) r (by omega) (by omega) hr
      rw [DX9_arrowOf_L6, pu_gat (by decide) (by decide), pu_r77 h.1, pu_ifT ⟨by omega, by omega⟩ ⟨by omega, by omega⟩ hx2, pu_exitOf ho (by omega) hD h hx2, Option.bind_some]
      unfold DX9_arrowOf_J36
      rw [show ((x : Int) + 1) = ((x + 1 : Nat) : Int) by omega]
      by_cases c1 : puXn s (s 0).toNat (s 1) x = e
      · have hep : ¬ 0 < e := fun q => hno x (by omega) q c1
        rw [pu_ifT ⟨by omega, by omega⟩ he c1, pu_ifF he (by decide) hep]
        exact hh
      · rw [pu_ifF ⟨by omega, by omega⟩ he c1]
        exact hh
theorem pu_15 {σ : gSt} {μ : gLg} (xs : Nat → Int32) (j : Nat) (hI : puInv σ) : puP (DL_c15 xs j σ μ) (fun r => puInv r.1) := by
  unfold DL_c15
  refine pu_stepP ?_
  have hx := gR_x (xs (Int.toNat ((4 * (j : Int)) + (1 : Int))))
  generalize (xs (Int.toNat ((4 * (j : Int)) + (1 : Int)))).toInt = e at hx ⊢
  have ho := hI.1
  have hR := ho.rows
  have hD := ho.days
  have hn := ho.arrows
  obtain ⟨σ1, e1, h1, h2⟩ := pu_prints (σ := σ) hI.1
  have hcn := puC_le (p := puEx (σ 137) (σ 137 0).toNat (σ 137 1)) (σ 137 77).toNat
  have hcnt : σ 105 6 = (puC (puEx (σ 137) (σ 137 0).toNat (σ 137 1)) (σ 137 77).toNat : Int) := hI.2.1.2.2.2.1
  unfold DX8_arrowOf DX8_arrowOf_J16 DX2_count DX9_arrowOf
  by_cases c : 1 ≤ e ∧ e ≤ (puC (puEx (σ 137) (σ 137 0).toNat (σ 137 1)) (σ 137 77).toNat : Int)
  · obtain ⟨a, a1, a2, a3⟩ := puC_nth (p := puEx (σ 137) (σ 137 0).toNat (σ 137 1)) (i := (e - 1).toNat) (σ 137 77).toNat (by omega)
    have a4 : puC (puEx (σ 137) (σ 137 0).toNat (σ 137 1)) (a + 1) = puC (puEx (σ 137) (σ 137 0).toNat (σ 137 1)) a + 1 := puC_T a2
    have ee : e = ((puC (puEx (σ 137) (σ 137 0).toNat (σ 137 1)) (a + 1) : Nat) : Int) := by omega
    refine puAns.ok (v := (a : Int)) (hI.pf h2 0) ?_ ?_
    · rw [pu_ifF hx (by decide) (by omega), Option.bind_some, hcnt, pu_ifF hx ⟨by omega, by omega⟩ (by omega)]
      unfold DX2_arrowBehind
      have := hI.2.1.2.2.2.2.2.1 a a1 a2
      rw [ee, pu_atN (by omega) (by decide), Option.bind_some, Option.bind_some]
      exact congrArg (fun z => some (Sum.inr z)) this
    · rw [e1, Option.bind_some]
      refine pu_arrowOf_L ho h1 hx (n := a) (by omega) (fun x hxa he q => ?_) gFuel 0 _ (by rw [gFuel_eq]; omega) (Nat.zero_le _) (fun f' hf' => ?_)
      · unfold puXn at q
        by_cases w : puEx (σ 137) (σ 137 0).toNat (σ 137 1) x = true
        · rw [if_pos w] at q
          have w2 : puC (puEx (σ 137) (σ 137 0).toNat (σ 137 1)) (x + 1) = puC (puEx (σ 137) (σ 137 0).toNat (σ 137 1)) x + 1 := puC_T w
          have w3 := puC_lt hxa w
          omega
        · rw [if_neg w] at q
          omega
      · obtain ⟨f, rfl⟩ : ∃ f, f' = f + 1 := ⟨f' - 1, by omega⟩
        have xe : puXn (σ 137) (σ 137 0).toNat (σ 137 1) a = e := by
          unfold puXn
          rw [if_pos a2, ee]
        rw [DX9_arrowOf_L6, pu_gat (by decide) (by decide), pu_r77 h1.1, pu_ifT ⟨by omega, by omega⟩ ⟨by omega, by omega⟩ (by omega), pu_exitOf ho (by omega) hD h1 (by omega), Option.bind_some, xe, pu_ifT hx hx rfl, pu_ifT hx (by decide) (by omega)]; rfl
  · refine puAns.no (hI.pf h2 1) (k := 3) (r := 0) ?_ rfl (Or.inl rfl) ?_
    · by_cases c1 : e < 1
      · rw [pu_ifT hx (by decide) c1]
      · rw [pu_ifF hx (by decide) c1, Option.bind_some, hcnt, pu_ifT hx ⟨by omega, by omega⟩ (by omega)]
    · rw [e1, Option.bind_some]
      refine pu_arrowOf_L ho h1 hx (n := (σ 137 77).toNat) (by omega) (fun x hxa he q => ?_) gFuel 0 _ (by rw [gFuel_eq]; omega) (Nat.zero_le _) (fun f' hf' => ?_)
      · unfold puXn at q
        by_cases w : puEx (σ 137) (σ 137 0).toNat (σ 137 1) x = true
        · rw [if_pos w] at q
          have w3 : puC (puEx (σ 137) (σ 137 0).toNat (σ 137 1)) (x + 1) ≤ puC (puEx (σ 137) (σ 137 0).toNat (σ 137 1)) (σ 137 77).toNat := puC_mn hxa
          omega
        · rw [if_neg w] at q
          omega
      · obtain ⟨f, rfl⟩ : ∃ f, f' = f + 1 := ⟨f' - 1, by omega⟩
        rw [DX9_arrowOf_L6, pu_gat (by decide) (by decide), pu_r77 h1.1, pu_ifF ⟨by omega, by omega⟩ ⟨by omega, by omega⟩ (by omega)]; rfl
theorem pu_covers {σ : gSt} {s : Nat → Int} (ho : puOk s) (hp : puPl σ 1 s) {v d : Int} (hv : gR v) (hd : gR d) : DX5_covers 1 σ v d = some (if (0 ≤ v ∧ v < s 4) ∧ s (6 + 3 * v.toNat) ≤ d ∧ d ≤ puLast s v.toNat then 1 else 0) := by
  unfold DX5_covers
  rw [pu_hasTask hp ho hv, Option.bind_some]
  by_cases c : 0 ≤ v ∧ v < s 4
  · obtain ⟨t, rfl⟩ : ∃ t : Nat, v = (t : Int) := ⟨v.toNat, by omega⟩
    have l1 := ho.last c.2
    have l2 := ho.f c.2
    rw [if_pos c, pu_ifF (by decide) (by decide) (by decide), pu_first ho hp c.2, Option.bind_some, pu_ite hd ⟨by omega, by omega⟩, pu_bo (Or.inl rfl), pu_last ho hp c.2, Option.bind_some, pu_ite hd ⟨by omega, by omega⟩, pu_bo (Or.inr rfl), Int.toNat_natCast]
    by_cases c1 : d < s (6 + 3 * t)
    · rw [if_pos c1, if_neg (by omega)]
    · rw [if_neg c1]
      by_cases c2 : puLast s t < d
      · rw [if_pos c2, if_neg (by omega)]
      · rw [if_neg c2, if_pos (by omega)]
  · rw [if_neg c, pu_ifT (by decide) (by decide) rfl, pu_bo (Or.inl rfl), if_neg (fun q => c q.1)]
theorem pu_16 {σ : gSt} {μ : gLg} (xs : Nat → Int32) (j : Nat) (hI : puInv σ) : puP (DL_c16 xs j σ μ) (fun r => puInv r.1) := by
  unfold DL_c16
  refine pu_stepP ?_
  have hx := gR_x (xs (Int.toNat ((4 * (j : Int)) + (1 : Int))))
  have hy := gR_x (xs (Int.toNat ((4 * (j : Int)) + (2 : Int))))
  have hz := gR_x (xs (Int.toNat ((4 * (j : Int)) + (3 : Int))))
  generalize (xs (Int.toNat ((4 * (j : Int)) + (1 : Int)))).toInt = v at hx ⊢
  generalize (xs (Int.toNat ((4 * (j : Int)) + (2 : Int)))).toInt = w at hy ⊢
  generalize (xs (Int.toNat ((4 * (j : Int)) + (3 : Int)))).toInt = z at hz ⊢
  have ho := hI.1
  have hR := ho.rows
  have hD := ho.days
  have hb := puSheets_le (R := (σ 137 0).toNat) ho hD
  have hb24 := puBands_le (R := (σ 137 0).toNat) ho (by omega)
  obtain ⟨σ1, e1, h1, h2⟩ := pu_prints (σ := σ) hI.1
  have h137 := h1.1
  unfold DX8_taskAt DX8_taskAt_J26 DX9_taskAt DX9_taskAt_J50
  rw [pu_reqSheet ho hI.2.1 hx, e1, Option.bind_some, h1.2.2.1, pu_in hx (by decide) ⟨by omega, by omega⟩, Option.bind_some]
  by_cases c : 0 ≤ v ∧ v < (puSheets (σ 137) (σ 137 0).toNat (σ 137 1) : Int)
  · rw [if_pos c, if_pos (by omega), pu_xbR]
    by_cases c2 : 0 ≤ w ∧ w < σ 137 0
    · obtain ⟨u, rfl⟩ : ∃ u : Nat, w = (u : Int) := ⟨w.toNat, by omega⟩
      by_cases c3 : 0 ≤ z ∧ z < σ 137 1
      · obtain ⟨i, i1, i2, i3⟩ := puSheet_at (s := σ 137) (R := (σ 137 0).toNat) (D := σ 137 1) (i := v.toNat) (by omega)
        have ev : v = (puRk (σ 137) (σ 137 0).toNat (σ 137 1) i : Int) := by omega
        have hol := puOrd_lt (s := σ 137) i1
        have hpb := puPr_band ho (by omega) i2
        obtain ⟨b1, b2⟩ := hI.2.1.2.2.1.2.2.1 i i1 i2
        have b3 := h1.2.2.2.2 i i1 i2
        generalize hk : puOrd (σ 137) i = k at *
        have hrow := puRow_in (R := (σ 137 0).toNat) ho (by omega) (20 * (k / 52) + u)
        have hrC : σ 89 (20 * (k / 52) + u) = puRow (σ 137) (σ 137 0).toNat (20 * (k / 52) + u) := hI.2.1.2.1.2.1 _ (by omega)
        have hrR : σ1 141 (20 * (k / 52) + u) = puRow (σ 137) (σ 137 0).toNat (20 * (k / 52) + u) := h1.2.1.2.1 _ (by omega)
        generalize hcv : puRow (σ 137) (σ 137 0).toNat (20 * (k / 52) + u) = cv at *
        have hprod : 0 ≤ ((k % 52 : Nat) : Int) * σ 137 1 ∧ ((k % 52 : Nat) : Int) * σ 137 1 ≤ 51 * 60 := by
          refine ⟨Int.mul_nonneg (by omega) (by omega), ?_⟩
          have m1 := puMul (S := ((k % 52 : Nat) : Int)) (T := 51) (D := σ 137 1) (by omega) (by omega)
          omega
        have e52 : (k : Int) % 52 * σ 137 1 = ((k % 52 : Nat) : Int) * σ 137 1 := by rw [show (k : Int) % 52 = ((k % 52 : Nat) : Int) by omega]
        generalize hX : ((k % 52 : Nat) : Int) * σ 137 1 = X at *
        have hcvr : gR cv := ⟨by omega, by omega⟩
        have hdr : gR (X + z) := ⟨by omega, by omega⟩
        refine puAns.ok (v := if (0 ≤ cv ∧ cv < σ 137 4) ∧ σ 137 (6 + 3 * cv.toNat) ≤ X + z ∧ X + z ≤ puLast (σ 137) cv.toNat then cv else -1) (hI.pf h2 0) ?_ ?_
        · rw [pu_reqRow ho hI.2.1.1 hy, if_pos c2, pu_xbR, pu_ifF hz (by decide) (by omega), pu_set1 hI.2.1.1, Option.bind_some, pu_ifT hz ⟨by omega, by omega⟩ c3.2]
          unfold DX6_bandOf DX6_stripOf DX0_content
          rw [ev, pu_atN (by omega) (by decide), Option.bind_some, Option.bind_some, show σ (96 + 5 + 1) (puRk (σ 137) (σ 137 0).toNat (σ 137 1) i) = ((k / 52 : Nat) : Int) from b1, show (((k / 52 : Nat) : Int) * 20 + (u : Int)) = ((20 * (k / 52) + u : Nat) : Int) by omega, pu_atN (by omega) (by decide), Option.bind_some, Option.bind_some, show σ (87 + 1 + 1) (20 * (k / 52) + u) = cv from hrC, pu_atN (by omega) (by decide), Option.bind_some, Option.bind_some, show σ (96 + 7 + 1) (puRk (σ 137) (σ 137 0).toNat (σ 137 1) i) = ((k % 52 : Nat) : Int) from b2, Option.bind_some, hX, pu_covers ho hI.2.1.1 hcvr hdr, Option.bind_some]
          split
          · rw [pu_ifF (by decide) (by decide) (by decide)]
          · rw [pu_ifT (by decide) (by decide) rfl]
        · rw [pu_ifF (by decide) (by decide) (by decide), pu_gat (by decide) (by decide), pu_r0 h137, pu_in hy (by decide) ⟨by omega, by omega⟩, Option.bind_some, if_pos (by omega), pu_ifF (by decide) (by decide) (by decide), pu_gat (by decide) (by decide), pu_r1 h137, pu_in hz (by decide) ⟨by omega, by omega⟩, Option.bind_some, if_pos (by omega), pu_ifF (by decide) (by decide) (by decide), ev]
          have hr9 : puRk (σ 137) (σ 137 0).toNat (σ 137 1) i < 1248 := by omega
          unfold DX9_taskAt_J131 DX9_taskAt_J132 DX9_taskAt_J146
          rw [pu_gat (by omega) (by omega), Int.toNat_natCast, b3, pu_dv (by omega) (by omega) (by decide) (by decide), pu_gat (by omega) (by omega), pu_gat (by omega) (by omega), pu_dv (by omega) (by omega) (by decide) (by decide), pu_gat (by decide) (by decide), show Int.toNat ((20 : Int) * ((k : Int) / 52) + (u : Int)) = 20 * (k / 52) + u by omega, hrR, show DX9_isTask σ1 cv = some (if 0 ≤ cv ∧ cv < σ 137 4 then 1 else 0) by rw [pu_isTask (by rw [h137]; exact ho) hcvr, h137], Option.bind_some]
          by_cases c4 : 0 ≤ cv ∧ cv < σ 137 4
          · rw [if_pos c4, pu_ifF (by decide) (by decide) (by decide)]
            obtain ⟨t, ht⟩ : ∃ t : Nat, cv = (t : Int) := ⟨cv.toNat, by omega⟩
            rw [ht] at c4 hrR ⊢
            have l1 := ho.last c4.2
            have l2 := ho.f c4.2
            rw [pu_rof1 ho h137 c4.2, Option.bind_some, pu_rlast ho h137 c4.2, Option.bind_some, e52, pu_in hdr ⟨by omega, by omega⟩ ⟨by omega, by omega⟩, Option.bind_some, Int.toNat_natCast]
            by_cases c5 : σ 137 (6 + 3 * t) ≤ X + z ∧ X + z ≤ puLast (σ 137) t
            · rw [if_pos c5, if_pos ⟨c4, c5⟩, pu_ifF (by decide) (by decide) (by decide), pu_ifF (by decide) (by decide) (by decide)]; rfl
            · rw [if_neg c5, if_neg (fun q => c5 q.2), pu_ifT (by decide) (by decide) rfl, pu_ifT (by decide) (by decide) rfl]; rfl
          · rw [if_neg c4, if_neg (fun q => c4 q.1), pu_ifT (by decide) (by decide) rfl, pu_ifT (by decide) (by decide) rfl]; rfl
      · refine puAns.no (hI.pf h2 1) (k := 3) (r := 0) ?_ rfl (Or.inl rfl) ?_
        · rw [pu_reqRow ho hI.2.1.1 hy, if_pos c2, pu_xbR]
          by_cases c4 : z < 0
          · rw [pu_ifT hz (by decide) c4]
          · rw [pu_ifF hz (by decide) c4, pu_set1 hI.2.1.1, Option.bind_some, pu_ifF hz ⟨by omega, by omega⟩ (by omega)]
        · rw [pu_ifF (by decide) (by decide) (by decide), pu_gat (by decide) (by decide), pu_r0 h137, pu_in hy (by decide) ⟨by omega, by omega⟩, Option.bind_some, if_pos (by omega), pu_ifF (by decide) (by decide) (by decide), pu_gat (by decide) (by decide), pu_r1 h137, pu_in hz (by decide) ⟨by omega, by omega⟩, Option.bind_some, if_neg (by omega), pu_ifT (by decide) (by decide) rfl]; rfl
    · refine puAns.no (hI.pf h2 1) (k := 3) (r := 0) ?_ rfl (Or.inl rfl) ?_
      · rw [pu_reqRow ho hI.2.1.1 hy, if_neg c2, pu_xbL]
      · rw [pu_ifF (by decide) (by decide) (by decide), pu_gat (by decide) (by decide), pu_r0 h137, pu_in hy (by decide) ⟨by omega, by omega⟩, Option.bind_some, if_neg (by omega), pu_ifT (by decide) (by decide) rfl]; rfl
  · rw [if_neg c, if_neg (by omega), pu_ifT (by decide) (by decide) rfl, pu_xbL]
    exact puAns.no (hI.pf h2 1) rfl rfl (Or.inl rfl) rfl
/-! covered -/
def puSum (s : Nat → Int) : Nat → Int
  | 0 => 0
  | n + 1 => puSum s n + s (7 + 3 * n)
theorem pu_daysC_L {σ : gSt} {s : Nat → Int} (ho : puOk s) (hp : puPl σ 1 s) : ∀ (f x : Nat), (s 4).toNat - x < f → (x : Int) ≤ s 4 → DX5_daysOfBars_L4 1 σ f (x : Int) (puSum s x) = some (puSum s (s 4).toNat) := by
  have hn := ho.tasks
  intro f
  induction f with
  | zero => intro x h; omega
  | succ f ih =>
    intro x hf hx
    rw [DX5_daysOfBars_L4, hp.1]
    by_cases c : (x : Int) < s 4
    · rw [pu_ifT ⟨by omega, by omega⟩ ⟨by omega, by omega⟩ c, pu_length ho hp c, Option.bind_some, show ((x : Int) + 1) = ((x + 1 : Nat) : Int) by omega]
      exact ih (x + 1) (by omega) (by omega)
    · rw [pu_ifF ⟨by omega, by omega⟩ ⟨by omega, by omega⟩ c, show (s 4).toNat = x by omega]
theorem pu_daysR_L {σ : gSt} {s : Nat → Int} (ho : puOk s) (hs : σ 137 = s) : ∀ (f x : Nat), (s 4).toNat - x < f → (x : Int) ≤ s 4 → DX9_covered_L13 σ f (x : Int) (puSum s x) = DX9_covered_K38 (puSum s (s 4).toNat) σ := by
  have hn := ho.tasks
  intro f
  induction f with
  | zero => intro x h; omega
  | succ f ih =>
    intro x hf hx
    rw [DX9_covered_L13, pu_gat (by decide) (by decide), pu_r4 hs]
    by_cases c : (x : Int) < s 4
    · rw [pu_ifT ⟨by omega, by omega⟩ ⟨by omega, by omega⟩ c, pu_rof2 ho hs c, Option.bind_some, show ((x : Int) + 1) = ((x + 1 : Nat) : Int) by omega]
      exact ih (x + 1) (by omega) (by omega)
    · rw [pu_ifF ⟨by omega, by omega⟩ ⟨by omega, by omega⟩ c, show (s 4).toNat = x by omega]
theorem pu_17 {σ : gSt} {μ : gLg} (hI : puInv σ) : puP (DL_c17 σ μ) (fun r => puInv r.1) := by
  have ho := hI.1
  have hn := ho.tasks
  have hR := ho.rows
  have hD := ho.days
  have hb := puSheets_le (R := (σ 137 0).toNat) ho hD
  obtain ⟨σ1, e1, h1, h2⟩ := pu_prints (σ := σ) hI.1
  have hsum := pu_daysC_L ho hI.2.1.1 gFuel 0 (by rw [gFuel_eq]; omega) (by omega)
  have hsumR := pu_daysR_L (σ := gUp σ1 136 6 0) ho (by rw [pu_upK (by decide)]; exact h1.1) gFuel 0 (by rw [gFuel_eq]; omega) (by omega)
  have p1 : 0 < σ 137 0 * σ 137 1 := Int.mul_pos (by omega) (by omega)
  have p2 : σ 137 0 * σ 137 1 ≤ 20 * 60 := by
    have m1 := puMul (S := σ 137 0) (T := 20) (D := σ 137 1) (by omega) (by omega)
    omega
  have p3 : 0 ≤ σ 137 0 * σ 137 1 * (puSheets (σ 137) (σ 137 0).toNat (σ 137 1) : Int) := Int.mul_nonneg (by omega) (by omega)
  have p4 : σ 137 0 * σ 137 1 * (puSheets (σ 137) (σ 137 0).toNat (σ 137 1) : Int) ≤ 20 * 60 * 312 := Int.mul_le_mul p2 (by omega) (by omega) (by omega)
  have p5 : 0 < puSheets (σ 137) (σ 137 0).toNat (σ 137 1) → 0 < σ 137 0 * σ 137 1 * (puSheets (σ 137) (σ 137 0).toNat (σ 137 1) : Int) := fun q => Int.mul_pos p1 (by omega)
  have p6 : puSheets (σ 137) (σ 137 0).toNat (σ 137 1) = 0 → σ 137 0 * σ 137 1 * (puSheets (σ 137) (σ 137 0).toNat (σ 137 1) : Int) = 0 := fun q => by rw [q]; exact Int.mul_zero _
  have e12 : gUp σ1 136 6 0 136 12 = (puSheets (σ 137) (σ 137 0).toNat (σ 137 1) : Int) := by rw [pu_upI (by decide)]; exact h1.2.2.1
  have e137 : gUp σ1 136 6 0 137 = σ 137 := by rw [pu_upK (by decide)]; exact h1.1
  unfold DL_c17 DX8_covered DX6_count DX9_covered DX5_daysOfBars
  rw [pu_set0 hI.2.1.1, Option.bind_some, pu_set1 hI.2.1.1, Option.bind_some, Option.bind_some, hI.2.1.2.2.1.1, e1, Option.bind_some, show DX9_covered_L13 (gUp σ1 136 6 0) gFuel 0 0 = _ from hsumR, show DX5_daysOfBars_L4 1 σ gFuel 0 0 = _ from hsum, Option.bind_some]
  unfold DX9_covered_K38
  rw [e12, pu_r0 e137, pu_r1 e137]
  by_cases c : puSheets (σ 137) (σ 137 0).toNat (σ 137 1) = 0
  · have := p6 c
    rw [pu_ifF ⟨by omega, by omega⟩ (by decide) (by omega), Option.bind_some, pu_ifT ⟨by omega, by omega⟩ (by decide) (by omega), Option.bind_some, if_pos rfl]
    exact pu_some (hI.pf h2 0)
  · have := p5 (by omega)
    rw [pu_ifT ⟨by omega, by omega⟩ (by decide) (by omega), Option.bind_some, pu_ifF ⟨by omega, by omega⟩ (by decide) (by omega), pu_gat (by decide) (by decide), pu_gat (by decide) (by decide), Option.bind_some, if_pos rfl]
    exact pu_some (hI.pf h2 0)
/-! delay -/
def puDl (s : Nat → Int) (t : Nat) : Nat → Int
  | 0 => 0
  | n + 1 => if puTo s n = t then max (puDl s t n) ((puLast s (puFm s n) + 1) - s (6 + 3 * t)) else puDl s t n
theorem puDl_in {s : Nat → Int} (ho : puOk s) {t : Nat} (ht : (t : Int) < s 4) : ∀ n : Nat, (n : Int) ≤ s 77 → 0 ≤ puDl s t n ∧ puDl s t n ≤ 1000 := by
  have l0 := ho.f ht
  intro n
  induction n with
  | zero => intro _; exact ⟨Int.le_refl 0, by show (0 : Int) ≤ 1000; decide⟩
  | succ n ih =>
    intro hn
    have h1 := ih (by omega)
    have f2 := (puFm_e ho (a := n) (by omega)).2
    have l1 := ho.last f2
    have l2 := ho.f f2
    unfold puDl
    split <;> omega
theorem pu_delayC_L {σ : gSt} {s : Nat → Int} (ho : puOk s) (hp : puPl σ 1 s) {t : Nat} (ht : (t : Int) < s 4) : ∀ (f x : Nat), (s 77).toNat - x < f → (x : Int) ≤ s 77 → DX8_delay_L9 σ (t : Int) f (x : Int) (puDl s t x) = some (.inr (puDl s t (s 77).toNat)) := by
  have hn := ho.arrows
  have hn4 := ho.tasks
  have l0 := ho.f ht
  intro f
  induction f with
  | zero => intro x h; omega
  | succ f ih =>
    intro x hf hx
    have hdl := puDl_in ho ht x hx
    rw [DX8_delay_L9, pu_arrows hp, Option.bind_some]
    by_cases c : (x : Int) < s 77
    · obtain ⟨f1, f2⟩ := puFm_e ho c
      obtain ⟨t1, t2⟩ := puTo_e ho c
      have l1 := ho.last f2
      have l2 := ho.f f2
      have hh := ih (x + 1) (by omega) (by omega)
      rw [pu_ifT ⟨by omega, by omega⟩ ⟨by omega, by omega⟩ c, pu_to ho hp c, Option.bind_some, t1]
      unfold DX8_delay_J63
      rw [show ((x : Int) + 1) = ((x + 1 : Nat) : Int) by omega]
      by_cases c2 : puTo s x = t
      · rw [pu_ifT ⟨by omega, by omega⟩ ⟨by omega, by omega⟩ (by omega), pu_from ho hp c, Option.bind_some, f1, pu_last ho hp f2, Option.bind_some, pu_first ho hp ht, Option.bind_some, pu_rr ⟨by omega, by omega⟩ ⟨by omega, by omega⟩]
        rw [show puDl s t (x + 1) = max (puDl s t x) ((puLast s (puFm s x) + 1) - s (6 + 3 * t)) by
          show (if puTo s x = t then _ else _) = _
          rw [if_pos c2]] at hh
        exact hh
      · rw [pu_ifF ⟨by omega, by omega⟩ ⟨by omega, by omega⟩ (by omega)]
        rw [show puDl s t (x + 1) = puDl s t x by
          show (if puTo s x = t then _ else _) = _
          rw [if_neg c2]] at hh
        exact hh
    · rw [pu_ifF ⟨by omega, by omega⟩ ⟨by omega, by omega⟩ c, show (s 77).toNat = x by omega]
theorem pu_delayR_L {σ : gSt} {s : Nat → Int} (ho : puOk s) (hs : σ 137 = s) {t : Nat} (ht : (t : Int) < s 4) : ∀ (f x : Nat), (s 77).toNat - x < f → (x : Int) ≤ s 77 → DX9_delay_L18 (DX9_delay_K79 σ) σ (t : Int) f (x : Int) (puDl s t x) = some (puDl s t (s 77).toNat, gUp σ 136 6 0) := by
  have hn := ho.arrows
  have hn4 := ho.tasks
  have l0 := ho.f ht
  intro f
  induction f with
  | zero => intro x h; omega
  | succ f ih =>
    intro x hf hx
    have hdl := puDl_in ho ht x hx
    rw [DX9_delay_L18, pu_gat (by decide) (by decide), pu_r77 hs]
    by_cases c : (x : Int) < s 77
    · obtain ⟨f1, f2⟩ := puFm_e ho c
      obtain ⟨t1, t2⟩ := puTo_e ho c
      have l1 := ho.last f2
      have l2 := ho.f f2
      have hh := ih (x + 1) (by omega) (by omega)
      rw [pu_ifT ⟨by omega, by omega⟩ ⟨by omega, by omega⟩ c, pu_rend0 ho hs c, Option.bind_some, pu_rlast ho hs f2, Option.bind_some, pu_rof1 ho hs ht, Option.bind_some, pu_rend1 ho hs c, Option.bind_some]
      unfold DX9_delay_J71 DX9_delay_J72
      rw [show ((x : Int) + 1) = ((x + 1 : Nat) : Int) by omega]
      by_cases c2 : puTo s x = t
      · rw [show puDl s t (x + 1) = max (puDl s t x) ((puLast s (puFm s x) + 1) - s (6 + 3 * t)) by
          show (if puTo s x = t then _ else _) = _
          rw [if_pos c2]] at hh
        rw [pu_ifT ⟨by omega, by omega⟩ ⟨by omega, by omega⟩ (by omega)]
        by_cases c3 : puDl s t x < (puLast s (puFm s x) + 1) - s (6 + 3 * t)
        · rw [pu_ifT ⟨by omega, by omega⟩ ⟨by omega, by omega⟩ c3]
          rw [show max (puDl s t x) ((puLast s (puFm s x) + 1) - s (6 + 3 * t)) = (puLast s (puFm s x) + 1) - s (6 + 3 * t) by omega] at hh
          exact hh
        · rw [pu_ifF ⟨by omega, by omega⟩ ⟨by omega, by omega⟩ c3]
          rw [show max (puDl s t x) ((puLast s (puFm s x) + 1) - s (6 + 3 * t)) = puDl s t x by omega] at hh
          exact hh
      · rw [pu_ifF ⟨by omega, by omega⟩ ⟨by omega, by omega⟩ (by omega)]
        rw [show puDl s t (x + 1) = puDl s t x by
          show (if puTo s x = t then _ else _) = _
          rw [if_neg c2]] at hh
        exact hh
    · rw [pu_ifF ⟨by omega, by omega⟩ ⟨by omega, by omega⟩ c, show (s 77).toNat = x by omega]
      rfl
theorem pu_20 {σ : gSt} {μ : gLg} (xs : Nat → Int32) (j : Nat) (hI : puInv σ) : puP (DL_c20 xs j σ μ) (fun r => puInv r.1) := by
  unfold DL_c20
  refine pu_stepP ?_
  have hx := gR_x (xs (Int.toNat ((4 * (j : Int)) + (1 : Int))))
  generalize (xs (Int.toNat ((4 * (j : Int)) + (1 : Int)))).toInt = v at hx ⊢
  have ho := hI.1
  have hn := ho.arrows
  unfold DX8_delay DX9_delay
  rw [pu_reqTask hI.1 hI.2.1.1 hx, pu_isTask hI.1 hx, Option.bind_some]
  by_cases c : 0 ≤ v ∧ v < σ 137 4
  · rw [if_pos c, if_pos c, pu_xbR]
    obtain ⟨t, rfl⟩ : ∃ t : Nat, v = (t : Int) := ⟨v.toNat, by omega⟩
    refine puAns.ok (v := puDl (σ 137) t (σ 137 77).toNat) (hI.six 0) ?_ ?_
    · exact pu_delayC_L ho hI.2.1.1 c.2 gFuel 0 (by rw [gFuel_eq]; omega) (by omega)
    · rw [pu_ifF (by decide) (by decide) (by decide)]
      exact pu_delayR_L ho rfl c.2 gFuel 0 (by rw [gFuel_eq]; omega) (by omega)
  · rw [if_neg c, if_neg c, pu_xbL]
    refine puAns.no (hI.six 1) (r := 0) rfl rfl (Or.inl rfl) ?_
    rw [pu_ifT (by decide) (by decide) rfl]; rfl
