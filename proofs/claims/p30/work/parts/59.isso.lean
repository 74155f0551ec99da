/-! all that the law asks of the class -/
section PVI
variable {σ : gSt} {s : Nat → Int}
theorem pv_value (ho : puOk s) (hV : puCV σ s) {hs : List (Nat × Int)} {w : Nat} (hw : w < 6) : gWqP (DX8_value σ (w : Int)) hs = some (puVA s w) := by
  unfold DX8_value
  rw [pu_ifF ⟨by omega, by omega⟩ (by decide) (by omega), pu_ifT ⟨by omega, by omega⟩ (by decide) (by omega), pu_vA_C ho hV.1 hw]
  rfl
theorem pv_task (ho : puOk s) (hV : puCV σ s) {hs : List (Nat × Int)} {t w : Nat} {wi : Int} (e : wi = (w : Int)) (ht : (t : Int) < s 4) (hw : w < 7) : gWqP (DX8_task σ (t : Int) wi) hs = some (puTA s t w) := by
  have h24 := ho.t24 ht
  subst e
  unfold DX8_task
  rw [pu_reqTask ho hV.1 ⟨by omega, by omega⟩, if_pos ⟨by omega, ht⟩, pu_xbR, pu_ifF ⟨by omega, by omega⟩ (by decide) (by omega), pu_ifT ⟨by omega, by omega⟩ (by decide) (by omega), pu_tA_C ho hV ht hw]
  rfl
theorem pv_taskX (ho : puOk s) (hV : puCV σ s) : gWqP (DX8_task σ (s 4) 0) [(3, (-100001 : Int)), (1, (-100002 : Int))] = some (-100001) := by
  have hn := ho.tasks
  unfold DX8_task
  rw [pu_reqTask ho hV.1 ⟨by omega, by omega⟩, if_neg (by omega), pu_xbL]
  rfl
theorem pv_arrowX (ho : puOk s) (hV : puCV σ s) : gWqP (DX8_arrow σ (s 77) 0) [(3, (-100001 : Int)), (1, (-100002 : Int))] = some (-100001) := by
  have hn := ho.arrows
  unfold DX8_arrow
  rw [pu_reqArrow ho hV.1 ⟨by omega, by omega⟩, if_neg (by omega), pu_xbL]
  rfl
theorem pv_delay (ho : puOk s) (hV : puCV σ s) {hs : List (Nat × Int)} {t : Nat} (ht : (t : Int) < s 4) : gWqP (DX8_delay σ (t : Int)) hs = some (puDl s t (s 77).toNat) := by
  have h24 := ho.t24 ht
  have hn := ho.arrows
  unfold DX8_delay
  rw [pu_reqTask ho hV.1 ⟨by omega, by omega⟩, if_pos ⟨by omega, ht⟩, pu_xbR, show DX8_delay_L9 σ (t : Int) gFuel 0 0 = some (.inr (puDl s t (s 77).toNat)) from pu_delayC_L ho hV.1 ht gFuel 0 (by rw [gFuel_eq]; omega) (by omega)]
  rfl
theorem pv_part (ho : puOk s) (hV : puCV σ s) {hs : List (Nat × Int)} {t p w : Nat} {wi : Int} (e : wi = (w : Int)) (ht : (t : Int) < s 4) (hp : puF s (s 1) t + p ≤ puT s (s 1) t) (hw : w < 5) : gWqP (DX8_part σ (t : Int) (p : Int) wi) hs = some (puPA s t p w) := by
  have h24 := ho.t24 ht
  have hft := puFT ho ho.days ht
  subst e
  unfold DX8_part
  rw [pu_reqTask ho hV.1 ⟨by omega, by omega⟩, if_pos ⟨by omega, ht⟩, pu_xbR, pu_ifF ⟨by omega, by omega⟩ (by decide) (by omega), pu_partsC ho hV.1 ht, Option.bind_some, pu_ifT ⟨by omega, by omega⟩ ⟨by omega, by omega⟩ (by omega), pu_ifF ⟨by omega, by omega⟩ (by decide) (by omega), pu_ifT ⟨by omega, by omega⟩ (by decide) (by omega), pu_pA_C ho hV ht hp hw]
  rfl
theorem pv_partX (ho : puOk s) (hV : puCV σ s) {t : Nat} (ht : (t : Int) < s 4) : gWqP (DX8_part σ (t : Int) ((puT s (s 1) t : Int) - (puF s (s 1) t : Int) + 1) 0) [(3, (-100001 : Int)), (1, (-100002 : Int))] = some (-100001) := by
  have h24 := ho.t24 ht
  have hft := puFT ho ho.days ht
  unfold DX8_part
  rw [pu_reqTask ho hV.1 ⟨by omega, by omega⟩, if_pos ⟨by omega, ht⟩, pu_xbR, pu_ifF ⟨by omega, by omega⟩ (by decide) (by omega), pu_partsC ho hV.1 ht, Option.bind_some, pu_ifF ⟨by omega, by omega⟩ ⟨by omega, by omega⟩ (by omega)]
  rfl
theorem pv_row (ho : puOk s) (hV : puCV σ s) {hs : List (Nat × Int)} {B r : Nat} (hB : B < puBands s (s 0).toNat) (hr : (r : Int) < s 0) : gWqP (DX8_row σ (B : Int) (r : Int)) hs = some (puRow s (s 0).toNat (20 * B + r)) := by
  have hR := ho.rows
  have hb := puBands_le (R := (s 0).toNat) ho (by omega)
  unfold DX8_row
  rw [pu_reqBand ho hV ⟨by omega, by omega⟩, if_pos ⟨by omega, by omega⟩, pu_xbR, pu_reqRow ho hV.1 ⟨by omega, by omega⟩, if_pos ⟨by omega, hr⟩, pu_xbR]
  unfold DX0_content
  rw [show ((B : Int) * 20 + (r : Int)) = ((20 * B + r : Nat) : Int) by omega, pu_atN (by omega) (by decide), Option.bind_some]
  show some _ = some _
  rw [← hV.2.1.2.1 (20 * B + r) (by omega)]
theorem pv_rowX (ho : puOk s) (hV : puCV σ s) : gWqP (DX8_row σ (puBands s (s 0).toNat : Int) 0) [(3, (-100001 : Int))] = some (-100001) := by
  have hR := ho.rows
  have hb := puBands_le (R := (s 0).toNat) ho (by omega)
  unfold DX8_row
  rw [pu_reqBand ho hV ⟨by omega, by omega⟩, if_neg (by omega), pu_xbL]
  rfl
theorem pv_bandsC (hV : puCV σ s) : DX8_bands σ = some (puBands s (s 0).toNat : Int) := by
  unfold DX8_bands DX0_count
  rw [Option.bind_some, hV.2.1.1]
theorem pv_longC (ho : puOk s) (hV : puCV σ s) : puP (DX8_longestChain σ) (fun r => r.1 = puLong s ∧ (∀ q, q ≠ 86 → r.2 q = σ q)) := by
  unfold DX8_longestChain
  refine pu_b (pu_longC ho hV.1) (fun r w => pu_some w)
end PVI
section PVJ
variable {q : Int × gSt} {s : Nat → Int}
/-- the state of the law's questions -/
def pvQ (q : Int × gSt) (s : Nat → Int) : Prop := puOk s ∧ puCV q.2 s ∧ pvT q.2 s ∧ pvE q.2 s ∧ q.1 = (puBands s (s 0).toNat : Int) ∧ (∀ t : Nat, (t : Int) < s 4 → q.2 122 t = 32 * (puBand s (s 0).toNat t : Int) + (puRowOf s (s 0).toNat t : Int))
theorem pv_L38 (h : pvQ q s) {K : Option (Int × gSt)} {Q : Int × gSt → Prop} (kk : puP K Q) : ∀ (f w : Nat), 6 - w < f → w ≤ 6 → puP (DL_isSoB_L38 K q f (w : Int)) Q := by
  obtain ⟨ho, hV, hT, hE, h1, hb⟩ := h
  intro f
  induction f with
  | zero => intro w h; omega
  | succ f ih =>
    intro w hf hw
    rw [DL_isSoB_L38]
    refine pu_if ⟨by omega, by omega⟩ (by decide) (fun c => ?_) (fun c => kk)
    rw [pv_value ho hV (by omega), Option.bind_some, pu_gat (by omega) (by omega), Int.toNat_natCast]
    have e : q.2 136 w = puVA s w := by
      unfold puVA
      by_cases c2 : w < 4
      · rw [if_pos (by omega)]
        exact hT.1 w c2
      · by_cases c3 : w = 4
        · rw [c3]
          exact hT.2.1
        · have c4 : w = 5 := by omega
          rw [c4]
          exact hE.1
    have hr : gR (puVA s w) := by
      have g0 := ho.rows
      have g1 := ho.days
      have g2 := ho.keep
      have g3 := ho.order
      have g4 := ho.tasks
      have g5 := ho.arrows
      rcases (show w = 0 ∨ w = 1 ∨ w = 2 ∨ w = 3 ∨ w = 4 ∨ w = 5 by omega) with rfl | rfl | rfl | rfl | rfl | rfl
      · exact ⟨by show -2147483648 ≤ s 0; omega, by show s 0 ≤ 2147483647; omega⟩
      · exact ⟨by show -2147483648 ≤ s 1; omega, by show s 1 ≤ 2147483647; omega⟩
      · exact ⟨by show -2147483648 ≤ s 2; omega, by show s 2 ≤ 2147483647; omega⟩
      · exact ⟨by show -2147483648 ≤ s 3; omega, by show s 3 ≤ 2147483647; omega⟩
      · exact ⟨by show -2147483648 ≤ s 4; omega, by show s 4 ≤ 2147483647; omega⟩
      · exact ⟨by show -2147483648 ≤ s 77; omega, by show s 77 ≤ 2147483647; omega⟩
    rw [e, pu_ifT hr hr rfl, show (w : Int) + 1 = ((w + 1 : Nat) : Int) by omega]
    exact ih (w + 1) (by omega) (by omega)
theorem pv_L123 (h : pvQ q s) {t : Nat} (ht : (t : Int) < s 4) {K : Int → Option (Int × gSt)} {Q : Int × gSt → Prop} (kk : puP (K (puDl s t (s 77).toNat)) Q) : ∀ (f x : Nat), (s 77).toNat - x < f → (x : Int) ≤ s 77 → puP (DL_isSoB_L123 K q (t : Int) f (x : Int) (puDl s t x)) Q := by
  obtain ⟨ho, hV, hT, hE, h1, hb⟩ := h
  have hm := ho.arrows
  have h24 := ho.t24 ht
  have hf0 := ho.f ht
  have hn := ho.tasks
  intro f
  induction f with
  | zero => intro x h; omega
  | succ f ih =>
    intro x hf hx
    rw [DL_isSoB_L123, pu_gat (by decide) (by decide), show q.2 136 (Int.toNat (5 : Int)) = s 77 from hE.1]
    refine pu_if ⟨by omega, by omega⟩ ⟨by omega, by omega⟩ (fun c => ?_) (fun c => ?_)
    · obtain ⟨f1, f2⟩ := puFm_e ho c
      obtain ⟨t1, t2⟩ := puTo_e ho c
      have l1 := ho.last f2
      have l2 := ho.f f2
      have hd := puDl_in ho ht x (by omega)
      have hstep : puDl s t (x + 1) = if puTo s x = t then max (puDl s t x) ((puLast s (puFm s x) + 1) - s (6 + 3 * t)) else puDl s t x := rfl
      have hnext : ∀ v : Int, v = puDl s t (x + 1) → puP (DL_isSoB_J181 (DL_isSoB_L123 K q (t : Int) f) (x : Int) v) Q := fun v hv => by
        unfold DL_isSoB_J181
        rw [show (x : Int) + 1 = ((x + 1 : Nat) : Int) by omega, hv]
        exact ih (x + 1) (by omega) (by omega)
      rw [pu_gat (by omega) (by omega), Int.toNat_natCast, hE.2 x c, pu_dv (by omega) (by omega) (by decide) (by decide), show (32 * (puFm s x : Int) + (puTo s x : Int)) / 32 = (puFm s x : Int) by omega, pv_last ho hT f2, Option.bind_some, pu_gat (by omega) (by omega), pu_gat (by omega) (by omega), pu_dv (by omega) (by omega) (by decide) (by decide), show (32 * (puFm s x : Int) + (puTo s x : Int)) % 32 = (puTo s x : Int) by omega, Int.toNat_natCast, (hT.2.2 t ht).2.1]
      refine pu_if ⟨by omega, by omega⟩ ⟨by omega, by omega⟩ (fun c2 => ?_) (fun c2 => ?_)
      · have e2 : puTo s x = t := by omega
        refine pu_if ⟨by omega, by omega⟩ ⟨by omega, by omega⟩ (fun c3 => hnext _ ?_) (fun c3 => ?_)
        · rw [hstep, if_pos e2, Int.max_eq_right (by omega)]
        · unfold DL_isSoB_J179
          refine hnext _ ?_
          rw [hstep, if_pos e2, Int.max_eq_left (by omega)]
      · unfold DL_isSoB_J179
        refine hnext _ ?_
        rw [hstep, if_neg (fun z => c2 (by rw [z]))]
    · have e : x = (s 77).toNat := by omega
      subst e
      exact kk
/-- a quotient's rest -/
theorem pvDivs {x D : Int} (hD : 0 < D) : x / D * D ≤ x ∧ x < x / D * D + D := by
  have h1 := Int.mul_ediv_add_emod x D
  have h2 := Int.emod_nonneg x (show D ≠ 0 by omega)
  have h3 := Int.emod_lt_of_pos x hD
  have h4 : D * (x / D) = x / D * D := Int.mul_comm _ _
  omega
theorem pv_L323 (h : pvQ q s) {t : Nat} (ht : (t : Int) < s 4) {K : Int → Option (Int × gSt)} {Q : Int × gSt → Prop} (kk : puP (K (s (7 + 3 * t))) Q) : ∀ (f p : Nat) (days : Int), puT s (s 1) t + 1 - (puF s (s 1) t + p) < f → ((puF s (s 1) t + p ≤ puT s (s 1) t ∧ days = puFrD s t p - s (6 + 3 * t)) ∨ (puF s (s 1) t + p = puT s (s 1) t + 1 ∧ days = s (7 + 3 * t))) → puP (DL_isSoB_L323 K q (t : Int) (puLast s t) f (p : Int) days) Q := by
  obtain ⟨ho, hV, hT, hE, h1, hb⟩ := h
  have h24 := ho.t24 ht
  have hft := puFT ho ho.days ht
  have hD := ho.days
  have hf0 := ho.f ht
  have hl0 := ho.l ht
  have hla := ho.last ht
  have e1 : q.2 136 (Int.toNat (1 : Int)) = s 1 := hT.1 1 (by decide)
  have eF := puF_e ho hD ht
  have eT := puT_e ho hD ht
  have eL : puLast s t = s (6 + 3 * t) + s (7 + 3 * t) - 1 := rfl
  intro f
  induction f with
  | zero => intro p days h; omega
  | succ f ih =>
    intro p days hf hd
    have hdr : 0 ≤ days ∧ days ≤ 1000 := by
      rcases hd with ⟨d1, d2⟩ | ⟨d1, d2⟩
      · obtain ⟨g1, g2, g3, g4, g5, g6⟩ := puPart ho ht d1
        have : s (6 + 3 * t) ≤ puFrD s t p := by rw [← g2]; exact Int.le_max_left _ _
        omega
      · omega
    rw [DL_isSoB_L323, e1, Int.toNat_natCast, (hT.2.2 t ht).2.1, eF, eT]
    refine pu_if ⟨by omega, by omega⟩ ⟨by omega, by omega⟩ (fun c => ?_) (fun c => ?_)
    · have hp : puF s (s 1) t + p ≤ puT s (s 1) t := by omega
      have hdays : days = puFrD s t p - s (6 + 3 * t) := by
        rcases hd with ⟨d1, d2⟩ | ⟨d1, d2⟩
        · exact d2
        · omega
      obtain ⟨g1, g2, g3, g4, g5, g6⟩ := puPart ho ht hp
      have hbeg : s (6 + 3 * t) ≤ puFrD s t p := by rw [← g2]; exact Int.le_max_left _ _
      have hbeg2 : ((puF s (s 1) t : Int) + (p : Int)) * s 1 ≤ puFrD s t p := by rw [← g2]; exact Int.le_max_right _ _
      have hmod := Int.emod_lt_of_pos (puFrD s t p) (show 0 < s 1 by omega)
      have hdivL := pvDivs (x := puLast s t) (show 0 < s 1 by omega)
      rw [eT] at hdivL
      have hM : ((puF s (s 1) t : Int) + (((p + 1 : Nat)) : Int)) * s 1 = ((puF s (s 1) t : Int) + (p : Int)) * s 1 + s 1 := by
        rw [show ((puF s (s 1) t : Int) + ((p + 1 : Nat) : Int)) = ((puF s (s 1) t : Int) + (p : Int)) + 1 by omega, Int.add_mul, Int.one_mul]
      have hTo : puToD s t p = if puF s (s 1) t + p = puT s (s 1) t then puLast s t else ((puF s (s 1) t : Int) + (p : Int)) * s 1 + s 1 - 1 := rfl
      have hFr1 : puFrD s t (p + 1) = ((puF s (s 1) t : Int) + (((p + 1 : Nat)) : Int)) * s 1 := if_neg (by omega)
      -- this part's length
      have hits : ∀ fr : Int, fr = puFrD s t p - ((puF s (s 1) t : Int) + (p : Int)) * s 1 → ∀ its : Int, its = (if s 1 - fr < s (7 + 3 * t) - days then s 1 - fr else s (7 + 3 * t) - days) → its = puToD s t p - puFrD s t p + 1 ∧ ((puF s (s 1) t + (p + 1) ≤ puT s (s 1) t ∧ days + its = puFrD s t (p + 1) - s (6 + 3 * t)) ∨ (puF s (s 1) t + (p + 1) = puT s (s 1) t + 1 ∧ days + its = s (7 + 3 * t))) := by
        intro fr hfr its hi
        by_cases e : puF s (s 1) t + p = puT s (s 1) t
        · have e2 : ((puF s (s 1) t : Int) + (p : Int)) = (puT s (s 1) t : Int) := by omega
          rw [e2] at hfr hbeg2 hM
          rw [hTo, if_pos e]
          rw [if_neg (by omega)] at hi
          exact ⟨by omega, Or.inr ⟨by omega, by omega⟩⟩
        · have hmul := puMul (S := (puF s (s 1) t : Int) + ((p + 1 : Nat) : Int)) (T := (puT s (s 1) t : Int)) (D := s 1) (by omega) (by omega)
          rw [hTo, if_neg e]
          rw [if_pos (by omega)] at hi
          exact ⟨by omega, Or.inl ⟨by omega, by rw [hFr1]; omega⟩⟩
      have hJ : ∀ fr : Int, fr = puFrD s t p - ((puF s (s 1) t : Int) + (p : Int)) * s 1 → puP (DL_isSoB_J352 q (t : Int) (DL_isSoB_L323 K q (t : Int) (puLast s t) f) (p : Int) days fr) Q := by
        intro fr hfr
        have hfin : ∀ its : Int, its = (if s 1 - fr < s (7 + 3 * t) - days then s 1 - fr else s (7 + 3 * t) - days) → puP (DL_isSoB_J388 q (t : Int) (DL_isSoB_L323 K q (t : Int) (puLast s t) f) (p : Int) days fr its) Q := by
          intro its hi
          obtain ⟨i1, i2⟩ := hits fr hfr its hi
          have hpa1 : puPA s t p 1 = puFrD s t p - ((puF s (s 1) t : Int) + (p : Int)) * s 1 := rfl
          have hpa2 : puPA s t p 2 = (puToD s t p - puFrD s t p) + 1 := rfl
          unfold DL_isSoB_J388
          rw [pv_part ho hV (w := 1) (wi := 1) rfl ht hp (by decide), Option.bind_some, hpa1, ← hfr, pu_ifT ⟨by omega, by omega⟩ ⟨by omega, by omega⟩ rfl, pv_part ho hV (w := 2) (wi := 2) rfl ht hp (by decide), Option.bind_some, hpa2, ← i1]
          have hir : gR its := by rw [hi]; split <;> exact ⟨by omega, by omega⟩
          rw [pu_ifT hir hir rfl, show (p : Int) + 1 = ((p + 1 : Nat) : Int) by omega]
          exact ih (p + 1) (days + its) (by omega) i2
        unfold DL_isSoB_J352
        rw [pu_gat (by decide) (by decide), pu_gat (by omega) (by omega), Int.toNat_natCast, e1, (hT.2.2 t ht).2.2]
        refine pu_if ⟨by omega, by omega⟩ ⟨by omega, by omega⟩ (fun c2 => ?_) (fun c2 => ?_)
        · rw [pu_gat (by decide) (by decide)]
          exact hfin _ (by rw [if_pos c2])
        · rw [pu_gat (by omega) (by omega)]
          exact hfin _ (by rw [if_neg c2])
      refine pu_if ⟨by omega, by omega⟩ (by decide) (fun c2 => ?_) (fun c2 => ?_)
      · have hp0 : p = 0 := by omega
        have e5 : puFrD s t p = s (6 + 3 * t) := if_pos hp0
        rw [pu_gat (by omega) (by omega), pu_gat (by decide) (by decide), pu_dv (by omega) (by omega) (by omega) (by omega)]
        refine hJ _ ?_
        rw [← g4, e5]
      · have e5 : puFrD s t p = ((puF s (s 1) t : Int) + (p : Int)) * s 1 := if_neg (by omega)
        refine hJ 0 ?_
        rw [e5]
        omega
    · rcases hd with ⟨d1, d2⟩ | ⟨d1, d2⟩
      · omega
      · rw [d2]
        exact kk
theorem pv_L79 (h : pvQ q s) {K : Option (Int × gSt)} {Q : Int × gSt → Prop} (kk : puP K Q) : ∀ (f x : Nat), (s 4).toNat - x < f → (x : Int) ≤ s 4 → puP (DL_isSoB_L79 K q f (x : Int)) Q := by
  have h0 := h
  obtain ⟨ho, hV, hT, hE, h1, hb⟩ := h
  have hn := ho.tasks
  have hm := ho.arrows
  have hD := ho.days
  have hR := ho.rows
  have e1 : q.2 136 (Int.toNat (1 : Int)) = s 1 := hT.1 1 (by decide)
  intro f
  induction f with
  | zero => intro x h; omega
  | succ f ih =>
    intro x hf hx
    rw [DL_isSoB_L79, pu_gat (by decide) (by decide), show q.2 136 (Int.toNat (4 : Int)) = s 4 from hT.2.1]
    refine pu_if ⟨by omega, by omega⟩ ⟨by omega, by omega⟩ (fun c => ?_) (fun c => kk)
    have h24 := ho.t24 c
    have hf0 := ho.f c
    have hl0 := ho.l c
    have hg0 := ho.g c
    have hla := ho.last c
    have hft := puFT ho hD c
    have eF := puF_e ho hD c
    have eT := puT_e ho hD c
    obtain ⟨g1, g2, g3⟩ := hT.2.2 x c
    have hband := puBand_lt (R := (s 0).toNat) ho (by omega) c
    have hbl := puBands_le (R := (s 0).toNat) ho (by omega)
    have hrow := puRowOf_lt (R := (s 0).toNat) ho (by omega) c
    have hdl := puDl_in ho c (s 77).toNat (by omega)
    rw [pv_last ho hT c, Option.bind_some, pu_gat (by decide) (by decide), e1, pu_dv (by omega) (by omega) (by omega) (by omega), pu_gat (by omega) (by omega), pu_gat (by decide) (by decide), Int.toNat_natCast, g2, pu_dv (by omega) (by omega) (by omega) (by omega)]
    refine pv_L123 h0 c ?_ gFuel 0 (by rw [gFuel_eq]; omega) (by omega)
    unfold DL_isSoB_K189
    rw [Int.toNat_natCast, e1, g1, g2, g3, hb x c]
    rw [pv_task ho hV (w := 0) (wi := 0) rfl c (by decide), Option.bind_some, pu_gat (by omega) (by omega), show puTA s x 0 = s (5 + 3 * x) from rfl, pu_ifT ⟨by omega, by omega⟩ ⟨by omega, by omega⟩ rfl]
    rw [pv_task ho hV (w := 1) (wi := 1) rfl c (by decide), Option.bind_some, pu_gat (by omega) (by omega), show puTA s x 1 = s (6 + 3 * x) from rfl, pu_ifT ⟨by omega, by omega⟩ ⟨by omega, by omega⟩ rfl]
    rw [pv_task ho hV (w := 2) (wi := 2) rfl c (by decide), Option.bind_some, pu_gat (by omega) (by omega), show puTA s x 2 = s (7 + 3 * x) from rfl, pu_ifT ⟨by omega, by omega⟩ ⟨by omega, by omega⟩ rfl]
    rw [pv_task ho hV (w := 3) (wi := 3) rfl c (by decide), Option.bind_some, pv_last ho hT c, Option.bind_some, show puTA s x 3 = puLast s x from rfl, pu_ifT ⟨by omega, by omega⟩ ⟨by omega, by omega⟩ rfl]
    rw [pv_task ho hV (w := 4) (wi := 4) rfl c (by decide), Option.bind_some, pu_gat (by omega) (by omega), pu_dv (by omega) (by omega) (by decide) (by decide), show puTA s x 4 = (puBand s (s 0).toNat x : Int) from rfl, pu_ifT ⟨by omega, by omega⟩ ⟨by omega, by omega⟩ (by omega)]
    rw [pv_task ho hV (w := 5) (wi := 5) rfl c (by decide), Option.bind_some, pu_gat (by omega) (by omega), pu_dv (by omega) (by omega) (by decide) (by decide), show puTA s x 5 = (puRowOf s (s 0).toNat x : Int) from rfl, pu_ifT ⟨by omega, by omega⟩ ⟨by omega, by omega⟩ (by omega)]
    rw [pv_task ho hV (w := 6) (wi := 6) rfl c (by decide), Option.bind_some, show puTA s x 6 = (puT s (s 1) x : Int) - (puF s (s 1) x : Int) + 1 from rfl, eF, eT, pu_ifT ⟨by omega, by omega⟩ ⟨by omega, by omega⟩ rfl]
    rw [pv_delay ho hV c, Option.bind_some, pu_ifT ⟨by omega, by omega⟩ ⟨by omega, by omega⟩ rfl]
    refine pv_L323 h0 c ?_ 14 0 0 (by omega) (Or.inl ⟨by omega, ?_⟩)
    · unfold DL_isSoB_K438
      rw [pu_gat (by omega) (by omega), Int.toNat_natCast, g3, pu_ifT ⟨by omega, by omega⟩ ⟨by omega, by omega⟩ rfl, e1, g2, eF, eT, pv_partX ho hV c, Option.bind_some, pu_ifT (by decide) (by decide) rfl, show (x : Int) + 1 = ((x + 1 : Nat) : Int) by omega]
      exact ih (x + 1) (by omega) (by omega)
    · have e5 : puFrD s x 0 = s (6 + 3 * x) := if_pos rfl
      rw [e5]
      omega
end PVJ
