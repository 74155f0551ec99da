/-! what a plan answers; first the reference -/
def puRV (σ : gSt) (s : Nat → Int) (R : Nat) (D : Int) : Prop := σ 137 = s ∧ puRR σ s R ∧ puRS σ s R D
theorem pu_prints {σ : gSt} (ho : puOk (σ 137)) : puP (DX9_prints σ) (fun σ' => puRV σ' (σ 137) (σ 137 0).toNat (σ 137 1) ∧ puPF σ σ') := by
  have hR := ho.rows
  have hD := ho.days
  unfold DX9_prints
  rw [pu_gat (by decide) (by decide), pu_gat (by decide) (by decide), show Int.toNat (0 : Int) = 0 from rfl, show Int.toNat (1 : Int) = 1 from rfl]
  have h := pu_printsBy (σ := σ) (R := (σ 137 0).toNat) (D := σ 137 1) ho (by omega) hD
  rw [show (((σ 137 0).toNat : Nat) : Int) = σ 137 0 by omega] at h
  exact pu_b h (fun σ' q => pu_some ⟨⟨q.2.2.s, q.1, q.2.1⟩, q.2.2⟩)
def puLate (s : Nat → Int) (a : Nat) : Prop := s (6 + 3 * puTo s a) ≤ puLast s (puFm s a)
section PUR
variable {σ : gSt} {s : Nat → Int} {R : Nat} {D : Int}
theorem pu_r4 (hs : σ 137 = s) : σ 137 (Int.toNat (4 : Int)) = s 4 := by rw [hs]; rfl
theorem pu_r77 (hs : σ 137 = s) : σ 137 (Int.toNat (77 : Int)) = s 77 := by rw [hs]; rfl
theorem pu_r0 (hs : σ 137 = s) : σ 137 (Int.toNat (0 : Int)) = s 0 := by rw [hs]; rfl
theorem pu_r1 (hs : σ 137 = s) : σ 137 (Int.toNat (1 : Int)) = s 1 := by rw [hs]; rfl
theorem pu_rof0 (ho : puOk s) (hs : σ 137 = s) {t : Nat} (ht : (t : Int) < s 4) : DX9_of σ (t : Int) 0 = some (s (5 + 3 * t)) := by
  subst hs
  exact pu_of0 ho ht
theorem pu_rof1 (ho : puOk s) (hs : σ 137 = s) {t : Nat} (ht : (t : Int) < s 4) : DX9_of σ (t : Int) 1 = some (s (6 + 3 * t)) := by
  subst hs
  exact pu_of1 ho ht
theorem pu_rof2 (ho : puOk s) (hs : σ 137 = s) {t : Nat} (ht : (t : Int) < s 4) : DX9_of σ (t : Int) 2 = some (s (7 + 3 * t)) := by
  subst hs
  exact pu_of2 ho ht
theorem pu_rlast (ho : puOk s) (hs : σ 137 = s) {t : Nat} (ht : (t : Int) < s 4) : DX9_lastDay σ (t : Int) = some (puLast s t) := by
  subst hs
  exact pu_lastDay ho ht
theorem pu_rend0 (ho : puOk s) (hs : σ 137 = s) {a : Nat} (ha : (a : Int) < s 77) : DX9_end σ (a : Int) 0 = some (puFm s a : Int) := by
  rw [← (puFm_e ho ha).1]
  subst hs
  exact pu_end0 ho ha
theorem pu_rend1 (ho : puOk s) (hs : σ 137 = s) {a : Nat} (ha : (a : Int) < s 77) : DX9_end σ (a : Int) 1 = some (puTo s a : Int) := by
  rw [← (puTo_e ho ha).1]
  subst hs
  exact pu_end1 ho ha
theorem pu_sheetBy (ho : puOk s) (hR : 3 ≤ R) (hD : 5 ≤ D ∧ D ≤ 60) (h : puRV σ s R D) {t x : Nat} {d : Int} (ht : (t : Int) < s 4) (hd : 0 ≤ d ∧ d ≤ 258) (hx : d / D = (x : Int)) (hx1 : x ≤ 51) : DX9_sheetBy σ (t : Int) d D = some (puNo s R D (52 * puBand s R t + x)) := by
  have h24 := ho.t24 ht
  have hb := puBand_lt ho hR ht
  have hb2 := puBands_le ho hR
  unfold DX9_sheetBy
  rw [pu_gat (by omega) (by omega), pu_dv hd.1 (by omega) (by omega) (by omega), Int.toNat_natCast, hx, (h.2.1.2.2 t ht).1, pu_gat (by omega) (by omega), show Int.toNat ((52 : Int) * (puBand s R t : Int) + (x : Int)) = 52 * puBand s R t + x by omega]
  exact congrArg some (h.2.2.2.1 _ (by omega))
theorem pu_leaves (ho : puOk s) (hR : 3 ≤ R) (hD : 5 ≤ D ∧ D ≤ 60) (h : puRV σ s R D) {a : Nat} (ha : (a : Int) < s 77) : DX9_leaves σ (a : Int) D = some (puLv s R D a) := by
  have f2 := (puFm_e ho ha).2
  have l1 := ho.last f2
  have l2 := ho.f f2
  have w1 := puFT ho hD f2
  unfold DX9_leaves
  rw [pu_rend0 ho h.1 ha, Option.bind_some, Option.bind_some, pu_rlast ho h.1 f2, Option.bind_some, pu_sheetBy ho hR hD h f2 (by omega) (puT_e ho hD f2) w1.2.1, Option.bind_some]
  rfl
theorem pu_arrives (ho : puOk s) (hR : 3 ≤ R) (hD : 5 ≤ D ∧ D ≤ 60) (h : puRV σ s R D) {a : Nat} (ha : (a : Int) < s 77) : DX9_arrives σ (a : Int) D = some (puAv s R D a) := by
  have f2 := (puTo_e ho ha).2
  have l2 := ho.f f2
  have w1 := puFT ho hD f2
  unfold DX9_arrives
  rw [pu_rend1 ho h.1 ha, Option.bind_some, Option.bind_some, pu_rof1 ho h.1 f2, Option.bind_some, pu_sheetBy ho hR hD h f2 (by omega) (puF_e ho hD f2) (by omega), Option.bind_some]
  rfl
theorem pu_isExit (ho : puOk s) (hR : 3 ≤ R) (hD : 5 ≤ D ∧ D ≤ 60) (h : puRV σ s R D) {a : Nat} (ha : (a : Int) < s 77) : DX9_isExit σ (a : Int) D = some (if puEx s R D a = true then 1 else 0) := by
  obtain ⟨i, e1, e2⟩ := puLv_in (R := R) ho hR hD ha
  obtain ⟨i2, e3, e4⟩ := puAv_in (R := R) ho hR hD ha
  have h312 := puSheets_le (R := R) ho hD
  unfold DX9_isExit
  rw [pu_leaves ho hR hD h ha, Option.bind_some, pu_arrives ho hR hD h ha, Option.bind_some, pu_ite ⟨by omega, by omega⟩ ⟨by omega, by omega⟩, pu_bo (Or.inl rfl), pu_bo (Or.inr rfl)]
  by_cases e : puLv s R D a = puAv s R D a
  · rw [if_pos e, if_neg (fun q => puEx_e.mp q e)]
  · rw [if_neg e, if_pos (puEx_e.mpr e)]
theorem pu_exitOf_L (ho : puOk s) (hR : 3 ≤ R) (hD : 5 ≤ s 1 ∧ s 1 ≤ 60) (h : puRV σ s R (s 1)) {a : Nat} (ha : (a : Int) < s 77) : ∀ (f x : Nat), a + 1 - x < f → x ≤ a + 1 → DX9_exitOf_L4 (DX9_exitOf_K37 σ (a : Int)) σ (a : Int) f (x : Int) (puC (puEx s R (s 1)) x : Int) = some (puXn s R (s 1) a) := by
  have a30 := ho.a30 ha
  intro f
  induction f with
  | zero => intro x h; omega
  | succ f ih =>
    intro x hf hx
    rw [DX9_exitOf_L4]
    by_cases hc : (a : Int) < (x : Int)
    · have e : x = a + 1 := by omega
      subst e
      rw [pu_ifT ⟨by omega, by omega⟩ ⟨by omega, by omega⟩ hc]
      unfold DX9_exitOf_K37
      rw [pu_gat (by decide) (by decide), pu_r1 h.1, pu_isExit ho hR hD h ha, Option.bind_some]
      unfold puXn
      by_cases e : puEx s R (s 1) a = true
      · rw [if_pos e, if_pos e, pu_ifF (by decide) (by decide) (by decide)]
      · rw [if_neg e, if_neg e, pu_ifT (by decide) (by decide) rfl]
    · rw [pu_ifF ⟨by omega, by omega⟩ ⟨by omega, by omega⟩ hc, pu_gat (by decide) (by decide), pu_r1 h.1, pu_isExit ho hR hD h (by omega), Option.bind_some]
      unfold DX9_exitOf_J29
      rw [show ((x : Int) + 1) = ((x + 1 : Nat) : Int) by omega]
      have hh := ih (x + 1) (by omega) (by omega)
      by_cases e : puEx s R (s 1) x = true
      · rw [if_pos e, pu_ifF (by decide) (by decide) (by decide)]
        rw [puC_T e] at hh
        rw [show ((puC (puEx s R (s 1)) x : Int) + 1) = ((puC (puEx s R (s 1)) x + 1 : Nat) : Int) by omega]
        exact hh
      · rw [if_neg e, pu_ifT (by decide) (by decide) rfl, Int.add_zero]
        rw [puC_F e] at hh
        exact hh
theorem pu_exitOf (ho : puOk s) (hR : 3 ≤ R) (hD : 5 ≤ s 1 ∧ s 1 ≤ 60) (h : puRV σ s R (s 1)) {a : Nat} (ha : (a : Int) < s 77) : DX9_exitOf σ (a : Int) = some (puXn s R (s 1) a) := by
  have a30 := ho.a30 ha
  exact pu_exitOf_L ho hR hD h ha gFuel 0 (by rw [gFuel_eq]; omega) (Nat.zero_le _)
theorem pu_rLate (ho : puOk s) (hs : σ 137 = s) {a : Nat} (ha : (a : Int) < s 77) : ∃ v, DX9_isLate σ (a : Int) = some v ∧ ((puLate s a ∧ v = 1) ∨ (¬ puLate s a ∧ v = 0)) := by
  have f2 := (puFm_e ho ha).2
  have t2 := (puTo_e ho ha).2
  have l1 := ho.last f2
  have l2 := ho.f f2
  have l3 := ho.f t2
  unfold DX9_isLate
  rw [pu_rend1 ho hs ha, Option.bind_some, pu_rof1 ho hs t2, Option.bind_some, pu_rend0 ho hs ha, Option.bind_some, pu_rlast ho hs f2, Option.bind_some, pu_ite ⟨by omega, by omega⟩ ⟨by omega, by omega⟩, pu_bo (Or.inl rfl), pu_bo (Or.inr rfl)]
  unfold puLate
  by_cases e : puLast s (puFm s a) < s (6 + 3 * puTo s a)
  · rw [if_pos e]
    exact ⟨0, rfl, Or.inr ⟨by omega, rfl⟩⟩
  · rw [if_neg e]
    exact ⟨1, rfl, Or.inl ⟨by omega, rfl⟩⟩
theorem pu_rparts (ho : puOk s) (hs : σ 137 = s) {t : Nat} (ht : (t : Int) < s 4) : DX9_partsOf σ (t : Int) = some ((puT s (s 1) t : Int) - (puF s (s 1) t : Int) + 1) := by
  have hD := ho.days
  have l1 := ho.last ht
  have l2 := ho.f ht
  unfold DX9_partsOf
  rw [pu_rlast ho hs ht, Option.bind_some, pu_gat (by decide) (by decide), pu_r1 hs, pu_dv (by omega) (by omega) (by omega) (by omega), pu_rof1 ho hs ht, Option.bind_some, pu_gat (by decide) (by decide), pu_dv (by omega) (by omega) (by omega) (by omega), puT_e ho hD ht, puF_e ho hD ht]
/-- counting loops -/
theorem pu_arrowsOn_L (ho : puOk s) (hR : 3 ≤ R) (hD : 5 ≤ s 1 ∧ s 1 ≤ 60) (h : puRV σ s R (s 1)) {i : Nat} (hi : i < 1248) {m : Int} (hm : m = 0 ∨ m = 1) {p : Nat → Bool} (hp : ∀ a : Nat, (a : Int) < s 77 → (p a = true ↔ ((puLv s R (s 1) a = (i : Int) ∨ puAv s R (s 1) a = (i : Int)) ∧ (puEx s R (s 1) a = true ↔ m = 1)))) : ∀ (f x : Nat), (s 77).toNat - x < f → (x : Int) ≤ s 77 → DX9_arrowsOn_L5 σ (i : Int) m f (x : Int) (puC p x : Int) = some (puC p (s 77).toNat : Int) := by
  have hn := ho.arrows
  have h312 := puSheets_le (R := R) ho hD
  intro f
  induction f with
  | zero => intro x h; omega
  | succ f ih =>
    intro x hf hx
    rw [DX9_arrowsOn_L5, pu_gat (by decide) (by decide), pu_r77 h.1]
    by_cases hc : (x : Int) < s 77
    · obtain ⟨i1, e1, e2⟩ := puLv_in (R := R) ho hR hD hc
      obtain ⟨i2, e3, e4⟩ := puAv_in (R := R) ho hR hD hc
      have hh := ih (x + 1) (by omega) (by omega)
      have hpx := hp x hc
      have hyes : p x = true → (DX9_arrowsOn_L5 σ (i : Int) m f ((x : Int) + 1) ((puC p x : Int) + 1) = some (puC p (s 77).toNat : Int)) := fun q => by
        rw [puC_T q] at hh
        rw [show ((x : Int) + 1) = ((x + 1 : Nat) : Int) by omega, show ((puC p x : Int) + 1) = ((puC p x + 1 : Nat) : Int) by omega]
        exact hh
      have hno : ¬ p x = true → (DX9_arrowsOn_L5 σ (i : Int) m f ((x : Int) + 1) ((puC p x : Int) + 0) = some (puC p (s 77).toNat : Int)) := fun q => by
        rw [puC_F q] at hh
        rw [show ((x : Int) + 1) = ((x + 1 : Nat) : Int) by omega, Int.add_zero]
        exact hh
      have hon : (puLv s R (s 1) x = (i : Int) ∨ puAv s R (s 1) x = (i : Int)) → DX9_arrowsOn_J54 σ m (DX9_arrowsOn_L5 σ (i : Int) m f) (x : Int) (puC p x : Int) 1 = some (puC p (s 77).toNat : Int) := by
        intro q
        unfold DX9_arrowsOn_J54 DX9_arrowsOn_J82 DX9_arrowsOn_J83
        rw [pu_ifF (by decide) (by decide) (by decide), pu_gat (by decide) (by decide), pu_r1 h.1, pu_isExit ho hR hD h hc, Option.bind_some]
        by_cases e : puEx s R (s 1) x = true
        · rw [if_pos e]
          rcases hm with hm | hm
          · rw [pu_ifF (by decide) ⟨by omega, by omega⟩ (by omega)]
            refine hno (fun z => ?_)
            have := (hpx.mp z).2.mp e
            omega
          · rw [pu_ifT (by decide) ⟨by omega, by omega⟩ (by omega)]
            exact hyes (hpx.mpr ⟨q, ⟨fun _ => hm, fun _ => e⟩⟩)
        · rw [if_neg e]
          rcases hm with hm | hm
          · rw [pu_ifT (by decide) ⟨by omega, by omega⟩ (by omega)]
            exact hyes (hpx.mpr ⟨q, ⟨fun z => absurd z e, fun z => by omega⟩⟩)
          · rw [pu_ifF (by decide) ⟨by omega, by omega⟩ (by omega)]
            exact hno (fun z => e ((hpx.mp z).2.mpr hm))
      rw [pu_ifT ⟨by omega, by omega⟩ ⟨by omega, by omega⟩ hc, pu_gat (by decide) (by decide), pu_r1 h.1, pu_leaves ho hR hD h hc, Option.bind_some]
      unfold DX9_arrowsOn_J49
      by_cases c1 : puLv s R (s 1) x = (i : Int)
      · rw [pu_ifT ⟨by omega, by omega⟩ ⟨by omega, by omega⟩ c1]
        exact hon (Or.inl c1)
      · rw [pu_ifF ⟨by omega, by omega⟩ ⟨by omega, by omega⟩ c1, pu_gat (by decide) (by decide), pu_arrives ho hR hD h hc, Option.bind_some]
        by_cases c2 : puAv s R (s 1) x = (i : Int)
        · rw [pu_ifT ⟨by omega, by omega⟩ ⟨by omega, by omega⟩ c2]
          exact hon (Or.inr c2)
        · rw [pu_ifF ⟨by omega, by omega⟩ ⟨by omega, by omega⟩ c2]
          unfold DX9_arrowsOn_J54 DX9_arrowsOn_J82 DX9_arrowsOn_J83
          rw [pu_ifT (by decide) (by decide) rfl]
          exact hno (fun z => by
            rcases (hpx.mp z).1 with z | z
            · exact c1 z
            · exact c2 z)
    · rw [pu_ifF ⟨by omega, by omega⟩ ⟨by omega, by omega⟩ hc, show (s 77).toNat = x by omega]
theorem pu_arrowsOn1 (ho : puOk s) (hR : 3 ≤ R) (hD : 5 ≤ s 1 ∧ s 1 ≤ 60) (h : puRV σ s R (s 1)) {i : Nat} (hi : i < 1248) : DX9_arrowsOn σ (i : Int) 1 = some (puC (puStP s R (s 1) i) (s 77).toNat : Int) := by
  have hn := ho.arrows
  refine pu_arrowsOn_L ho hR hD h hi (Or.inr rfl) (fun a ha => ?_) gFuel 0 (by rw [gFuel_eq]; omega) (by omega)
  unfold puStP
  cases puEx s R (s 1) a <;> simp
theorem pu_arrowsOn0 (ho : puOk s) (hR : 3 ≤ R) (hD : 5 ≤ s 1 ∧ s 1 ≤ 60) (h : puRV σ s R (s 1)) {i : Nat} (hi : i < 1248) : DX9_arrowsOn σ (i : Int) 0 = some (puC (puDrP s R (s 1) i) (s 77).toNat : Int) := by
  have hn := ho.arrows
  refine pu_arrowsOn_L ho hR hD h hi (Or.inl rfl) (fun a ha => ?_) gFuel 0 (by rw [gFuel_eq]; omega) (by omega)
  have hx := puEx_e (s := s) (R := R) (D := s 1) (a := a)
  unfold puDrP
  cases e : puEx s R (s 1) a
  · rw [e] at hx
    have hx2 : puLv s R (s 1) a = puAv s R (s 1) a := by
      by_cases q : puLv s R (s 1) a = puAv s R (s 1) a
      · exact q
      · exact absurd (hx.mpr q) (by decide)
    simp [← hx2]
  · simp
theorem pu_partsOn_L (ho : puOk s) (hR : 3 ≤ R) (h : puRV σ s R (s 1)) {i k : Nat} (hi : i < 1248) (hk : k < 1248) (hik : σ 145 i = (k : Int)) : ∀ (f x : Nat), (s 4).toNat - x < f → (x : Int) ≤ s 4 → DX9_partsOn_L4 σ (i : Int) f (x : Int) (puC (puOn s R (s 1) k) x : Int) = some (puCnt s R (s 1) k : Int) := by
  have hn := ho.tasks
  have hD := ho.days
  intro f
  induction f with
  | zero => intro x h; omega
  | succ f ih =>
    intro x hf hx
    rw [DX9_partsOn_L4, pu_gat (by decide) (by decide), pu_r4 h.1]
    by_cases hc : (x : Int) < s 4
    · have h24 := ho.t24 hc
      have hh := ih (x + 1) (by omega) (by omega)
      have hb := puBand_lt ho hR hc
      have hb2 := puBands_le ho hR
      have l1 := ho.last hc
      have l2 := ho.f hc
      have w1 := puFT ho hD hc
      have hno : ¬ puOn s R (s 1) k x = true → (DX9_partsOn_L4 σ (i : Int) f ((x : Int) + 1) ((puC (puOn s R (s 1) k) x : Int) + 0) = some (puCnt s R (s 1) k : Int)) := fun q => by
        rw [puC_F q] at hh
        rw [show ((x : Int) + 1) = ((x + 1 : Nat) : Int) by omega, Int.add_zero]
        exact hh
      rw [pu_ifT ⟨by omega, by omega⟩ ⟨by omega, by omega⟩ hc, pu_gat (by omega) (by omega), Int.toNat_natCast, hik, pu_dv (by omega) (by omega) (by decide) (by decide), pu_gat (by omega) (by omega), Int.toNat_natCast, pu_gat (by omega) (by omega), pu_dv (by omega) (by omega) (by decide) (by decide), (h.2.1.2.2 x hc).1]
      unfold DX9_partsOn_J81 DX9_partsOn_J82
      by_cases c1 : (puBand s R x : Int) = (k : Int) / 52
      · rw [pu_ifT ⟨by omega, by omega⟩ ⟨by omega, by omega⟩ c1, pu_rof1 ho h.1 hc, Option.bind_some, pu_gat (by decide) (by decide), pu_r1 h.1, pu_dv (by omega) (by omega) (by omega) (by omega), pu_rlast ho h.1 hc, Option.bind_some, pu_gat (by decide) (by decide), pu_dv (by omega) (by omega) (by omega) (by omega), puT_e ho hD hc, puF_e ho hD hc, pu_in ⟨by omega, by omega⟩ ⟨by omega, by omega⟩ ⟨by omega, by omega⟩, Option.bind_some]
        by_cases c2 : (puF s (s 1) x : Int) ≤ (k : Int) % 52 ∧ (k : Int) % 52 ≤ (puT s (s 1) x : Int)
        · rw [if_pos c2, pu_ifF (by decide) (by decide) (by decide)]
          rw [puC_T (puOn_e.mpr (by omega))] at hh
          rw [show ((x : Int) + 1) = ((x + 1 : Nat) : Int) by omega, show ((puC (puOn s R (s 1) k) x : Int) + 1) = ((puC (puOn s R (s 1) k) x + 1 : Nat) : Int) by omega]
          exact hh
        · rw [if_neg c2, pu_ifT (by decide) (by decide) rfl]
          exact hno (fun q => by
            have := puOn_e.mp q
            omega)
      · rw [pu_ifF ⟨by omega, by omega⟩ ⟨by omega, by omega⟩ c1]
        exact hno (fun q => by
          have := puOn_e.mp q
          omega)
    · rw [pu_ifF ⟨by omega, by omega⟩ ⟨by omega, by omega⟩ hc]
      unfold puCnt
      rw [show (s 4).toNat = x by omega]
theorem pu_partsOn (ho : puOk s) (hR : 3 ≤ R) (h : puRV σ s R (s 1)) {i k : Nat} (hi : i < 1248) (hk : k < 1248) (hik : σ 145 i = (k : Int)) : DX9_partsOn σ (i : Int) = some (puCnt s R (s 1) k : Int) := by
  have hn := ho.tasks
  exact pu_partsOn_L ho hR h hi hk hik gFuel 0 (by rw [gFuel_eq]; omega) (by omega)
end PUR
