/-! the rows, and all questions together -/
theorem pvFl_pre {s : Nat → Int} : ∀ d g : Nat, ∃ r, pvFl s (g + d) = pvFl s g ++ r := by
  intro d
  induction d with
  | zero => exact fun g => ⟨[], by rw [List.append_nil]; rfl⟩
  | succ d ih =>
    intro g
    obtain ⟨r, h⟩ := ih g
    refine ⟨r ++ puSort s ((g + d : Nat) : Int), ?_⟩
    show pvFl s (g + d) ++ puSort s ((g + d : Nat) : Int) = _
    rw [h, List.append_assoc]
/-- the first task of a group -/
theorem pv_first {σ : gSt} {s : Nat → Int} (ho : puOk s) (hT : pvT σ s) {v : Nat} (hv : (v : Int) < s 4) : puP (DL_next σ (s (5 + 3 * v) * 6400 - 1)) (fun r => gR r ∧ (r = (v : Int) ↔ (puSort s (s (5 + 3 * v))).head? = some v)) := by
  have hn := ho.tasks
  have hg := ho.g hv
  obtain ⟨g, eg⟩ : ∃ g : Nat, s (5 + 3 * v) = (g : Int) := ⟨(s (5 + 3 * v)).toNat, by omega⟩
  obtain ⟨r1, h1⟩ := pvFl_pre (s := s) (5 - g) (g + 1)
  rw [show g + 1 + (5 - g) = 6 by omega] at h1
  have hL : pvFl s 6 = pvFl s g ++ (puSort s (g : Int) ++ r1) := by
    rw [h1]
    show (pvFl s g ++ puSort s (g : Int)) ++ r1 = _
    rw [List.append_assoc]
  have hin : ∀ u ∈ pvFl s 6, (u : Int) < s 4 := fun u hu => (pvFl_all ho u).mp hu
  rw [eg] at hg ⊢
  have hpw := pvFl_pw ho 6
  have e := pv_nextS ho hT (k := (g : Int) * 6400 - 1) ⟨by omega, by omega⟩ hL (fun u hu => ?_) (fun u hu => ?_)
  · refine pu_e e ⟨?_, ?_⟩
    · cases hs : puSort s (g : Int) ++ r1 with
      | nil => exact ⟨by show -2147483648 ≤ (-1 : Int); decide, by show (-1 : Int) ≤ 2147483647; decide⟩
      | cons w l =>
        have hw : (w : Int) < s 4 := hin w (by rw [hL, hs]; exact List.mem_append_right _ List.mem_cons_self)
        exact ⟨by show -2147483648 ≤ (w : Int); omega, by show (w : Int) ≤ 2147483647; omega⟩
    · have hvm : v ∈ puSort s (g : Int) := by
        unfold puSort
        rw [puSrt_mem]
        exact ⟨by omega, eg⟩
      cases hs : puSort s (g : Int) with
      | nil => rw [hs] at hvm; cases hvm
      | cons w l =>
        show (w : Int) = (v : Int) ↔ some w = some v
        constructor
        · intro z
          rw [show w = v by omega]
        · intro z
          rw [Option.some.inj z]
  · obtain ⟨u1, k, u2, u3⟩ := (pvFl_mem g u).mp hu
    have hu4 : (u : Int) < s 4 := by omega
    have := ho.f hu4
    have := ho.t24 hu4
    unfold pvKey
    omega
  · have hu6 : u ∈ pvFl s 6 := by rw [hL]; exact List.mem_append_right _ hu
    have hu4 := hin u hu6
    have hge : (g : Int) ≤ s (5 + 3 * u) := by
      rcases List.mem_append.mp hu with hu | hu
      · have := ((puSrt_mem (s 4).toNat u).mp hu).2
        omega
      · rw [hL, ← List.append_assoc] at hpw
        have hnot : u ∉ pvFl s (g + 1) := fun z => by
          have h2 := (List.pairwise_append.mp hpw).2.2 u z u hu
          omega
        have hgu := ho.g hu4
        by_cases e2 : (g : Int) ≤ s (5 + 3 * u)
        · exact e2
        · refine absurd ((pvFl_mem (g + 1) u).mpr ⟨by omega, (s (5 + 3 * u)).toNat, by omega, by omega⟩) hnot
    have := ho.f hu4
    unfold pvKey
    omega
section PVK
variable {q : Int × gSt} {s : Nat → Int}
/-- who stands at a place, of the tasks below x -/
def pvAtR (s : Nat → Int) (B r x : Nat) (v : Int) : Prop := (v = -1 ∧ ∀ u : Nat, u < x → ¬ (puBand s (s 0).toNat u = B ∧ puRowOf s (s 0).toNat u = r)) ∨ ∃ u : Nat, v = (u : Int) ∧ u < x ∧ puBand s (s 0).toNat u = B ∧ puRowOf s (s 0).toNat u = r
theorem pvAtR.skip {B r x : Nat} {v : Int} (h : pvAtR s B r x v) (hn : ¬ (puBand s (s 0).toNat x = B ∧ puRowOf s (s 0).toNat x = r)) : pvAtR s B r (x + 1) v := by
  rcases h with ⟨h1, h2⟩ | ⟨u, h1, h2, h3⟩
  · refine Or.inl ⟨h1, fun u hu => ?_⟩
    by_cases e : u = x
    · rw [e]; exact hn
    · exact h2 u (by omega)
  · exact Or.inr ⟨u, h1, by omega, h3⟩
theorem pvAtR.gR {B r x : Nat} {v : Int} (h : pvAtR s B r x v) (hx : x ≤ 24) : gR v ∧ -1 ≤ v ∧ v < 24 := by
  rcases h with ⟨h1, h2⟩ | ⟨u, h1, h2, h3⟩
  · exact ⟨⟨by omega, by omega⟩, by omega, by omega⟩
  · exact ⟨⟨by omega, by omega⟩, by omega, by omega⟩
theorem pv_L508 (h : pvQ q s) {B r : Nat} (hr : (r : Int) < s 0) (hB : B < 24) {k : Int} (hk : k = (B : Int) * s 0 + (r : Int)) {K : Int → Int → Option (Int × gSt)} {Q : Int × gSt → Prop} (kk : ∀ b i, pvAtR s B (r + 1) (s 4).toNat b → pvAtR s B r (s 4).toNat i → puP (K b i) Q) : ∀ (f x : Nat) (b i : Int), (s 4).toNat - x < f → (x : Int) ≤ s 4 → pvAtR s B (r + 1) x b → pvAtR s B r x i → puP (DL_isSoB_L508 K q k f (x : Int) b i) Q := by
  obtain ⟨ho, hV, hT, hE, h1, hb⟩ := h
  have hn := ho.tasks
  have hR := ho.rows
  have e0 : q.2 136 (Int.toNat (0 : Int)) = s 0 := hT.1 0 (by decide)
  have hBm : 0 ≤ (B : Int) * s 0 := Int.mul_nonneg (by omega) (by omega)
  have hBm2 : (B : Int) * s 0 ≤ 23 * s 0 := puMul (by omega) (by omega)
  have hdiv : k / s 0 = (B : Int) := by
    rw [hk, Int.mul_comm, Int.mul_add_ediv_left _ _ (by omega), Int.ediv_eq_zero_of_lt (by omega) hr, Int.add_zero]
  have hmod : k % s 0 = (r : Int) := by
    have := Int.mul_ediv_add_emod k (s 0)
    rw [hdiv] at this
    have e : s 0 * (B : Int) = (B : Int) * s 0 := Int.mul_comm _ _
    omega
  intro f
  induction f with
  | zero => intro x b i h; omega
  | succ f ih =>
    intro x b i hf hx hbx hix
    rw [DL_isSoB_L508, pu_gat (by decide) (by decide), show q.2 136 (Int.toNat (4 : Int)) = s 4 from hT.2.1]
    refine pu_if ⟨by omega, by omega⟩ ⟨by omega, by omega⟩ (fun c => ?_) (fun c => ?_)
    · have h24 := ho.t24 c
      have hband := puBand_lt (R := (s 0).toNat) ho (by omega) c
      have hbl := puBands_le (R := (s 0).toNat) ho (by omega)
      have hrow := puRowOf_lt (R := (s 0).toNat) ho (by omega) c
      have hbx0 := hb x c
      have hJ : ∀ i', pvAtR s B r (x + 1) i' → puP (DL_isSoB_J547 q k (DL_isSoB_L508 K q k f) (x : Int) b i') Q := by
        intro i' hi'
        unfold DL_isSoB_J547 DL_isSoB_J582
        rw [pu_gat (by omega) (by omega), pu_gat (by decide) (by decide), e0, pu_dv (by omega) (by omega) (by omega) (by omega), pu_gat (by decide) (by decide), pu_dv (by omega) (by omega) (by omega) (by omega), Int.toNat_natCast, hbx0, hdiv, hmod, show (x : Int) + 1 = ((x + 1 : Nat) : Int) by omega]
        refine pu_if ⟨by omega, by omega⟩ ⟨by omega, by omega⟩ (fun c2 => ?_) (fun c2 => ?_)
        · exact ih (x + 1) _ _ (by omega) (by omega) (Or.inr ⟨x, rfl, by omega, by omega, by omega⟩) hi'
        · exact ih (x + 1) _ _ (by omega) (by omega) (hbx.skip (fun z => c2 (by omega))) hi'
      rw [pu_gat (by omega) (by omega), pu_gat (by decide) (by decide), e0, pu_dv (by omega) (by omega) (by omega) (by omega), pu_gat (by decide) (by decide), pu_dv (by omega) (by omega) (by omega) (by omega), Int.toNat_natCast, hbx0, hdiv, hmod]
      refine pu_if ⟨by omega, by omega⟩ ⟨by omega, by omega⟩ (fun c2 => ?_) (fun c2 => ?_)
      · exact hJ _ (Or.inr ⟨x, rfl, by omega, by omega, by omega⟩)
      · exact hJ _ (hix.skip (fun z => c2 (by omega)))
    · have e : x = (s 4).toNat := by omega
      subst e
      exact kk b i hbx hix
theorem pv_L483 (h : pvQ q s) {K : Option (Int × gSt)} {Q : Int × gSt → Prop} (kk : puP K Q) : ∀ (f k : Nat), puBands s (s 0).toNat * (s 0).toNat - k < f → k ≤ puBands s (s 0).toNat * (s 0).toNat → puP (DL_isSoB_L483 K q f (k : Int)) Q := by
  have h0 := h
  obtain ⟨ho, hV, hT, hE, h1, hb⟩ := h
  have hn := ho.tasks
  have hR := ho.rows
  have hbl := puBands_le (R := (s 0).toNat) ho (by omega)
  have e0 : q.2 136 (Int.toNat (0 : Int)) = s 0 := hT.1 0 (by decide)
  obtain ⟨R, eR⟩ : ∃ R : Nat, s 0 = (R : Int) := ⟨(s 0).toNat, by omega⟩
  have eR2 : (s 0).toNat = R := by omega
  have hN : puBands s (s 0).toNat * (s 0).toNat ≤ 480 := by
    have := Nat.mul_le_mul hbl (show (s 0).toNat ≤ 20 by omega)
    omega
  have eN : q.1 * s 0 = ((puBands s (s 0).toNat * (s 0).toNat : Nat) : Int) := by
    rw [h1, Int.natCast_mul, show ((s 0).toNat : Int) = s 0 by omega]
  intro f
  induction f with
  | zero => intro k h; omega
  | succ f ih =>
    intro k hf hk
    rw [DL_isSoB_L483, pu_gat (by decide) (by decide), e0, eN]
    refine pu_if ⟨by omega, by omega⟩ ⟨by omega, by omega⟩ (fun c => ?_) (fun c => kk)
    have hR0 : 0 < (s 0).toNat := by omega
    have hBlt : k / (s 0).toNat < puBands s (s 0).toNat := (Nat.div_lt_iff_lt_mul hR0).mpr (by omega)
    have hrlt : k % (s 0).toNat < (s 0).toNat := Nat.mod_lt _ hR0
    have hkk : (s 0).toNat * (k / (s 0).toNat) + k % (s 0).toNat = k := Nat.div_add_mod _ _
    have hk24 : k / (s 0).toNat < 24 := by omega
    have hkI : (k : Int) = ((k / (s 0).toNat : Nat) : Int) * s 0 + ((k % (s 0).toNat : Nat) : Int) := by
      have e : ((k / (s 0).toNat : Nat) : Int) * s 0 = (((s 0).toNat * (k / (s 0).toNat) : Nat) : Int) := by
        rw [Int.natCast_mul, show ((s 0).toNat : Int) = s 0 by omega, Int.mul_comm]
      omega
    have hdiv : (k : Int) / s 0 = ((k / (s 0).toNat : Nat) : Int) := by
      rw [Int.natCast_ediv, show ((s 0).toNat : Int) = s 0 by omega]
    have hmod : (k : Int) % s 0 = ((k % (s 0).toNat : Nat) : Int) := by
      rw [Int.natCast_emod, show ((s 0).toNat : Int) = s 0 by omega]
    have hcell := pv_cell (R := (s 0).toNat) ho ⟨by omega, by omega⟩ hBlt hrlt
    have happ : ∀ {u v : Nat}, (u : Int) < s 4 → (v : Int) < s 4 → puBand s (s 0).toNat u = puBand s (s 0).toNat v → puRowOf s (s 0).toNat u = puRowOf s (s 0).toNat v → u = v := fun {u v} hu hv => pv_apart ho ⟨by omega, by omega⟩ hu hv
    generalize k / (s 0).toNat = B at hBlt hk24 hkI hdiv hcell
    generalize k % (s 0).toNat = r at hrlt hkI hmod hcell
    have hr : (r : Int) < s 0 := by omega
    refine pv_L508 h0 hr hk24 hkI (fun b i hb2 hi2 => ?_) gFuel 0 (-1) (-1) (by rw [gFuel_eq]; omega) (by omega) (Or.inl ⟨rfl, fun u hu => absurd hu (Nat.not_lt_zero _)⟩) (Or.inl ⟨rfl, fun u hu => absurd hu (Nat.not_lt_zero _)⟩)
    have hbr := hb2.gR (by omega)
    have hir := hi2.gR (by omega)
    have hin := puRow_in (R := (s 0).toNat) ho (by omega) (20 * B + r)
    have hdue : ∀ due : Int, due = puRow s (s 0).toNat (20 * B + r) → puP (DL_isSoB_J660 q (DL_isSoB_L483 K q f) (k : Int) due) Q := by
      intro due hd
      unfold DL_isSoB_J660
      rw [pu_gat (by decide) (by decide), e0, pu_dv (by omega) (by omega) (by omega) (by omega), pu_gat (by decide) (by decide), pu_dv (by omega) (by omega) (by omega) (by omega), hdiv, hmod, pv_row ho hV hBlt hr, Option.bind_some, hd, pu_ifT ⟨by omega, by omega⟩ ⟨by omega, by omega⟩ rfl, show (k : Int) + 1 = ((k + 1 : Nat) : Int) by omega]
      exact ih (k + 1) (by omega) (by omega)
    have hJ : ∀ fl : Int, (fl = 0 ∨ fl = 1) → (∀ v : Nat, b = (v : Int) → (fl = 1 ↔ (puSort s (s (5 + 3 * v))).head? = some v)) → puP (DL_isSoB_J621 q (DL_isSoB_L483 K q f) (k : Int) b i fl) Q := by
      intro fl hfl hfv
      unfold DL_isSoB_J621
      refine pu_if hir.1 (by decide) (fun c2 => ?_) (fun c2 => ?_)
      · -- nobody stands here
        have hno : ∀ u : Nat, (u : Int) < s 4 → ¬ (puBand s (s 0).toNat u = B ∧ puRowOf s (s 0).toNat u = r) := by
          rcases hi2 with ⟨z1, z2⟩ | ⟨u, z1, z2, z3⟩
          · exact fun u hu => z2 u (by omega)
          · omega
        have hcell2 := hcell.resolve_left (fun z => by
          obtain ⟨u, u1, u2, u3⟩ := z
          exact hno u u1 u2)
        refine pu_if hbr.1 (by decide) (fun c3 => ?_) (fun c3 => ?_)
        · refine hdue _ ?_
          rcases hb2 with ⟨z1, z2⟩ | ⟨u, z1, z2, z3⟩
          · rcases hcell2.2 with ⟨v, v1, v2, v3⟩ | ⟨v1, v2⟩
            · exact absurd v2 (z2 v (by omega))
            · exact v2.symm
          · omega
        · rcases hb2 with ⟨z1, z2⟩ | ⟨u, z1, z2, z3, z4⟩
          · omega
          · have hu4 : (u : Int) < s 4 := by omega
            have hg := ho.g hu4
            have h24 := ho.t24 hu4
            have hHv : puRow s (s 0).toNat (20 * B + r) = pvHv s u := by
              rcases hcell2.2 with ⟨v, v1, v2, v3⟩ | ⟨v1, v2⟩
              · rw [v3, happ v1 hu4 (by omega) (by omega)]
              · exact absurd ⟨z3, z4⟩ (v1 u hu4)
            have hf2 := hfv u z1
            have hJ5 : ∀ x : Int, x = (if (puSort s (s (5 + 3 * u))).head? = some u then 100 else 200) → puP (DL_isSoB_J655 q (DL_isSoB_L483 K q f) (k : Int) b x) Q := by
              intro x hx
              unfold DL_isSoB_J655
              rw [z1, pu_gat (by omega) (by omega), Int.toNat_natCast, (hT.2.2 u hu4).1]
              refine hdue _ ?_
              rw [hHv, hx]
              rfl
            refine pu_if (by rcases hfl with z | z <;> rw [z] <;> decide) (by decide) (fun c4 => hJ5 200 ?_) (fun c4 => hJ5 100 ?_)
            · rw [if_neg (fun z => absurd (c4.symm.trans (hf2.mpr z)) (by decide))]
            · rw [if_pos (hf2.mp (hfl.resolve_left c4))]
      · -- a task
        refine hdue _ ?_
        rcases hi2 with ⟨z1, z2⟩ | ⟨u, z1, z2, z3, z4⟩
        · omega
        · have hu4 : (u : Int) < s 4 := by omega
          rcases hcell with ⟨v, v1, v2, v3⟩ | ⟨v1, v2⟩
          · rw [v3, z1, happ v1 hu4 (by omega) (by omega)]
          · exact absurd ⟨z3, z4⟩ (v1 u hu4)
    unfold DL_isSoB_K590 DL_isSoB_J620
    refine pu_if hbr.1 (by decide) (fun c2 => hJ 0 (Or.inl rfl) (fun v hv => by omega)) (fun c2 => ?_)
    obtain ⟨u, z1⟩ : ∃ u : Nat, b = (u : Int) := ⟨b.toNat, by omega⟩
    have hu4 : (u : Int) < s 4 := by
      rcases hb2 with ⟨y1, y2⟩ | ⟨w, y1, y2, y3⟩ <;> omega
    have h24 := ho.t24 hu4
    rw [pu_gat (by omega) (by omega), show q.2 137 (Int.toNat b) = s (5 + 3 * u) by rw [z1, Int.toNat_natCast]; exact (hT.2.2 u hu4).1]
    refine pu_b (pv_first ho hT hu4) (fun r8 w => ?_)
    refine pu_if w.1 hbr.1 (fun c4 => hJ 1 (Or.inr rfl) (fun v hv => ?_)) (fun c4 => hJ 0 (Or.inl rfl) (fun v hv => ?_))
    · have e : v = u := by omega
      rw [e]
      exact ⟨fun _ => w.2.mp (by omega), fun _ => rfl⟩
    · have e : v = u := by omega
      rw [e]
      exact ⟨fun z => absurd z (by decide), fun z => absurd (w.2.mpr z) (by omega)⟩
end PVK
theorem pv_isSo {σ : gSt} (h : pvInv σ) : puP (DL_isSo σ) (fun r => r.1 = 1 ∧ pvInv r.2) := by
  obtain ⟨s, l, ho, hV, hC, hT, hA, hl, hE, hW⟩ := h
  have hn := ho.tasks
  have hR := ho.rows
  have hV0 : puCV (gPut σ 122 (fun _ => 0)) s := hV.same (fun k hk => gPut_n (by omega))
  have hT0 : pvT (gPut σ 122 (fun _ => 0)) s := hT.same (fun i _ => by rw [gPut_n (by decide)]) (fun k k1 k2 => gPut_n (by omega))
  have hE1 := pvE_of ho hA hW
  have hB : puP (DL_isSoB (gPut σ 122 (fun _ => 0))) (fun r => r.1 = 1 ∧ (∀ k, k ≠ 122 → k ≠ 86 → r.2 k = σ k)) := by
    unfold DL_isSoB
    rw [pu_gat (by decide) (by decide), show gPut σ 122 (fun _ => 0) 136 (Int.toNat (0 : Int)) = ((s 0).toNat : Int) by
      rw [gPut_n (by decide)]
      show σ 136 0 = _
      rw [hT.1 0 (by decide)]
      omega]
    refine pu_b (pv_bands ho (R := (s 0).toNat) ⟨by omega, by omega⟩ hT0) (fun q w => ?_)
    obtain ⟨w1, w2, w3⟩ := w
    have hk : ∀ k, k ≠ 122 → q.2 k = σ k := fun k h => by rw [w2 k h, gPut_n h]
    have hV1 : puCV q.2 s := hV.same (fun k h => hk k (by omega))
    have hT1 : pvT q.2 s := hT.same (fun i _ => by rw [hk 136 (by decide)]) (fun k k1 k2 => hk k (by omega))
    have hE2 : pvE q.2 s := ⟨by rw [hk 136 (by decide)]; exact hE1.1, fun a ha => by rw [hk 140 (by decide)]; exact hE1.2 a ha⟩
    have hQ : pvQ q s := ⟨ho, hV1, hT1, hE2, w1, w3⟩
    have hbl := puBands_le (R := (s 0).toNat) ho (by omega)
    have hN : puBands s (s 0).toNat * (s 0).toNat ≤ 480 := by
      have := Nat.mul_le_mul hbl (show (s 0).toNat ≤ 20 by omega)
      omega
    rw [pv_bandsC hV1, Option.bind_some, w1, pu_ifT ⟨by omega, by omega⟩ ⟨by omega, by omega⟩ rfl]
    refine pv_L38 hQ ?_ 7 0 (by decide) (by decide)
    unfold DL_isSoB_K76
    refine pv_L79 hQ ?_ 25 0 (by omega) (by omega)
    unfold DL_isSoB_K480
    refine pv_L483 hQ ?_ 481 0 (by omega) (Nat.zero_le _)
    unfold DL_isSoB_K696
    rw [w1, pv_rowX ho hV1, Option.bind_some, pu_ifT (by decide) (by decide) rfl]
    refine pu_b (pv_longC ho hV1) (fun r2 z => ?_)
    obtain ⟨z1, z2⟩ := z
    have hT2 : pvT r2.2 s := hT1.same (fun i _ => by rw [z2 136 (by decide)]) (fun k k1 k2 => z2 k (by omega))
    have hE3 : pvE r2.2 s := ⟨by rw [z2 136 (by decide)]; exact hE2.1, fun a ha => by rw [z2 140 (by decide)]; exact hE2.2 a ha⟩
    have hLg : gR (puLong s) := by
      obtain ⟨b1, b2⟩ := puIt_inv ho 24
      have := puMx_in ho b1 (s 4).toNat (by omega)
      exact ⟨by show -2147483648 ≤ puMx (puIt s 24) (s 4).toNat; omega, by show puMx (puIt s 24) (s 4).toNat ≤ 2147483647; omega⟩
    refine pu_bp (v := puLong s) (τ := r2.2) (pv_chain ho hT2 hE3) (fun q9 b1 b2 => ?_)
    rw [b1, b2, z1, pu_ifT hLg hLg rfl, pu_bo (Or.inr rfl)]
    exact pu_some ⟨rfl, fun k k1 k2 => by rw [z2 k k2, hk k k1]⟩
  obtain ⟨⟨r, σ'⟩, e, h1, h2⟩ := hB
  have h1 : r = 1 := h1
  have h2 : ∀ k, k ≠ 122 → k ≠ 86 → σ' k = σ k := h2
  unfold DL_isSo
  rw [e]
  refine pu_e (a := (r, gPut σ' 122 (σ 122))) rfl ⟨h1, ?_⟩
  have hk : ∀ k, k ≠ 86 → gPut σ' 122 (σ 122) k = σ k := fun k hk => by
    by_cases e2 : k = 122
    · rw [e2, gPut_e]
    · rw [gPut_n e2, h2 k e2 hk]
  show pvInv (gPut σ' 122 (σ 122))
  exact ⟨s, l, ho, hV.same (fun k h => hk k (by omega)), hC.same (fun k k1 k2 => hk k (by omega)), hT.same (fun i _ => by rw [hk 136 (by decide)]) (fun k k1 k2 => hk k (by omega)), hA, hl, hE, hW.same (by rw [hk 136 (by decide)]) (hk 140 (by decide))⟩
