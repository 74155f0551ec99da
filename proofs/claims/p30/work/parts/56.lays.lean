/-! the law lays the tasks one by one: the same layout -/
def pvGo (s : Nat → Int) (R : Nat) : Int → puA → List Nat → puA
  | _, a, [] => a
  | g, a, t :: r => if s (5 + 3 * t) = g then pvGo s R g (puStep R g a t) r else pvGo s R (s (5 + 3 * t)) (puStep R (s (5 + 3 * t)) (puTake (100 + s (5 + 3 * t)) (puHead s R (puSort s (s (5 + 3 * t))).length a)) t) r
theorem pvGo_same {s : Nat → Int} {R : Nat} {g : Int} : ∀ (l r : List Nat) (a : puA), (∀ t ∈ l, s (5 + 3 * t) = g) → pvGo s R g a (l ++ r) = pvGo s R g (l.foldl (puStep R g) a) r := by
  intro l
  induction l with
  | nil => intro r a h; rfl
  | cons t l ih =>
    intro r a h
    show (if s (5 + 3 * t) = g then pvGo s R g (puStep R g a t) (l ++ r) else _) = _
    rw [if_pos (h t List.mem_cons_self)]
    exact ih r _ (fun u hu => h u (List.mem_cons_of_mem _ hu))
theorem pvGo_grp {s : Nat → Int} {R : Nat} {g g0 : Int} (hne : g0 ≠ g) (a : puA) (r : List Nat) : pvGo s R g0 a (puSort s g ++ r) = if (puSort s g).length = 0 then pvGo s R g0 a r else pvGo s R g (puGrp s R g a) r := by
  have hm : ∀ t ∈ puSort s g, s (5 + 3 * t) = g := fun t ht => ((puSrt_mem (s 4).toNat t).mp ht).2
  have hG : puGrp s R g a = if (puSort s g).length = 0 then a else (puSort s g).foldl (puStep R g) (puTake (100 + g) (puHead s R (puSort s g).length a)) := rfl
  by_cases e : (puSort s g).length = 0
  · rw [if_pos e, List.eq_nil_of_length_eq_zero e]
    rfl
  · rw [if_neg e, hG, if_neg e]
    generalize hlen : (puSort s g).length = len at e ⊢
    cases hl : puSort s g with
    | nil => rw [hl] at hlen; exact absurd hlen.symm e
    | cons t l =>
      have ht : s (5 + 3 * t) = g := hm t (by rw [hl]; exact List.mem_cons_self)
      show (if s (5 + 3 * t) = g0 then _ else pvGo s R (s (5 + 3 * t)) (puStep R (s (5 + 3 * t)) (puTake (100 + s (5 + 3 * t)) (puHead s R (puSort s (s (5 + 3 * t))).length a)) t) (l ++ r)) = _
      rw [ht, if_neg (fun z => hne z.symm), hlen]
      exact pvGo_same l r _ (fun u hu => hm u (by rw [hl]; exact List.mem_cons_of_mem _ hu))
theorem pvGo_all {s : Nat → Int} {R : Nat} {a0 : puA} : ∀ g : Nat, ∃ g0 : Int, g0 < (g : Int) ∧ ∀ r, pvGo s R (-1) a0 (pvFl s g ++ r) = pvGo s R g0 (puLayN s R a0 g) r := by
  intro g
  induction g with
  | zero => exact ⟨-1, by decide, fun r => rfl⟩
  | succ g ih =>
    obtain ⟨g0, h0, h⟩ := ih
    have hs : ∀ r, pvGo s R (-1) a0 (pvFl s (g + 1) ++ r) = if (puSort s (g : Int)).length = 0 then pvGo s R g0 (puLayN s R a0 g) r else pvGo s R (g : Int) (puGrp s R (g : Int) (puLayN s R a0 g)) r := fun r => by
      show pvGo s R (-1) a0 ((pvFl s g ++ puSort s (g : Int)) ++ r) = _
      rw [List.append_assoc, h, pvGo_grp (by omega)]
    by_cases e : (puSort s (g : Int)).length = 0
    · refine ⟨g0, by omega, fun r => ?_⟩
      rw [hs, if_pos e]
      show _ = pvGo s R g0 (puGrp s R (g : Int) (puLayN s R a0 g)) r
      unfold puGrp
      rw [if_pos e]
    · refine ⟨(g : Int), by omega, fun r => ?_⟩
      rw [hs, if_neg e]
      rfl
theorem pvFl_len {s : Nat → Int} : ∀ g : Nat, (pvFl s g).length = puCum s g := by
  intro g
  induction g with
  | zero => rfl
  | succ g ih =>
    show (pvFl s g ++ puSort s (g : Int)).length = _
    rw [List.length_append, ih]
    rfl
def pvRel (a : puA) (row band : Int) : Prop := (a.1 = 0 ∧ row = 0 ∧ band = 0) ∨ (1 ≤ a.1 ∧ band = (a.1 : Int) - 1 ∧ row = (a.2.1 : Int))
def pvPlc (σ : gSt) (pre : List Nat) (a : puA) : Prop := ∀ u ∈ pre, σ 122 u = 32 * a.2.2.2.1 u + a.2.2.2.2 u
theorem pv_bands_J140 {σ : gSt} {s : Nat → Int} (ho : puOk s) (hT : pvT σ s) {a : puA} {t : Nat} {pre rest : List Nat} {g row band : Int} (hL : pvFl s 6 = pre ++ t :: rest) (hrow : row = (a.2.1 : Int)) (hband : band = (a.1 : Int) - 1) (hpl : pvPlc σ pre a) {R18 : Int → Int → Int → Int → gSt → Option (Int × gSt)} {Q : Int × gSt → Prop} (kk : ∀ σ', (∀ k, k ≠ 122 → σ' k = σ k) → pvPlc σ' (pre ++ [t]) (puTake (t : Int) (puPlace t a)) → puP (R18 (pvHd rest) g (row + 1) band σ') Q) : puP (DL_bands_J140 R18 (t : Int) σ g row band) Q := by
  have ht4 : (t : Int) < s 4 := (pvFl_all ho t).mp (by rw [hL]; exact List.mem_append_right _ List.mem_cons_self)
  have h24 := ho.t24 ht4
  unfold DL_bands_J140
  rw [pu_gat (by omega) (by omega), Int.toNat_natCast]
  have hk : ∀ k, k ≠ 122 → gUp σ 122 t (32 * band + row) k = σ k := fun k h => pu_upK h
  have hT1 : pvT (gUp σ 122 t (32 * band + row)) s := hT.same (fun i _ => by rw [hk 136 (by decide)]) (fun k k1 k2 => hk k (by omega))
  rw [pv_key ho hT1 ht4, Option.bind_some, pv_nextU ho hT1 hL, Option.bind_some]
  refine kk _ hk (fun u hu => ?_)
  show gUp σ 122 t (32 * band + row) 122 u = 32 * puSet a.2.2.2.1 t ((a.1 : Int) - 1) u + puSet a.2.2.2.2 t (a.2.1 : Int) u
  by_cases e : u = t
  · rw [e, pu_upE, puSet_e, puSet_e, hband, hrow]
  · rw [pu_upI e, puSet_n e, puSet_n e]
    rcases List.mem_append.mp hu with hu | hu
    · exact hpl u hu
    · exact absurd (List.mem_singleton.mp hu) e
theorem pv_bands_L {σ0 : gSt} {s : Nat → Int} {R : Nat} (ho : puOk s) (hR : 3 ≤ R ∧ R ≤ 20) (hT0 : pvT σ0 s) : ∀ (f : Nat) (rest pre : List Nat) (g : Int) (a : puA) (row band : Int) (σ : gSt), rest.length < f → pvFl s 6 = pre ++ rest → (∀ k, k ≠ 122 → σ k = σ0 k) → pvRel a row band → a.1 ≤ pre.length → a.2.1 ≤ R → (a.1 = 0 → pre = [] ∧ g = -1) → (1 ≤ a.1 → 1 ≤ a.2.1 ∧ 0 ≤ g ∧ g ≤ 5) → pvPlc σ pre a → puP (DL_bands_L18 DL_bands_K173 (R : Int) f (pvHd rest) g row band σ) (fun r => r.1 = ((pvGo s R g a rest).1 : Int) ∧ (∀ k, k ≠ 122 → r.2 k = σ0 k) ∧ pvPlc r.2 (pvFl s 6) (pvGo s R g a rest)) := by
  have hn := ho.tasks
  have hlen : (pvFl s 6).length ≤ 24 := by
    have h1 := pvFl_len (s := s) 6
    have h2 := puCum_6 (s := s)
    omega
  intro f
  induction f with
  | zero => intro rest pre g a row band σ h; omega
  | succ f ih =>
    intro rest pre g a row band σ hf hL hk hrel h1 h2 h3 h4 hpl
    have hT : pvT σ s := hT0.same (fun i _ => by rw [hk 136 (by decide)]) (fun k k1 k2 => hk k (by omega))
    have hpre : pre.length + rest.length ≤ 24 := by rw [← List.length_append, ← hL]; exact hlen
    rw [DL_bands_L18]
    cases rest with
    | nil =>
      show puP (gIf ((-1 : Int) < 0) (-1) 0 (DL_bands_K173 band σ) _) _
      rw [pu_ifT (by decide) (by decide) (by decide)]
      unfold DL_bands_K173
      rw [pu_gat (by decide) (by decide), show σ 136 (Int.toNat (4 : Int)) = s 4 from hT.2.1]
      rw [List.append_nil] at hL
      have hgo : pvGo s R g a [] = a := rfl
      rw [hgo]
      refine pu_if ⟨by omega, by omega⟩ (by decide) (fun c => ?_) (fun c => ?_)
      · refine pu_some ⟨?_, hk, by rw [hL]; exact hpl⟩
        have hpn : pre.length = 0 := by
          have e1 := pvFl_len (s := s) 6
          have e2 := puCum_6 (s := s)
          rw [hL] at e1
          omega
        show (0 : Int) = (a.1 : Int)
        omega
      · refine pu_some ⟨?_, hk, by rw [hL]; exact hpl⟩
        show band + 1 = (a.1 : Int)
        rcases hrel with ⟨r1, r2, r3⟩ | ⟨r1, r2, r3⟩
        · have hp := (h3 r1).1
          rw [hp] at hL
          have h0 : (0 : Nat) ∈ pvFl s 6 := (pvFl_all ho 0).mpr (by omega)
          rw [hL] at h0
          cases h0
        · omega
    | cons t rest =>
      have hpre : pre.length + (rest.length + 1) ≤ 24 := hpre
      have hf : rest.length + 1 < f + 1 := hf
      have ht4 : (t : Int) < s 4 := (pvFl_all ho t).mp (by rw [hL]; exact List.mem_append_right _ List.mem_cons_self)
      have h24 := ho.t24 ht4
      have hg := ho.g ht4
      have hL2 : pvFl s 6 = (pre ++ [t]) ++ rest := by rw [hL, List.append_assoc]; rfl
      have hpl2 : (pre ++ [t]).length = pre.length + 1 := by rw [List.length_append]; rfl
      show puP (gIf ((t : Int) < 0) (t : Int) 0 _ _) _
      rw [pu_ifF ⟨by omega, by omega⟩ (by decide) (by omega)]
      show puP (gAt (t : Int) 24 _) _
      rw [pu_gat (by omega) (by omega), show σ 137 (Int.toNat (pvHd (t :: rest))) = s (5 + 3 * t) from (hT.2.2 t ht4).1]
      have hrow : 0 ≤ row ∧ row ≤ 20 := by rcases hrel with ⟨r1, r2, r3⟩ | ⟨r1, r2, r3⟩ <;> omega
      have hgg : gR g := by
        by_cases e : a.1 = 0
        · have := (h3 e).2
          exact ⟨by omega, by omega⟩
        · have := (h4 (by omega)).2
          exact ⟨by omega, by omega⟩
      have hstep : ∀ (b : puA) (row' band' : Int), row' = (b.2.1 : Int) → band' = (b.1 : Int) - 1 → 1 ≤ b.1 → b.1 ≤ pre.length + 1 → b.2.1 < R → pvPlc σ pre b → (∀ b' : puA, b' = puTake (t : Int) (puPlace t b) → pvGo s R g a (t :: rest) = pvGo s R (s (5 + 3 * t)) b' rest) → puP (DL_bands_J140 (DL_bands_L18 DL_bands_K173 (R : Int) f) (t : Int) σ (s (5 + 3 * t)) row' band') (fun r => r.1 = ((pvGo s R g a (t :: rest)).1 : Int) ∧ (∀ k, k ≠ 122 → r.2 k = σ0 k) ∧ pvPlc r.2 (pvFl s 6) (pvGo s R g a (t :: rest))) := by
        intro b row' band' e1 e2 b1 b2 b3 b4 hgo
        refine pv_bands_J140 ho hT hL e1 e2 b4 (fun σ' k' p' => ?_)
        rw [hgo _ rfl]
        refine ih rest (pre ++ [t]) (s (5 + 3 * t)) _ (row' + 1) band' σ' (by omega) hL2 (fun k h => by rw [k' k h, hk k h]) (Or.inr ⟨b1, e2, ?_⟩) (by rw [hpl2]; exact b2) (by show b.2.1 + 1 ≤ R; omega) (fun z => absurd z (by show ¬ b.1 = 0; omega)) (fun _ => ⟨by show 1 ≤ b.2.1 + 1; omega, hg⟩) p'
        rw [e1]
        show _ = ((b.2.1 + 1 : Nat) : Int)
        omega
      refine pu_if ⟨by omega, by omega⟩ hgg (fun c => ?_) (fun c => ?_)
      · -- the same group
        have ha : 1 ≤ a.1 := by
          by_cases e : a.1 = 0
          · have := (h3 e).2
            omega
          · omega
        obtain ⟨r1, r2, r3⟩ : 1 ≤ a.1 ∧ band = (a.1 : Int) - 1 ∧ row = (a.2.1 : Int) := by
          rcases hrel with ⟨r1, r2, r3⟩ | h
          · omega
          · exact h
        subst c
        have hgo : pvGo s R (s (5 + 3 * t)) a (t :: rest) = pvGo s R (s (5 + 3 * t)) (puStep R (s (5 + 3 * t)) a t) rest := by
          show (if s (5 + 3 * t) = s (5 + 3 * t) then pvGo s R (s (5 + 3 * t)) (puStep R (s (5 + 3 * t)) a t) rest else _) = _
          rw [if_pos rfl]
        refine pu_if ⟨by omega, by omega⟩ ⟨by omega, by omega⟩ (fun c2 => ?_) (fun c2 => ?_)
        · have er : puRoom R (s (5 + 3 * t)) a = puTake (200 + s (5 + 3 * t)) (puNew a) := by
            unfold puRoom
            rw [if_pos (by omega)]
          refine hstep (puTake (200 + s (5 + 3 * t)) (puNew a)) 1 (band + 1) rfl ?_ (Nat.le_add_left _ _) ?_ ?_ hpl (fun b' hb => ?_)
          · show band + 1 = ((a.1 + 1 : Nat) : Int) - 1
            omega
          · show a.1 + 1 ≤ pre.length + 1
            omega
          · show 0 + 1 < R
            omega
          · rw [hgo, hb]
            show pvGo s R (s (5 + 3 * t)) (puTake (t : Int) (puPlace t (puRoom R (s (5 + 3 * t)) a))) rest = _
            rw [er]
        · have er : puRoom R (s (5 + 3 * t)) a = a := by
            unfold puRoom
            rw [if_neg (by omega)]
          refine hstep a row band r3 r2 r1 (by omega) (by omega) hpl (fun b' hb => ?_)
          rw [hgo, hb]
          show pvGo s R (s (5 + 3 * t)) (puTake (t : Int) (puPlace t (puRoom R (s (5 + 3 * t)) a))) rest = _
          rw [er]
      · -- a new group
        have hgo : pvGo s R g a (t :: rest) = pvGo s R (s (5 + 3 * t)) (puStep R (s (5 + 3 * t)) (puTake (100 + s (5 + 3 * t)) (puHead s R (puSort s (s (5 + 3 * t))).length a)) t) rest := by
          show (if s (5 + 3 * t) = g then _ else pvGo s R (s (5 + 3 * t)) (puStep R (s (5 + 3 * t)) (puTake (100 + s (5 + 3 * t)) (puHead s R (puSort s (s (5 + 3 * t))).length a)) t) rest) = _
          rw [if_neg c]
        have hwf := puHead_wf (s := s) (R := R) (len := (puSort s (s (5 + 3 * t))).length) (k := pre.length) (a := a) hR.1 ⟨h2, h1, by
          by_cases e : a.1 = 0
          · exact Or.inl e
          · exact Or.inr (h4 (by omega)).1⟩
        have hHdef : puHead s R (puSort s (s (5 + 3 * t))).length a = if a.1 = 0 ∨ (s 2 = 1 ∧ R < a.2.1 + (puSort s (s (5 + 3 * t))).length + 1 ∧ (puSort s (s (5 + 3 * t))).length + 1 ≤ R) ∨ R < a.2.1 + 2 then puNew a else a := rfl
        have hlen24 : (puSort s (s (5 + 3 * t))).length ≤ 24 := by
          have := puSrt_len (s := s) (g := s (5 + 3 * t)) (s 4).toNat
          unfold puSort
          omega
        have hsz := pv_size ho hT hg
        generalize (puSort s (s (5 + 3 * t))).length = len at hgo hwf hHdef hlen24 hsz
        have hroom : puRoom R (s (5 + 3 * t)) (puTake (100 + s (5 + 3 * t)) (puHead s R len a)) = puTake (100 + s (5 + 3 * t)) (puHead s R len a) := by
          unfold puRoom
          rw [if_neg (by show ¬ (puHead s R len a).2.1 + 1 = R; omega)]
        have hgo2 : ∀ b' : puA, b' = puTake (t : Int) (puPlace t (puTake (100 + s (5 + 3 * t)) (puHead s R len a))) → pvGo s R g a (t :: rest) = pvGo s R (s (5 + 3 * t)) b' rest := fun b' hb => by
          rw [hgo, hb]
          show pvGo s R (s (5 + 3 * t)) (puTake (t : Int) (puPlace t (puRoom R (s (5 + 3 * t)) (puTake (100 + s (5 + 3 * t)) (puHead s R len a))))) rest = _
          rw [hroom]
        have hplH : pvPlc σ pre (puTake (100 + s (5 + 3 * t)) (puHead s R len a)) := by
          intro u hu
          rw [hpl u hu, hHdef]
          split <;> rfl
        have hend : ∀ row' band' : Int, row' = ((puHead s R len a).2.1 : Int) + 1 → band' = ((puHead s R len a).1 : Int) - 1 → puP (DL_bands_J140 (DL_bands_L18 DL_bands_K173 (R : Int) f) (t : Int) σ (s (5 + 3 * t)) row' band') (fun r => r.1 = ((pvGo s R g a (t :: rest)).1 : Int) ∧ (∀ k, k ≠ 122 → r.2 k = σ0 k) ∧ pvPlc r.2 (pvFl s 6) (pvGo s R g a (t :: rest))) := by
          intro row' band' e1 e2
          refine hstep (puTake (100 + s (5 + 3 * t)) (puHead s R len a)) row' band' ?_ e2 hwf.1 hwf.2.1 ?_ hplH hgo2
          · rw [e1]
            show _ = (((puHead s R len a).2.1 + 1 : Nat) : Int)
            omega
          · show (puHead s R len a).2.1 + 1 < R
            omega
        have e137 : σ 137 (Int.toNat (t : Int)) = s (5 + 3 * t) := (hT.2.2 t ht4).1
        have hmove : 1 ≤ a.1 → ((s 2 = 1 ∧ R < a.2.1 + len + 1 ∧ len + 1 ≤ R) ∨ R < a.2.1 + 2) → puP (DL_bands_J87 (DL_bands_L18 DL_bands_K173 (R : Int) f) (t : Int) row band σ) (fun r => r.1 = ((pvGo s R g a (t :: rest)).1 : Int) ∧ (∀ k, k ≠ 122 → r.2 k = σ0 k) ∧ pvPlc r.2 (pvFl s 6) (pvGo s R g a (t :: rest))) := by
          intro ha hm
          have hH : puHead s R len a = puNew a := by rw [hHdef, if_pos (Or.inr hm)]
          rcases hrel with ⟨r1, r2, r3⟩ | ⟨r1, r2, r3⟩
          · omega
          · unfold DL_bands_J87 DL_bands_J92 DL_bands_J106 DL_bands_J122
            rw [pu_ifF (by decide) (by decide) (by decide), pu_ifF (by decide) (by decide) (by decide), e137]
            refine hend 1 (band + 1) ?_ ?_
            · rw [hH]
              rfl
            · rw [hH, r2]
              show _ = ((a.1 + 1 : Nat) : Int) - 1
              omega
        have hstay : (1 ≤ a.1 → ¬ (s 2 = 1 ∧ R < a.2.1 + len + 1 ∧ len + 1 ≤ R)) → puP (DL_bands_J78 (R : Int) (DL_bands_L18 DL_bands_K173 (R : Int) f) (t : Int) row band σ) (fun r => r.1 = ((pvGo s R g a (t :: rest)).1 : Int) ∧ (∀ k, k ≠ 122 → r.2 k = σ0 k) ∧ pvPlc r.2 (pvFl s 6) (pvGo s R g a (t :: rest))) := by
          intro hno
          unfold DL_bands_J78
          refine pu_if ⟨by omega, by omega⟩ (by decide) (fun c2 => ?_) (fun c2 => ?_)
          · rcases hrel with ⟨r1, r2, r3⟩ | ⟨r1, r2, r3⟩
            · omega
            · exact hmove r1 (Or.inr (by omega))
          · unfold DL_bands_J92 DL_bands_J106 DL_bands_J122
            rw [pu_ifT (by decide) (by decide) rfl, pu_ifT (by decide) (by decide) rfl, e137]
            rcases hrel with ⟨r1, r2, r3⟩ | ⟨r1, r2, r3⟩
            · have hH : puHead s R len a = puNew a := by rw [hHdef, if_pos (Or.inl r1)]
              refine hend (row + 1) (band + 0) ?_ ?_
              · rw [hH, r2]
                rfl
              · rw [hH, r3]
                show _ = ((a.1 + 1 : Nat) : Int) - 1
                omega
            · have hH : puHead s R len a = a := by
                rw [hHdef, if_neg]
                rintro (z | z | z)
                · omega
                · exact hno r1 z
                · omega
              refine hend (row + 1) (band + 0) ?_ ?_
              · rw [hH, r3]
              · rw [hH, r2]
                omega
        show puP (gAt (t : Int) 24 _) _
        rw [pu_gat (by omega) (by omega)]
        show puP ((DL_size σ (s (5 + 3 * t))).bind _) _
        rw [hsz, Option.bind_some, pu_gat (by decide) (by decide), show σ 136 (Int.toNat (2 : Int)) = s 2 from hT.1 2 (by decide)]
        have hkp := ho.keep
        refine pu_if ⟨by omega, by omega⟩ (by decide) (fun d1 => ?_) (fun d1 => hstay (fun _ z => d1 z.1))
        refine pu_if ⟨by omega, by omega⟩ (by decide) (fun d2 => ?_) (fun d2 => hstay (fun ha z => ?_))
        · refine pu_if ⟨by omega, by omega⟩ ⟨by omega, by omega⟩ (fun d3 => ?_) (fun d3 => hstay (fun ha z => ?_))
          · refine pu_if ⟨by omega, by omega⟩ ⟨by omega, by omega⟩ (fun d4 => hstay (fun ha z => ?_)) (fun d4 => ?_)
            · omega
            · rcases hrel with ⟨r1, r2, r3⟩ | ⟨r1, r2, r3⟩
              · omega
              · exact hmove r1 (Or.inl ⟨d1, by omega, by omega⟩)
          · rcases hrel with ⟨r1, r2, r3⟩ | ⟨r1, r2, r3⟩ <;> omega
        · have := (h4 ha).1
          rcases hrel with ⟨r1, r2, r3⟩ | ⟨r1, r2, r3⟩ <;> omega
/-- the law's bands are the class's -/
theorem pv_bands {σ : gSt} {s : Nat → Int} {R : Nat} (ho : puOk s) (hR : 3 ≤ R ∧ R ≤ 20) (hT : pvT σ s) : puP (DL_bands σ (R : Int)) (fun r => r.1 = (puBands s R : Int) ∧ (∀ k, k ≠ 122 → r.2 k = σ k) ∧ (∀ t : Nat, (t : Int) < s 4 → r.2 122 t = 32 * (puBand s R t : Int) + (puRowOf s R t : Int))) := by
  have hlen : (pvFl s 6).length ≤ 24 := by
    have h1 := pvFl_len (s := s) 6
    have h2 := puCum_6 (s := s)
    have := ho.tasks
    omega
  unfold DL_bands
  rw [pv_next0 ho hT, Option.bind_some]
  refine pu_mono (pv_bands_L ho hR hT gFuel (pvFl s 6) [] (-1) (puStart (fun _ => -1) (fun _ => -1) (fun _ => -1)) 0 0 σ (by rw [gFuel_eq]; omega) rfl (fun _ _ => rfl) (Or.inl ⟨rfl, rfl, rfl⟩) (Nat.le_refl _) (Nat.zero_le _) (fun _ => ⟨rfl, rfl⟩) (fun h => absurd h (by show ¬ 1 ≤ 0; decide)) (fun u hu => by cases hu)) (fun r w => ?_)
  obtain ⟨g0, _, hgo⟩ := pvGo_all (s := s) (R := R) (a0 := puStart (fun _ => -1) (fun _ => -1) (fun _ => -1)) 6
  have e := hgo []
  rw [List.append_nil] at e
  have e2 : pvGo s R (-1) (puStart (fun _ => -1) (fun _ => -1) (fun _ => -1)) (pvFl s 6) = puL s R := e
  rw [e2] at w
  refine ⟨w.1, w.2.1, fun t ht => ?_⟩
  rw [w.2.2 t ((pvFl_all ho t).mpr ht)]
  obtain ⟨i1, i2, i3, i4⟩ := (puL_in ho hR.1).2 t ht
  unfold puBand puRowOf
  omega
