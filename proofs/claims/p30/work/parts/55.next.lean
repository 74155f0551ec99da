/-! the law's next task, its size of a group; all tasks in the law's order -/
def pvKey (s : Nat → Int) (t : Nat) : Int := (s (5 + 3 * t) * 200 + s (6 + 3 * t)) * 32 + (t : Int)
theorem pvKey_in {s : Nat → Int} (ho : puOk s) {t : Nat} (ht : (t : Int) < s 4) : 0 ≤ pvKey s t ∧ pvKey s t ≤ 40000 := by
  have h1 := ho.g ht
  have h2 := ho.f ht
  have h3 := ho.t24 ht
  unfold pvKey
  omega
theorem pvKey_inj {s : Nat → Int} (ho : puOk s) {t u : Nat} (ht : (t : Int) < s 4) (hu : (u : Int) < s 4) (h : pvKey s t = pvKey s u) : t = u := by
  have h3 := ho.t24 ht
  have h4 := ho.t24 hu
  unfold pvKey at h
  omega
theorem pv_key {σ : gSt} {s : Nat → Int} (ho : puOk s) (hT : pvT σ s) {t : Nat} (ht : (t : Int) < s 4) : DL_key σ (t : Int) = some (pvKey s t) := by
  have h3 := ho.t24 ht
  obtain ⟨g1, g2, g3⟩ := hT.2.2 t ht
  unfold DL_key
  rw [pu_gat (by omega) (by omega), pu_gat (by omega) (by omega), Int.toNat_natCast, g1, g2]
  rfl
def pvBest (s : Nat → Int) (k : Int) (n : Nat) (r : Int) : Prop := (r = -1 ∧ ∀ t, t < n → pvKey s t ≤ k) ∨ ∃ m : Nat, r = (m : Int) ∧ m < n ∧ k < pvKey s m ∧ ∀ t, t < n → k < pvKey s t → pvKey s m ≤ pvKey s t
theorem pv_next_L {σ : gSt} {s : Nat → Int} (ho : puOk s) (hT : pvT σ s) {k : Int} (hk : gR k) : ∀ (f x : Nat) (r : Int), (s 4).toNat - x < f → (x : Int) ≤ s 4 → pvBest s k x r → puP (DL_next_L6 σ k f (x : Int) r) (fun r' => pvBest s k (s 4).toNat r') := by
  have hn := ho.tasks
  intro f
  induction f with
  | zero => intro x r h; omega
  | succ f ih =>
    intro x r hf hx hB
    rw [DL_next_L6, pu_gat (by decide) (by decide), show σ 136 (Int.toNat (4 : Int)) = s 4 from hT.2.1]
    refine pu_if ⟨by omega, by omega⟩ ⟨by omega, by omega⟩ (fun c => ?_) (fun c => ?_)
    · have hkx := pvKey_in ho c
      have hnew : ∀ r' : Int, pvBest s k (x + 1) r' → puP (DL_next_L6 σ k f ((x : Int) + 1) r') (fun r' => pvBest s k (s 4).toNat r') := fun r' h => by
        rw [show (x : Int) + 1 = ((x + 1 : Nat) : Int) by omega]
        exact ih (x + 1) r' (by omega) (by omega) h
      have hold : (¬ k < pvKey s x ∨ ∃ m : Nat, r = (m : Int) ∧ pvKey s m ≤ pvKey s x) → pvBest s k (x + 1) r := by
        intro h
        rcases hB with ⟨h1, h2⟩ | ⟨m, h1, h2, h3, h4⟩
        · refine Or.inl ⟨h1, fun t ht => ?_⟩
          by_cases e : t = x
          · rcases h with h | ⟨m, h, _⟩
            · rw [e]; omega
            · omega
          · exact h2 t (by omega)
        · refine Or.inr ⟨m, h1, by omega, h3, fun t ht hkt => ?_⟩
          by_cases e : t = x
          · rcases h with h | ⟨m', h, h'⟩
            · rw [e] at hkt; exact absurd hkt h
            · have : m' = m := by omega
              rw [e, ← this]; exact h'
          · exact h4 t (by omega) hkt
      have htake : k < pvKey s x → (r = -1 ∨ ∃ m : Nat, r = (m : Int) ∧ pvKey s x < pvKey s m) → pvBest s k (x + 1) (x : Int) := by
        intro h0 h
        refine Or.inr ⟨x, rfl, by omega, h0, fun t ht hkt => ?_⟩
        by_cases e : t = x
        · rw [e]; omega
        · rcases hB with ⟨h1, h2⟩ | ⟨m, h1, h2, h3, h4⟩
          · have := h2 t (by omega)
            omega
          · rcases h with h | ⟨m', h, h'⟩
            · omega
            · have hm : m' = m := by omega
              have := h4 t (by omega) hkt
              rw [hm] at h'
              omega
      rw [pv_key ho hT c, Option.bind_some]
      unfold DL_next_J47 DL_next_J52 DL_next_J54
      have hrr : gR r := by rcases hB with ⟨h1, _⟩ | ⟨m, h1, h2, _⟩ <;> exact ⟨by omega, by omega⟩
      refine pu_if ⟨by omega, by omega⟩ hk (fun c1 => ?_) (fun c1 => hnew r (hold (Or.inl c1)))
      refine pu_if hrr (by decide) (fun c2 => hnew (x : Int) (htake c1 (Or.inl ?_))) (fun c2 => ?_)
      · rcases hB with ⟨h1, _⟩ | ⟨m, h1, h2, _⟩
        · exact h1
        · omega
      · rcases hB with ⟨h1, _⟩ | ⟨m, h1, h2, h3, h4⟩
        · omega
        · have hms : (m : Int) < s 4 := by omega
          have hkm := pvKey_in ho hms
          rw [Option.bind_some, h1, pv_key ho hT hms, Option.bind_some]
          refine pu_if ⟨by omega, by omega⟩ ⟨by omega, by omega⟩ (fun c3 => hnew (x : Int) (htake c1 (Or.inr ⟨m, h1, c3⟩))) (fun c3 => ?_)
          rw [← h1]
          exact hnew r (hold (Or.inr ⟨m, h1, by omega⟩))
    · have e : x = (s 4).toNat := by omega
      subst e
      exact pu_some hB
theorem pv_next {σ : gSt} {s : Nat → Int} (ho : puOk s) (hT : pvT σ s) {k : Int} (hk : gR k) : puP (DL_next σ k) (fun r' => pvBest s k (s 4).toNat r') := by
  have hn := ho.tasks
  exact pv_next_L ho hT hk gFuel 0 (-1) (by rw [gFuel_eq]; omega) (by omega) (Or.inl ⟨rfl, fun t h => absurd h (Nat.not_lt_zero _)⟩)
theorem pv_size_L {σ : gSt} {s : Nat → Int} (ho : puOk s) (hT : pvT σ s) {g : Int} (hg : 0 ≤ g ∧ g ≤ 5) : ∀ (f x : Nat), (s 4).toNat - x < f → (x : Int) ≤ s 4 → DL_size_L5 σ g f (x : Int) ((puSrt s g x).length : Int) = some ((puSort s g).length : Int) := by
  have hn := ho.tasks
  intro f
  induction f with
  | zero => intro x h; omega
  | succ f ih =>
    intro x hf hx
    rw [DL_size_L5, pu_gat (by decide) (by decide), show σ 136 (Int.toNat (4 : Int)) = s 4 from hT.2.1]
    by_cases c : (x : Int) < s 4
    · have hgx := ho.g c
      have h24 := ho.t24 c
      have hl : (puSrt s g (x + 1)).length = (puSrt s g x).length + (if s (5 + 3 * x) = g then 1 else 0) := by
        show (if s (5 + 3 * x) = g then puIns s x (puSrt s g x) else puSrt s g x).length = _
        split
        · rw [puIns_len]
        · rfl
      rw [pu_ifT ⟨by omega, by omega⟩ ⟨by omega, by omega⟩ c, pu_gat (by omega) (by omega), Int.toNat_natCast, (hT.2.2 x c).1]
      unfold DL_size_J27
      rw [show (x : Int) + 1 = ((x + 1 : Nat) : Int) by omega]
      by_cases c2 : s (5 + 3 * x) = g
      · rw [pu_ifT ⟨by omega, by omega⟩ ⟨by omega, by omega⟩ c2, ← ih (x + 1) (by omega) (by omega), hl, if_pos c2]
        rfl
      · rw [pu_ifF ⟨by omega, by omega⟩ ⟨by omega, by omega⟩ c2, ← ih (x + 1) (by omega) (by omega), hl, if_neg c2, Int.add_zero]
        rfl
    · rw [pu_ifF ⟨by omega, by omega⟩ ⟨by omega, by omega⟩ c, show x = (s 4).toNat by omega]
      rfl
theorem pv_size {σ : gSt} {s : Nat → Int} (ho : puOk s) (hT : pvT σ s) {g : Int} (hg : 0 ≤ g ∧ g ≤ 5) : DL_size σ g = some ((puSort s g).length : Int) := by
  have hn := ho.tasks
  exact pv_size_L ho hT hg gFuel 0 (by rw [gFuel_eq]; omega) (by omega)
/-- all tasks, group by group -/
def pvFl (s : Nat → Int) : Nat → List Nat
  | 0 => []
  | g + 1 => pvFl s g ++ puSort s (g : Int)
theorem pvFl_mem {s : Nat → Int} : ∀ (g u : Nat), u ∈ pvFl s g ↔ u < (s 4).toNat ∧ ∃ k : Nat, k < g ∧ s (5 + 3 * u) = (k : Int) := by
  intro g
  induction g with
  | zero =>
    intro u
    show u ∈ [] ↔ _
    exact ⟨(fun h => by cases h), (fun h => by
      obtain ⟨_, k, hk, _⟩ := h
      omega)⟩
  | succ g ih =>
    intro u
    show u ∈ pvFl s g ++ puSort s (g : Int) ↔ _
    rw [List.mem_append, ih u]
    unfold puSort
    rw [puSrt_mem]
    constructor
    · rintro (⟨h1, k, h2, h3⟩ | ⟨h1, h2⟩)
      · exact ⟨h1, k, by omega, h3⟩
      · exact ⟨h1, g, by omega, h2⟩
    · rintro ⟨h1, k, h2, h3⟩
      by_cases e : k = g
      · subst e
        exact Or.inr ⟨h1, h3⟩
      · exact Or.inl ⟨h1, k, by omega, h3⟩
theorem pvFl_all {s : Nat → Int} (ho : puOk s) (u : Nat) : u ∈ pvFl s 6 ↔ (u : Int) < s 4 := by
  have hn := ho.tasks
  rw [pvFl_mem]
  constructor
  · intro h
    omega
  · intro h
    have hg := ho.g h
    exact ⟨by omega, (s (5 + 3 * u)).toNat, by omega, by omega⟩
theorem pvFl_pw {s : Nat → Int} (ho : puOk s) : ∀ g : Nat, (pvFl s g).Pairwise (fun u v => pvKey s u < pvKey s v) := by
  have hn := ho.tasks
  intro g
  induction g with
  | zero => exact List.Pairwise.nil
  | succ g ih =>
    show (pvFl s g ++ puSort s (g : Int)).Pairwise _
    rw [List.pairwise_append]
    refine ⟨ih, (puSrt_pw (s := s) (g := (g : Int)) (s 4).toNat).imp_of_mem (fun {u v} hu hv h => ?_), fun u hu v hv => ?_⟩
    · obtain ⟨u1, u2⟩ := (puSrt_mem _ _).mp hu
      obtain ⟨v1, v2⟩ := (puSrt_mem _ _).mp hv
      have hu4 : (u : Int) < s 4 := by omega
      have hv4 : (v : Int) < s 4 := by omega
      have := ho.t24 hu4
      have := ho.t24 hv4
      unfold puLt at h
      unfold pvKey
      omega
    · obtain ⟨u1, k, u2, u3⟩ := (pvFl_mem g u).mp hu
      obtain ⟨v1, v2⟩ := (puSrt_mem _ _).mp hv
      have hu4 : (u : Int) < s 4 := by omega
      have hv4 : (v : Int) < s 4 := by omega
      have := ho.t24 hu4
      have := ho.t24 hv4
      have := ho.f hu4
      have := ho.f hv4
      unfold pvKey
      omega
def pvHd : List Nat → Int
  | [] => -1
  | v :: _ => (v : Int)
theorem pv_nextS {σ : gSt} {s : Nat → Int} (ho : puOk s) (hT : pvT σ s) {k : Int} (hk : gR k) {pre rest : List Nat} (hL : pvFl s 6 = pre ++ rest) (hp : ∀ u ∈ pre, pvKey s u ≤ k) (hr : ∀ v ∈ rest, k < pvKey s v) : DL_next σ k = some (pvHd rest) := by
  have hn := ho.tasks
  obtain ⟨r, e, hB⟩ := pv_next ho hT hk
  rw [e]
  congr 1
  have hpw := pvFl_pw ho 6
  rw [hL] at hpw
  have hall : ∀ u : Nat, (u : Int) < s 4 → u ∈ pre ∨ u ∈ rest := fun u hu => by
    have := (pvFl_all ho u).mpr hu
    rw [hL] at this
    exact List.mem_append.mp this
  have hin : ∀ u ∈ rest, (u : Int) < s 4 := fun u hu => (pvFl_all ho u).mp (by rw [hL]; exact List.mem_append_right _ hu)
  rcases hB with ⟨h1, h2⟩ | ⟨m, h1, h2, h3, h4⟩
  · cases rest with
    | nil => exact h1
    | cons v rest =>
      have hv := hin v List.mem_cons_self
      have := h2 v (by omega)
      have := hr v List.mem_cons_self
      omega
  · rcases hall m (by omega) with hm | hm
    · have := hp m hm
      omega
    · cases rest with
      | nil => cases hm
      | cons v rest =>
        show r = (v : Int)
        rcases List.mem_cons.mp hm with e2 | hm2
        · rw [h1, e2]
        · have hv := hin v List.mem_cons_self
          have h5 := (List.pairwise_cons.mp (List.pairwise_append.mp hpw).2.1).1 m hm2
          have h6 := h4 v (by omega) (hr v List.mem_cons_self)
          omega
/-- behind a task; at the begin -/
theorem pv_nextU {σ : gSt} {s : Nat → Int} (ho : puOk s) (hT : pvT σ s) {pre rest : List Nat} {u : Nat} (hL : pvFl s 6 = pre ++ u :: rest) : DL_next σ (pvKey s u) = some (pvHd rest) := by
  have hpw := pvFl_pw ho 6
  rw [hL] at hpw
  have hu4 : (u : Int) < s 4 := (pvFl_all ho u).mp (by rw [hL]; exact List.mem_append_right _ List.mem_cons_self)
  have hk := pvKey_in ho hu4
  obtain ⟨p1, p2, p3⟩ := List.pairwise_append.mp hpw
  refine pv_nextS ho hT ⟨by omega, by omega⟩ (pre := pre ++ [u]) (by rw [hL, List.append_assoc]; rfl) (fun v hv => ?_) (fun v hv => (List.pairwise_cons.mp p2).1 v hv)
  rcases List.mem_append.mp hv with hv | hv
  · have := p3 v hv u List.mem_cons_self
    omega
  · rw [List.mem_singleton.mp hv]
    exact Int.le_refl _
theorem pv_next0 {σ : gSt} {s : Nat → Int} (ho : puOk s) (hT : pvT σ s) : DL_next σ (-1) = some (pvHd (pvFl s 6)) :=
  pv_nextS ho hT (by decide) (pre := []) rfl (fun u hu => by cases hu) (fun v hv => by
    have := pvKey_in ho ((pvFl_all ho v).mp hv)
    omega)
