/-! the tasks of a group by their first days: the class inserts them into a row, the reference looks for the next one -/
def puIns (s : Nat → Int) (t : Nat) : List Nat → List Nat
  | [] => [t]
  | u :: r => if s (6 + 3 * t) < s (6 + 3 * u) then t :: u :: r else u :: puIns s t r
def puSrt (s : Nat → Int) (g : Int) : Nat → List Nat
  | 0 => []
  | t + 1 => if s (5 + 3 * t) = g then puIns s t (puSrt s g t) else puSrt s g t
def puSort (s : Nat → Int) (g : Int) : List Nat := puSrt s g (s 4).toNat
def puLt (s : Nat → Int) (u v : Nat) : Prop := s (6 + 3 * u) < s (6 + 3 * v) ∨ (s (6 + 3 * u) = s (6 + 3 * v) ∧ u < v)
def puHold (σ : gSt) (k : Nat) (l : List Nat) : Prop := ∀ i u : Nat, l[i]? = some u → σ k i = (u : Int)
def puAt (l : List Nat) (i : Nat) : Int := match l[i]? with
  | none => -1
  | some u => (u : Int)
theorem puIns_mem {s : Nat → Int} {t : Nat} : ∀ (l : List Nat) (u : Nat), u ∈ puIns s t l ↔ u = t ∨ u ∈ l := by
  intro l
  induction l with
  | nil => intro u; simp [puIns]
  | cons v r ih =>
    intro u
    unfold puIns
    split
    · simp
    · simp only [List.mem_cons, ih]
      constructor
      · rintro (h | h | h)
        · exact Or.inr (Or.inl h)
        · exact Or.inl h
        · exact Or.inr (Or.inr h)
      · rintro (h | h | h)
        · exact Or.inr (Or.inl h)
        · exact Or.inl h
        · exact Or.inr (Or.inr h)
theorem puSrt_mem {s : Nat → Int} {g : Int} : ∀ (n : Nat) (u : Nat), u ∈ puSrt s g n ↔ u < n ∧ s (5 + 3 * u) = g := by
  intro n
  induction n with
  | zero => intro u; simp [puSrt]
  | succ n ih =>
    intro u
    unfold puSrt
    split
    · rename_i h
      rw [puIns_mem, ih]
      constructor
      · rintro (rfl | ⟨h1, h2⟩)
        · exact ⟨by omega, h⟩
        · exact ⟨by omega, h2⟩
      · rintro ⟨h1, h2⟩
        by_cases hu : u = n
        · exact Or.inl hu
        · exact Or.inr ⟨by omega, h2⟩
    · rename_i h
      rw [ih]
      constructor
      · rintro ⟨h1, h2⟩
        exact ⟨by omega, h2⟩
      · rintro ⟨h1, h2⟩
        refine ⟨?_, h2⟩
        by_cases hu : u = n
        · exact absurd (hu ▸ h2) h
        · omega
theorem puIns_len {s : Nat → Int} {t : Nat} : ∀ l : List Nat, (puIns s t l).length = l.length + 1 := by
  intro l
  induction l with
  | nil => rfl
  | cons v r ih =>
    unfold puIns
    split
    · rfl
    · simp [ih]
theorem puIns_pw {s : Nat → Int} {t : Nat} : ∀ l : List Nat, (∀ u ∈ l, u < t) → l.Pairwise (puLt s) → (puIns s t l).Pairwise (puLt s) := by
  intro l
  induction l with
  | nil => intro _ _; simp [puIns]
  | cons v r ih =>
    intro h1 h2
    have hv := h1 v List.mem_cons_self
    rw [List.pairwise_cons] at h2
    unfold puIns
    split
    · rename_i h
      rw [List.pairwise_cons]
      refine ⟨fun u hu => ?_, List.pairwise_cons.mpr h2⟩
      rcases List.mem_cons.mp hu with rfl | hu
      · exact Or.inl h
      · rcases h2.1 u hu with q | q
        · exact Or.inl (by omega)
        · exact Or.inl (by omega)
    · rename_i h
      rw [List.pairwise_cons]
      refine ⟨fun u hu => ?_, ih (fun u hu => h1 u (List.mem_cons_of_mem _ hu)) h2.2⟩
      rcases (puIns_mem r u).mp hu with rfl | hu
      · by_cases q : s (6 + 3 * v) < s (6 + 3 * u)
        · exact Or.inl q
        · exact Or.inr ⟨by omega, hv⟩
      · exact h2.1 u hu
theorem puSrt_pw {s : Nat → Int} {g : Int} : ∀ n : Nat, (puSrt s g n).Pairwise (puLt s) := by
  intro n
  induction n with
  | zero => exact List.Pairwise.nil
  | succ n ih =>
    unfold puSrt
    split
    · exact puIns_pw _ (fun u hu => ((puSrt_mem n u).mp hu).1) ih
    · exact ih
theorem puSrt_len {s : Nat → Int} {g : Int} : ∀ n : Nat, (puSrt s g n).length ≤ n := by
  intro n
  induction n with
  | zero => exact Nat.le_refl _
  | succ n ih =>
    unfold puSrt
    split
    · rw [puIns_len]; omega
    · omega
theorem puIns_get {s : Nat → Int} {t : Nat} : ∀ (l : List Nat) (x : Nat), x ≤ l.length → (∀ i u : Nat, l[i]? = some u → i < x → s (6 + 3 * u) ≤ s (6 + 3 * t)) → (∀ i u : Nat, l[i]? = some u → x ≤ i → s (6 + 3 * t) < s (6 + 3 * u)) → ∀ i : Nat, (puIns s t l)[i]? = if i < x then l[i]? else if i = x then some t else l[i - 1]? := by
  intro l
  induction l with
  | nil =>
    intro x hx h1 h2 i
    have hx0 : x = 0 := by simpa using hx
    subst hx0
    cases i with
    | zero => rfl
    | succ i => simp [puIns]
  | cons v r ih =>
    intro x hx h1 h2 i
    unfold puIns
    split
    · rename_i h
      have hx0 : x = 0 := by
        rcases Nat.eq_zero_or_pos x with q | q
        · exact q
        · have := h1 0 v rfl q
          omega
      subst hx0
      cases i with
      | zero => rfl
      | succ i => simp
    · rename_i h
      obtain ⟨y, rfl⟩ : ∃ y, x = y + 1 := by
        cases x with
        | zero => exact absurd (h2 0 v rfl (Nat.le_refl _)) h
        | succ y => exact ⟨y, rfl⟩
      cases i with
      | zero => simp
      | succ k =>
        rw [List.getElem?_cons_succ, ih y (by simpa using hx) (fun i u hi hk => h1 (i + 1) u hi (by omega)) (fun i u hi hk => h2 (i + 1) u hi (by omega)) k]
        by_cases c1 : k < y
        · rw [if_pos c1, if_pos (by omega)]
          rfl
        · rw [if_neg c1, if_neg (show ¬ k + 1 < y + 1 by omega)]
          by_cases c2 : k = y
          · rw [if_pos c2, if_pos (show k + 1 = y + 1 by omega)]
          · rw [if_neg c2, if_neg (show ¬ k + 1 = y + 1 by omega)]
            obtain ⟨k', rfl⟩ : ∃ k', k = k' + 1 := ⟨k - 1, by omega⟩
            rfl
theorem puPw_get {s : Nat → Int} {l : List Nat} (h : l.Pairwise (puLt s)) {i j u v : Nat} (hi : l[i]? = some u) (hj : l[j]? = some v) (hij : i < j) : puLt s u v := by
  obtain ⟨a, rfl⟩ := List.getElem?_eq_some_iff.mp hi
  obtain ⟨b, rfl⟩ := List.getElem?_eq_some_iff.mp hj
  exact List.pairwise_iff_getElem.mp h i j a b hij
theorem puLt_irr {s : Nat → Int} {u : Nat} : ¬ puLt s u u := by
  unfold puLt
  omega
theorem puLt_asy {s : Nat → Int} {u v : Nat} (h : puLt s u v) : ¬ puLt s v u := by
  unfold puLt at *
  omega
theorem pu_insert_L {σ0 : gSt} {b p1 : Nat} {s : Nat → Int} (ho : puOk s) (hb : p1 + 12 < b) {t : Nat} (ht : (t : Int) < s 4) {l : List Nat} (hlt : l.length < 24) (hpw : l.Pairwise (puLt s)) (hll : ∀ u ∈ l, (u : Int) < s 4) : ∀ (f x : Nat) (σ : gSt), x < f → x ≤ l.length → puPl σ p1 s → (∀ i u : Nat, l[i]? = some u → i < x → σ (b + 8) i = (u : Int)) → (∀ i u : Nat, l[i]? = some u → x ≤ i → σ (b + 8) (i + 1) = (u : Int) ∧ s (6 + 3 * t) < s (6 + 3 * u)) → (∀ k, k ≠ b + 8 → σ k = σ0 k) → puP (DX0_insert_L5 (DX0_insert_K55 b (t : Int)) b p1 (t : Int) f (x : Int) σ) (fun σ' => puHold σ' (b + 8) (puIns s t l) ∧ (∀ k, k ≠ b → k ≠ b + 8 → σ' k = σ0 k) ∧ σ' b = gUp σ0 b 4 (σ0 b 4 + 1) b) := by
  intro f
  induction f with
  | zero => intro x σ hx; omega
  | succ f ih =>
    intro x σ hx hxl hp hA hB hK
    have hfin : (∀ i u : Nat, l[i]? = some u → i < x → s (6 + 3 * u) ≤ s (6 + 3 * t)) → puP (DX0_insert_K55 b (t : Int) (x : Int) σ) (fun σ' => puHold σ' (b + 8) (puIns s t l) ∧ (∀ k, k ≠ b → k ≠ b + 8 → σ' k = σ0 k) ∧ σ' b = gUp σ0 b 4 (σ0 b 4 + 1) b) := by
      intro hle
      unfold DX0_insert_K55
      rw [pu_putN (by omega) (by decide), Option.bind_some]
      refine pu_some ⟨fun i u hi => ?_, fun k h1 h2 => ?_, ?_⟩
      · rw [pu_upK (by omega)]
        rw [puIns_get l x hxl hle (fun i u hi hk => (hB i u hi hk).2) i] at hi
        show gUp σ (b + 8) x (t : Int) (b + 8) i = _
        by_cases c1 : i < x
        · rw [if_pos c1] at hi
          rw [pu_upI (by omega)]
          exact hA i u hi c1
        · rw [if_neg c1] at hi
          by_cases c2 : i = x
          · rw [if_pos c2] at hi
            rw [c2, pu_upE]
            cases hi
            rfl
          · rw [if_neg c2] at hi
            rw [pu_upI c2]
            have := (hB (i - 1) u hi (by omega)).1
            rwa [show i - 1 + 1 = i by omega] at this
      · rw [pu_upK h1]
        show gUp σ (b + 8) x (t : Int) k = _
        rw [pu_upK h2, hK k h2]
      · funext i
        have e : gUp σ (b + 7 + 1) x (t : Int) b = σ0 b := by
          rw [pu_upK (by omega), hK b (by omega)]
        show (if b = b ∧ i = 4 then gUp σ (b + 7 + 1) x (t : Int) b 4 + 1 else gUp σ (b + 7 + 1) x (t : Int) b i) = (if b = b ∧ i = 4 then σ0 b 4 + 1 else σ0 b i)
        rw [e]
    rw [DX0_insert_L5]
    cases x with
    | zero =>
      rw [pu_ifF (by decide) (by decide) (by decide)]
      exact hfin (fun i u _ h => absurd h (Nat.not_lt_zero _))
    | succ y =>
      obtain ⟨v, hv⟩ : ∃ v, l[y]? = some v := ⟨_, List.getElem?_eq_some_iff.mpr ⟨by omega, rfl⟩⟩
      have hvm : (v : Int) < s 4 := hll v (List.mem_of_getElem? hv)
      have e1 : (((y + 1 : Nat) : Int) - 1) = (y : Int) := by omega
      have f1 := ho.f hvm
      have f2 := ho.f ht
      rw [pu_ifT ⟨by omega, by omega⟩ (by decide) (by omega), e1, pu_atN (by omega) (by decide), Option.bind_some, show σ (b + 7 + 1) y = (v : Int) from hA y v hv (by omega), pu_first ho hp hvm, Option.bind_some, pu_first ho hp ht, Option.bind_some]
      refine pu_if ⟨by omega, by omega⟩ ⟨by omega, by omega⟩ (fun hc => ?_) (fun hc => ?_)
      · rw [Option.bind_some, pu_putN (by omega) (by decide), Option.bind_some, show ((y + 1 : Nat) : Int) + (-1 : Int) = (y : Int) by omega]
        refine ih y _ (by omega) (by omega) (hp.same (fun k h1 h2 => pu_upK (by omega))) (fun i u hi h => ?_) (fun i u hi h => ?_) (fun k hk => ?_)
        · show gUp σ (b + 8) (y + 1) _ (b + 8) i = _
          rw [pu_upI (by omega)]
          exact hA i u hi (by omega)
        · show gUp σ (b + 8) (y + 1) _ (b + 8) (i + 1) = _ ∧ _
          by_cases c : i = y
          · subst c
            rw [pu_upE]
            rw [hv] at hi
            cases hi
            exact ⟨rfl, hc⟩
          · rw [pu_upI (by omega)]
            exact hB i u hi (by omega)
        · show gUp σ (b + 8) (y + 1) _ k = _
          rw [pu_upK hk, hK k hk]
      · refine hfin (fun i u hi h => ?_)
        by_cases c : i = y
        · subst c
          rw [hv] at hi
          cases hi
          omega
        · have := puPw_get hpw hi hv (by omega)
          unfold puLt at this
          omega
theorem pu_insert {σ : gSt} {b p1 : Nat} {s : Nat → Int} (ho : puOk s) (hb : p1 + 12 < b) {t : Nat} (ht : (t : Int) < s 4) {l : List Nat} (hlt : l.length < 24) (hpw : l.Pairwise (puLt s)) (hll : ∀ u ∈ l, (u : Int) < s 4) (hp : puPl σ p1 s) (hh : puHold σ (b + 8) l) (hc : σ b 4 = (l.length : Int)) : puP (DX0_insert b p1 σ (t : Int)) (fun σ' => puHold σ' (b + 8) (puIns s t l) ∧ (∀ k, k ≠ b → k ≠ b + 8 → σ' k = σ k) ∧ σ' b = gUp σ b 4 (σ b 4 + 1) b) := by
  unfold DX0_insert
  rw [hc, ← hc, hc]
  have := pu_insert_L (σ0 := σ) ho hb ht hlt hpw hll gFuel l.length σ (by rw [gFuel_eq]; omega) (Nat.le_refl _) hp (fun i u hi _ => hh i u hi) (fun i u hi h => by
    have := (List.getElem?_eq_some_iff.mp hi).1
    omega) (fun k _ => rfl)
  rw [hc] at this
  exact this
