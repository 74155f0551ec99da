/-! chains -/
theorem puC_full {p : Nat → Bool} {n j : Nat} (hj : j < n) (h : ¬ p j = true) : puC p n < n := by
  have h1 : puC p (j + 1) = puC p j := puC_F h
  have h2 := puC_le (p := p) j
  have h3 : ∀ d, puC p (j + 1 + d) ≤ puC p (j + 1) + d := by
    intro d
    induction d with
    | zero => exact Nat.le_refl _
    | succ d ih =>
      show puC p (j + 1 + d) + (if p (j + 1 + d) = true then 1 else 0) ≤ _
      split <;> omega
  have h4 := h3 (n - (j + 1))
  rw [show j + 1 + (n - (j + 1)) = n by omega] at h4
  omega
theorem puC_sub {p q : Nat → Bool} : ∀ n : Nat, (∀ j, j < n → p j = true → q j = true) → puC p n ≤ puC q n := by
  intro n
  induction n with
  | zero => intro _; exact Nat.le_refl _
  | succ n ih =>
    intro h
    have h1 := ih (fun j hj => h j (by omega))
    show puC p n + (if p n = true then 1 else 0) ≤ puC q n + (if q n = true then 1 else 0)
    by_cases e : p n = true
    · rw [if_pos e, if_pos (h n (by omega) e)]
      omega
    · rw [if_neg e]
      omega
theorem puC_ss {p q : Nat → Bool} {j0 : Nat} (hq : q j0 = true) (hp : ¬ p j0 = true) : ∀ n : Nat, j0 < n → (∀ j, j < n → p j = true → q j = true) → puC p n + 1 ≤ puC q n := by
  intro n
  induction n with
  | zero => intro h; omega
  | succ n ih =>
    intro hj h
    show puC p n + (if p n = true then 1 else 0) + 1 ≤ puC q n + (if q n = true then 1 else 0)
    by_cases e0 : j0 = n
    · subst e0
      have := puC_sub (p := p) (q := q) j0 (fun j hj => h j (by omega))
      rw [if_neg hp, if_pos hq]
      omega
    · have h1 := ih (by omega) (fun j hj => h j (by omega))
      by_cases e : p n = true
      · rw [if_pos e, if_pos (h n (by omega) e)]
        omega
      · rw [if_neg e]
        omega
def puRkT (s : Nat → Int) (t : Nat) : Nat := 1 + puC (fun u => decide (s (6 + 3 * u) < s (6 + 3 * t))) (s 4).toNat
theorem puRkT_le {s : Nat → Int} (ho : puOk s) {t : Nat} (ht : (t : Int) < s 4) : puRkT s t ≤ 24 := by
  have hn := ho.tasks
  have := puC_full (p := fun u => decide (s (6 + 3 * u) < s (6 + 3 * t))) (n := (s 4).toNat) (j := t) (by omega) (fun q => by
    have := decide_eq_true_iff.mp q
    omega)
  unfold puRkT
  omega
theorem puRkT_lt {s : Nat → Int} (ho : puOk s) {a : Nat} (ha : (a : Int) < s 77) (hl : ¬ puLate s a) : puRkT s (puFm s a) + 1 ≤ puRkT s (puTo s a) := by
  have hn := ho.tasks
  have f2 := (puFm_e ho ha).2
  have t2 := (puTo_e ho ha).2
  have l1 := ho.last f2
  unfold puLate at hl
  have := puC_ss (p := fun u => decide (s (6 + 3 * u) < s (6 + 3 * puFm s a))) (q := fun u => decide (s (6 + 3 * u) < s (6 + 3 * puTo s a))) (j0 := puFm s a) (decide_eq_true_iff.mpr (by omega)) (fun q => by
    have := decide_eq_true_iff.mp q
    omega) (s 4).toNat (by omega) (fun j _ hp => by
    have := decide_eq_true_iff.mp hp
    exact decide_eq_true_iff.mpr (by omega))
  unfold puRkT
  omega
/-- one arrow, one pass, k passes -/
def puG1 (s : Nat → Int) (a : Nat) (q : (Nat → Int) × Int) : (Nat → Int) × Int := if ¬ (s (6 + 3 * puTo s a) ≤ puLast s (puFm s a)) ∧ q.1 (puTo s a) < q.1 (puFm s a) + 1 then (puSet q.1 (puTo s a) (q.1 (puFm s a) + 1), 1) else q
def puGr (s : Nat → Int) (c : Nat → Int) : Nat → (Nat → Int) × Int
  | 0 => (c, 0)
  | n + 1 => puG1 s n (puGr s c n)
def puIt (s : Nat → Int) : Nat → Nat → Int
  | 0 => fun _ => 1
  | k + 1 => (puGr s (puIt s k) (s 77).toNat).1
def puMx (c : Nat → Int) : Nat → Int
  | 0 => 0
  | n + 1 => max (puMx c n) (c n)
def puBd (s : Nat → Int) (c : Nat → Int) : Prop := ∀ t : Nat, (t : Int) < s 4 → 1 ≤ c t ∧ c t ≤ (puRkT s t : Int)
def puCl (s : Nat → Int) (k i : Nat) (c : Nat → Int) : Prop := ∀ a : Nat, a < i → ¬ puLate s a → c (puFm s a) + 1 ≤ c (puTo s a) ∨ (k : Int) + 1 ≤ c (puTo s a)
theorem puGr_inv {s : Nat → Int} (ho : puOk s) {k : Nat} {c0 : Nat → Int} (hb : puBd s c0) (hc : puCl s k (s 77).toNat c0) : ∀ i : Nat, (i : Int) ≤ s 77 → puBd s (puGr s c0 i).1 ∧ puCl s k (s 77).toNat (puGr s c0 i).1 ∧ puCl s (k + 1) i (puGr s c0 i).1 ∧ (((puGr s c0 i).2 = 0 ∧ (puGr s c0 i).1 = c0) ∨ ((puGr s c0 i).2 = 1 ∧ ∃ t : Nat, (t : Int) < s 4 ∧ (k : Int) + 2 ≤ (puGr s c0 i).1 t)) := by
  intro i
  induction i with
  | zero => intro _; exact ⟨hb, hc, fun a ha => absurd ha (Nat.not_lt_zero _), Or.inl ⟨rfl, rfl⟩⟩
  | succ i ih =>
    intro hi
    obtain ⟨h1, h2, h3, h4⟩ := ih (by omega)
    show puBd s (puG1 s i (puGr s c0 i)).1 ∧ puCl s k (s 77).toNat (puG1 s i (puGr s c0 i)).1 ∧ puCl s (k + 1) (i + 1) (puG1 s i (puGr s c0 i)).1 ∧ (((puG1 s i (puGr s c0 i)).2 = 0 ∧ (puG1 s i (puGr s c0 i)).1 = c0) ∨ ((puG1 s i (puGr s c0 i)).2 = 1 ∧ ∃ t : Nat, (t : Int) < s 4 ∧ (k : Int) + 2 ≤ (puG1 s i (puGr s c0 i)).1 t))
    generalize puGr s c0 i = q at h1 h2 h3 h4 ⊢
    obtain ⟨c, g⟩ := q
    have hia : (i : Int) < s 77 := by omega
    obtain ⟨f1, f2⟩ := puFm_e ho hia
    obtain ⟨t1, t2⟩ := puTo_e ho hia
    unfold puG1
    by_cases e : ¬ (s (6 + 3 * puTo s i) ≤ puLast s (puFm s i)) ∧ c (puTo s i) < c (puFm s i) + 1
    · rw [if_pos e]
      have hr := puRkT_lt ho hia e.1
      have hk1 : (k : Int) + 1 ≤ c (puTo s i) := by
        rcases h2 i (by omega) e.1 with q | q
        · exact absurd e.2 (by show ¬ c (puTo s i) < c (puFm s i) + 1; have : c (puFm s i) + 1 ≤ c (puTo s i) := q; omega)
        · exact q
      have e2 := e.2
      have hS : ∀ t : Nat, puSet c (puTo s i) (c (puFm s i) + 1) t = if t = puTo s i then c (puFm s i) + 1 else c t := fun t => rfl
      have hne : puFm s i ≠ puTo s i := fun q => by
        have := puRkT_lt ho hia e.1
        rw [q] at this
        omega
      have hmono : ∀ t, c t ≤ puSet c (puTo s i) (c (puFm s i) + 1) t := fun t => by
        rw [hS]
        split
        · rename_i q; rw [q]; omega
        · exact Int.le_refl _
      refine ⟨fun t ht => ?_, fun a ha hl => ?_, fun a ha hl => ?_, Or.inr ⟨rfl, puTo s i, t2, ?_⟩⟩
      · show 1 ≤ puSet c (puTo s i) (c (puFm s i) + 1) t ∧ puSet c (puTo s i) (c (puFm s i) + 1) t ≤ _
        have := h1 t ht
        have h9 := h1 _ f2
        rw [hS]
        split
        · rename_i q
          rw [q]
          have : 1 ≤ c (puFm s i) ∧ c (puFm s i) ≤ (puRkT s (puFm s i) : Int) := h9
          omega
        · exact this
      · show puSet c (puTo s i) (c (puFm s i) + 1) (puFm s a) + 1 ≤ puSet c (puTo s i) (c (puFm s i) + 1) (puTo s a) ∨ _ ≤ puSet c (puTo s i) (c (puFm s i) + 1) (puTo s a)
        have hm := hmono (puTo s a)
        have h9 : c (puFm s a) + 1 ≤ c (puTo s a) ∨ (k : Int) + 1 ≤ c (puTo s a) := h2 a ha hl
        by_cases q : puFm s a = puTo s i
        · right
          rw [q] at h9
          omega
        · rw [hS (puFm s a), if_neg q]
          omega
      · show puSet c (puTo s i) (c (puFm s i) + 1) (puFm s a) + 1 ≤ puSet c (puTo s i) (c (puFm s i) + 1) (puTo s a) ∨ ((k + 1 : Nat) : Int) + 1 ≤ puSet c (puTo s i) (c (puFm s i) + 1) (puTo s a)
        by_cases ea : a = i
        · rw [ea, hS (puFm s i), if_neg hne, hS (puTo s i), if_pos rfl]
          exact Or.inl (Int.le_refl _)
        · have hm := hmono (puTo s a)
          have h9 : c (puFm s a) + 1 ≤ c (puTo s a) ∨ ((k + 1 : Nat) : Int) + 1 ≤ c (puTo s a) := h3 a (by omega) hl
          by_cases q : puFm s a = puTo s i
          · right
            rw [q] at h9
            omega
          · rw [hS (puFm s a), if_neg q]
            omega
      · show (k : Int) + 2 ≤ puSet c (puTo s i) (c (puFm s i) + 1) (puTo s i)
        rw [hS, if_pos rfl]
        omega
    · rw [if_neg e]
      refine ⟨h1, h2, fun a ha hl => ?_, h4⟩
      by_cases ea : a = i
      · subst ea
        refine Or.inl ?_
        have h9 : ¬ c (puTo s a) < c (puFm s a) + 1 := fun q => e ⟨hl, q⟩
        show c (puFm s a) + 1 ≤ c (puTo s a)
        omega
      · exact h3 a (by omega) hl
theorem puIt_inv {s : Nat → Int} (ho : puOk s) : ∀ k : Nat, puBd s (puIt s k) ∧ puCl s k (s 77).toNat (puIt s k) := by
  have hn := ho.arrows
  intro k
  induction k with
  | zero =>
    refine ⟨fun t ht => ⟨Int.le_refl _, ?_⟩, fun a ha hl => Or.inr (by show ((0 : Nat) : Int) + 1 ≤ 1; omega)⟩
    show (1 : Int) ≤ (puRkT s t : Int)
    unfold puRkT
    omega
  | succ k ih =>
    obtain ⟨h1, h2, h3, h4⟩ := puGr_inv ho ih.1 ih.2 (s 77).toNat (by omega)
    exact ⟨h1, h3⟩
theorem puGr_g {s : Nat → Int} (ho : puOk s) (k : Nat) : ((puGr s (puIt s k) (s 77).toNat).2 = 0 ∧ puIt s (k + 1) = puIt s k) ∨ ((puGr s (puIt s k) (s 77).toNat).2 = 1 ∧ k + 2 ≤ 24) := by
  have hn := ho.arrows
  have hi := puIt_inv ho k
  obtain ⟨h1, h2, h3, h4⟩ := puGr_inv ho hi.1 hi.2 (s 77).toNat (by omega)
  rcases h4 with ⟨q1, q2⟩ | ⟨q1, t, q2, q3⟩
  · exact Or.inl ⟨q1, q2⟩
  · refine Or.inr ⟨q1, ?_⟩
    have := (h1 t q2).2
    have := puRkT_le ho q2
    omega
theorem puIt_fix {s : Nat → Int} {k : Nat} (h : puIt s (k + 1) = puIt s k) : ∀ d : Nat, puIt s (k + d) = puIt s k := by
  intro d
  induction d with
  | zero => rfl
  | succ d ih =>
    show (puGr s (puIt s (k + d)) (s 77).toNat).1 = _
    rw [ih]
    exact h
theorem puIt_24 {s : Nat → Int} {k : Nat} (hk : k ≤ 24) (h : puIt s (k + 1) = puIt s k) : puIt s 24 = puIt s k := by
  have := puIt_fix h (24 - k)
  rwa [show k + (24 - k) = 24 by omega] at this
theorem puMx_in {s : Nat → Int} {c : Nat → Int} (ho : puOk s) (hb : puBd s c) : ∀ n : Nat, (n : Int) ≤ s 4 → 0 ≤ puMx c n ∧ puMx c n ≤ 24 := by
  intro n
  induction n with
  | zero => intro _; exact ⟨Int.le_refl 0, by show (0 : Int) ≤ 24; decide⟩
  | succ n ih =>
    intro hn
    have h1 := ih (by omega)
    have h2 := hb n (by omega)
    have h3 := puRkT_le ho (t := n) (by omega)
    show 0 ≤ max (puMx c n) (c n) ∧ max (puMx c n) (c n) ≤ 24
    omega
theorem puMx_set {c : Nat → Int} {t : Nat} {v : Int} (hv : c t ≤ v) : ∀ n : Nat, puMx (puSet c t v) n = if t < n then max (puMx c n) v else puMx c n := by
  intro n
  induction n with
  | zero => rfl
  | succ n ih =>
    show max (puMx (puSet c t v) n) (if n = t then v else c n) = if t < n + 1 then max (max (puMx c n) (c n)) v else max (puMx c n) (c n)
    rw [ih]
    by_cases e : n = t
    · subst e
      rw [if_neg (Nat.lt_irrefl n), if_pos rfl, if_pos (Nat.lt_succ_self n)]
      omega
    · rw [if_neg e]
      by_cases q : t < n
      · rw [if_pos q, if_pos (by omega)]
        omega
      · rw [if_neg q, if_neg (by omega)]
theorem puMx_one : ∀ n : Nat, puMx (fun _ => 1) (n + 1) = 1 := by
  intro n
  induction n with
  | zero => rfl
  | succ n ih =>
    show max (puMx (fun _ => 1) (n + 1)) 1 = 1
    rw [ih]
    rfl
theorem puMx_cong {c d : Nat → Int} : ∀ n : Nat, (∀ t, t < n → c t = d t) → puMx c n = puMx d n := by
  intro n
  induction n with
  | zero => intro _; rfl
  | succ n ih =>
    intro h
    show max (puMx c n) (c n) = max (puMx d n) (d n)
    rw [ih (fun t ht => h t (by omega)), h n (by omega)]
/-- the class -/
def puAg (s : Nat → Int) (x c : Nat → Int) : Prop := ∀ t : Nat, (t : Int) < s 4 → x t = c t
theorem pu_grow_L {σ0 : gSt} {s : Nat → Int} (ho : puOk s) {c0 : Nat → Int} {k : Nat} (hb : puBd s c0) (hc : puCl s k (s 77).toNat c0) (hp : puPl σ0 1 s) : ∀ (f x : Nat) (σ : gSt), (s 77).toNat - x < f → (x : Int) ≤ s 77 → puAg s (σ 86) (puGr s c0 x).1 → (∀ q, q ≠ 86 → σ q = σ0 q) → puP (DX1_growOnce_L4 84 1 f (x : Int) (puGr s c0 x).2 σ) (fun r => r.1 = (puGr s c0 (s 77).toNat).2 ∧ puAg s (r.2 86) (puGr s c0 (s 77).toNat).1 ∧ (∀ q, q ≠ 86 → r.2 q = σ0 q)) := by
  have hn := ho.arrows
  intro f
  induction f with
  | zero => intro x σ h; omega
  | succ f ih =>
    intro x σ hf hx hA hK
    have hp1 : puPl σ 1 s := hp.same (fun q q1 q2 => hK q (by omega))
    obtain ⟨i1, i2, i3, i4⟩ := puGr_inv ho hb hc x hx
    have hbo : (puGr s c0 x).2 = 0 ∨ (puGr s c0 x).2 = 1 := i4.elim (fun z => Or.inl z.1) (fun z => Or.inr z.1)
    clear i4
    rw [DX1_growOnce_L4, pu_arrows hp1, Option.bind_some]
    refine pu_if ⟨by omega, by omega⟩ ⟨by omega, by omega⟩ (fun c1 => ?_) (fun c1 => ?_)
    · obtain ⟨f1, f2⟩ := puFm_e ho c1
      obtain ⟨t1, t2⟩ := puTo_e ho c1
      have hf24 := ho.t24 f2
      have ht24 := ho.t24 t2
      have b1 := i1 _ f2
      have b2 := i1 _ t2
      have r1 := puRkT_le ho f2
      have r2 := puRkT_le ho t2
      have hstep : puGr s c0 (x + 1) = puG1 s x (puGr s c0 x) := rfl
      have hsame : ¬ (¬ (s (6 + 3 * puTo s x) ≤ puLast s (puFm s x)) ∧ (puGr s c0 x).1 (puTo s x) < (puGr s c0 x).1 (puFm s x) + 1) → puP (DX1_growOnce_J69 (DX1_growOnce_L4 84 1 f) (x : Int) (puGr s c0 x).2 σ) (fun r => r.1 = (puGr s c0 (s 77).toNat).2 ∧ puAg s (r.2 86) (puGr s c0 (s 77).toNat).1 ∧ (∀ q, q ≠ 86 → r.2 q = σ0 q)) := by
        intro q
        unfold DX1_growOnce_J69
        have e : puGr s c0 (x + 1) = puGr s c0 x := by
          rw [hstep]
          unfold puG1
          rw [if_neg q]
        rw [show ((x : Int) + 1) = ((x + 1 : Nat) : Int) by omega, ← e]
        exact ih (x + 1) σ (by omega) (by omega) (by rw [e]; exact hA) hK
      rw [pu_from ho hp1 c1, Option.bind_some, f1, pu_atN hf24 (by decide), Option.bind_some, pu_cLate ho hp1 c1, Option.bind_some, show σ (84 + 1 + 1) (puFm s x) = (puGr s c0 x).1 (puFm s x) from hA _ f2]
      by_cases e : puLate s x
      · rw [puLt_1 e]
        refine pu_if (by decide) (by decide) (fun z => absurd z (by decide)) (fun _ => hsame (fun q => q.1 e))
      · rw [puLt_0 e]
        refine pu_if (by decide) (by decide) (fun _ => ?_) (fun z => absurd rfl z)
        rw [pu_to ho hp1 c1, Option.bind_some, t1, pu_atN ht24 (by decide), Option.bind_some, show σ (84 + 1 + 1) (puTo s x) = (puGr s c0 x).1 (puTo s x) from hA _ t2]
        refine pu_if ⟨by omega, by omega⟩ ⟨by omega, by omega⟩ (fun c2 => ?_) (fun c2 => hsame (fun q => c2 q.2))
        rw [Option.bind_some, pu_putN ht24 (by decide), Option.bind_some]
        unfold DX1_growOnce_J69
        have e3 : puGr s c0 (x + 1) = (puSet (puGr s c0 x).1 (puTo s x) ((puGr s c0 x).1 (puFm s x) + 1), 1) := by
          rw [hstep]
          unfold puG1
          rw [if_pos ⟨e, c2⟩]
        have hh := ih (x + 1) (gUp σ (84 + 1 + 1) (puTo s x) ((puGr s c0 x).1 (puFm s x) + 1)) (by omega) (by omega) (by
          rw [e3]
          intro t ht
          show (if (86 : Nat) = 86 ∧ t = puTo s x then (puGr s c0 x).1 (puFm s x) + 1 else σ 86 t) = (if t = puTo s x then (puGr s c0 x).1 (puFm s x) + 1 else (puGr s c0 x).1 t)
          by_cases w : t = puTo s x
          · rw [if_pos ⟨rfl, w⟩, if_pos w]
          · rw [if_neg (fun z => w z.2), if_neg w]
            exact hA t ht) (fun q hq => by rw [pu_upK (by omega), hK q hq])
        rw [e3] at hh
        rw [show ((x : Int) + 1) = ((x + 1 : Nat) : Int) by omega]
        exact hh
    · have e : (s 77).toNat = x := by omega
      rw [e]
      rw [pu_bo hbo]
      exact pu_some ⟨rfl, hA, hK⟩
theorem pu_longC_L44 {σ : gSt} {s : Nat → Int} {c : Nat → Int} (ho : puOk s) (hp : puPl σ 1 s) (hb : puBd s c) (hA : puAg s (σ 86) c) : ∀ (f x : Nat), (s 4).toNat - x < f → (x : Int) ≤ s 4 → DX1_longest_L44 84 1 σ f (x : Int) (puMx c x) = some (puMx c (s 4).toNat, σ) := by
  have hn := ho.tasks
  intro f
  induction f with
  | zero => intro x h; omega
  | succ f ih =>
    intro x hf hx
    have hm := puMx_in ho hb x hx
    rw [DX1_longest_L44, pu_tasks hp, Option.bind_some]
    by_cases c1 : (x : Int) < s 4
    · have h24 := ho.t24 c1
      have b1 := hb x c1
      have r1 := puRkT_le ho c1
      rw [pu_ifT ⟨by omega, by omega⟩ ⟨by omega, by omega⟩ c1, pu_atN h24 (by decide), Option.bind_some, show σ (84 + 1 + 1) x = c x from hA x c1, pu_rr ⟨by omega, by omega⟩ ⟨by omega, by omega⟩, show ((x : Int) + 1) = ((x + 1 : Nat) : Int) by omega]
      exact ih (x + 1) (by omega) (by omega)
    · rw [pu_ifF ⟨by omega, by omega⟩ ⟨by omega, by omega⟩ c1, show (s 4).toNat = x by omega]
def puLong (s : Nat → Int) : Int := puMx (puIt s 24) (s 4).toNat
theorem pu_longC_L17 {σ0 : gSt} {s : Nat → Int} (ho : puOk s) (hp : puPl σ0 1 s) : ∀ (f x : Nat) (g : Int) (σ : gSt), 24 - x < f → x ≤ 24 → (g = 0 ∨ g = 1) → (g = 0 → puIt s (x + 1) = puIt s x) → puAg s (σ 86) (puIt s x) → (∀ q, q ≠ 86 → σ q = σ0 q) → puP (DX1_longest_L17 (DX1_longest_K39 84 1) 84 1 f (x : Int) g σ) (fun r => r.1 = puLong s ∧ (∀ q, q ≠ 86 → r.2 q = σ0 q)) := by
  have hn := ho.tasks
  intro f
  induction f with
  | zero => intro x g σ h; omega
  | succ f ih =>
    intro x g σ hf hx hg hg0 hA hK
    have hp1 : puPl σ 1 s := hp.same (fun q q1 q2 => hK q (by omega))
    have hend : puIt s 24 = puIt s x → puP (DX1_longest_K39 84 1 σ) (fun r => r.1 = puLong s ∧ (∀ q, q ≠ 86 → r.2 q = σ0 q)) := by
      intro e
      unfold DX1_longest_K39 puLong
      rw [e]
      exact pu_e (pu_longC_L44 ho hp1 (puIt_inv ho x).1 hA gFuel 0 (by rw [gFuel_eq]; omega) (by omega)) ⟨rfl, hK⟩
    rw [DX1_longest_L17]
    refine pu_if ⟨by omega, by omega⟩ (by decide) (fun c1 => hend (puIt_24 hx (hg0 c1))) (fun c1 => ?_)
    refine pu_if ⟨by omega, by omega⟩ (by decide) (fun c2 => ?_) (fun c2 => hend (by rw [show x = 24 by omega]))
    have hi := puIt_inv ho x
    unfold DX1_growOnce
    refine pu_b (pu_grow_L (σ0 := σ) ho hi.1 hi.2 hp1 gFuel 0 σ (by rw [gFuel_eq]; have := ho.arrows; omega) (by have := ho.arrows; omega) hA (fun _ _ => rfl)) (fun r q => ?_)
    obtain ⟨q1, q2, q3⟩ := q
    rw [show ((x : Int) + 1) = ((x + 1 : Nat) : Int) by omega]
    refine ih (x + 1) r.1 r.2 (by omega) (by omega) ?_ ?_ q2 (fun z hz => by rw [q3 z hz, hK z hz])
    · rw [q1]
      rcases puGr_g ho x with ⟨w, _⟩ | ⟨w, _⟩
      · exact Or.inl w
      · exact Or.inr w
    · intro hz
      rw [q1] at hz
      rcases puGr_g ho x with ⟨_, w⟩ | ⟨w, _⟩
      · show (puGr s (puIt s (x + 1)) (s 77).toNat).1 = _
        rw [w]
        exact w
      · rw [hz] at w
        exact absurd w (by decide)
theorem pu_longC {σ : gSt} {s : Nat → Int} (ho : puOk s) (hp : puPl σ 1 s) : puP (DX1_longest 84 1 σ) (fun r => r.1 = puLong s ∧ (∀ q, q ≠ 86 → r.2 q = σ q)) := by
  have hn := ho.tasks
  unfold DX1_longest
  rw [pu_tasks hp, Option.bind_some, pu_fill (by decide) (by decide) (by decide) (by omega) (by omega), Option.bind_some]
  refine pu_mono (pu_longC_L17 (σ0 := puFill σ (84 + 1 + 1) 24 0 (s 4) 1) ho (hp.same (fun q q1 q2 => puFill_K (by omega))) gFuel 0 1 _ (by rw [gFuel_eq]; omega) (by omega) (Or.inr rfl) (fun z => absurd z (by decide)) (fun t ht => ?_) (fun _ _ => rfl)) (fun r q => ⟨q.1, fun z hz => by rw [q.2 z hz, puFill_K hz]⟩)
  have h24 := ho.t24 ht
  exact puFill_I (by omega) ht h24
theorem puLong_in {s : Nat → Int} (ho : puOk s) : 0 ≤ puLong s ∧ puLong s ≤ 24 := by
  have hn := ho.tasks
  exact puMx_in ho (puIt_inv ho 24).1 _ (by omega)
