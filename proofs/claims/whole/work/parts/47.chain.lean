/-! chains -/
theorem puC_full {p : Nat → Bool} {n j : Nat} (hj : j < n) (h : ¬ p j = true) : puC p n < n := by
  have h1 : puC p (j + 1) = puC p j := puC_F h
  have h2 := puC_le (p := p) j
  have h3 : ∀ d, puC p (j + 1 + d) ≤ puC p (j + 1) + d := by
    intro d
    induction d with
    | zero => exact Nat.le_refl _
    | succ d ih =>
      show puC p (j + 1 + d) + (if p (j + 1 + d) = true then 1 else 0) ≤ _
      split <;> omega
  have h4 := h3 (n - (j + 1))
  rw [show j + 1 + (n - (j + 1)) = n by omega] at h4
  omega
theorem puC_sub {p q : Nat → Bool} : ∀ n : Nat, (∀ j, j < n → p j = true → q j = true) → puC p n ≤ puC q n := by
  intro n
  induction n with
  | zero => intro _; exact Nat.le_refl _
  | succ n ih =>
    intro h
    have h1 := ih (fun j hj => h j (by omega))
    show puC p n + (if p n = true then 1 else 0) ≤ puC q n + (if q n = true then 1 else 0)
    by_cases e : p n = true
    · rw [if_pos e, if_pos (h n (by omega) e)]
      omega
    · rw [if_neg e]
      omega
theorem puC_ss {p q : Nat → Bool} {j0 : Nat} (hq : q j0 = true) (hp : ¬ p j0 = true) : ∀ n : Nat, j0 < n → (∀ j, j < n → p j = true → q j = true) → puC p n + 1 ≤ puC q n := by
  intro n
  induction n with
  | zero => intro h; omega
  | succ n ih =>
    intro hj h
    show puC p n + (if p n = true then 1 else 0) + 1 ≤ puC q n + (if q n = true then 1 else 0)
    by_cases e0 : j0 = n
    · subst e0
      have := puC_sub (p := p) (q := q) j0 (fun j hj => h j (by omega))
      rw [if_neg hp, if_pos hq]
      omega
    · have h1 := ih (by omega) (fun j hj => h j (by omega))
      by_cases e : p n = true
      · rw [if_pos e, if_pos (h n (by omega) e)]
        omega
      · rw [if_neg e]
        omega
def puRkT (s : Nat → Int) (t : Nat) : Nat := 1 + puC (fun u => decide (s (6 + 3 * u) < s (6 + 3 * t))) (s 4).toNat
theorem puRkT_le {s : Nat → Int} (ho : puOk s) {t : Nat} (ht : (t : Int) < s 4) : puRkT s t ≤ 24 := by
  have hn := ho.tasks
  have := puC_full (p := fun u => decide (s (6 + 3 * u) < s (6 + 3 * t))) (n := (s 4).toNat) (j := t) (by omega) (fun q => by
    have := decide_eq_true_iff.mp q
    omega)
  unfold puRkT
  omega
theorem puRkT_lt {s : Nat → Int} (ho : puOk s) {a : Nat} (ha : (a : Int) < s 77) (hl : ¬ puLate s a) : puRkT s (puFm s a) + 1 ≤ puRkT s (puTo s a) := by
  have hn := ho.tasks
  have f2 := (puFm_e ho ha).2
  have t2 := (puTo_e ho ha).2
  have l1 := ho.last f2
  unfold puLate at hl
  have := puC_ss (p := fun u => decide (s (6 + 3 * u) < s (6 + 3 * puFm s a))) (q := fun u => decide (s (6 + 3 * u) < s (6 + 3 * puTo s a))) (j0 := puFm s a) (decide_eq_true_iff.mpr (by omega)) (fun q => by
    have := decide_eq_true_iff.mp q
    omega) (s 4).toNat (by omega) (fun j _ hp => by
    have := decide_eq_true_iff.mp hp
    exact decide_eq_true_iff.mpr (by omega))
  unfold puRkT
  omega
/-- one arrow, one pass, k passes -/
def puG1 (s : Nat → Int) (a : Nat) (q : (Nat → Int) × Int) : (Nat → Int) × Int := if ¬ (s (6 + 3 * puTo s a) ≤ puLast s (puFm s a)) ∧ q.1 (puTo s a) < q.1 (puFm s a) + 1 then (puSet q.1 (puTo s a) (q.1 (puFm s a) + 1), 1) else q
def puGr (s : Nat → Int) (c : Nat → Int) : Nat → (Nat → Int) × Int
  | 0 => (c, 0)
  | n + 1 => puG1 s n (puGr s c n)
def puIt (s : Nat → Int) : Nat → Nat → Int
  | 0 => fun _ => 1
  | k + 1 => (puGr s (puIt s k) (s 77).toNat).1
def puMx (c : Nat → Int) : Nat → Int
  | 0 => 0
  | n + 1 => max (puMx c n) (c n)
def puBd (s : Nat → Int) (c : Nat → Int) : Prop := ∀ t : Nat, (t : Int) < s 4 → 1 ≤ c t ∧ c t ≤ (puRkT s t : Int)
def puCl (s : Nat → Int) (k i : Nat) (c : Nat → Int) : Prop := ∀ a : Nat, a < i → ¬ puLate s a → c (puFm s a) + 1 ≤ c (puTo s a) ∨ (k : Int) + 1 ≤ c (puTo s a)
theorem puGr_inv {s : Nat → Int} (ho : puOk s) {k : Nat} {c0 : Nat → Int} (hb : puBd s c0) (hc : puCl s k (s 77).toNat c0) : ∀ i : Nat, (i : Int) ≤ s 77 → puBd s (puGr s c0 i).1 ∧ puCl s k (s 77).toNat (puGr s c0 i).1 ∧ puCl s (k + 1) i (puGr s c0 i).1 ∧ (((puGr s c0 i).2 = 0 ∧ (puGr s c0 i).1 = c0) ∨ ((puGr s c0 i).2 = 1 ∧ ∃ t : Nat, (t : Int) < s 4 ∧ (k : Int) + 2 ≤ (puGr s c0 i).1 t)) := by
  intro i
  induction i with
  | zero => intro _; exact ⟨hb, hc, fun a ha => absurd ha (Nat.not_lt_zero _), Or.inl ⟨rfl, rfl⟩⟩
  | succ i ih =>
    intro hi
    obtain ⟨h1, h2, h3, h4⟩ := ih (by omega)
    show puBd s (puG1 s i (puGr s c0 i)).1 ∧ puCl s k (s 77).toNat (puG1 s i (puGr s c0 i)).1 ∧ puCl s (k + 1) (i + 1) (puG1 s i (puGr s c0 i)).1 ∧ (((puG1 s i (puGr s c0 i)).2 = 0 ∧ (puG1 s i (puGr s c0 i)).1 = c0) ∨ ((puG1 s i (puGr s c0 i)).2 = 1 ∧ ∃ t : Nat, (t : Int) < s 4 ∧ (k : Int) + 2 ≤ (puG1 s i (puGr s c0 i)).1 t))
    generalize puGr s c0 i = q at h1 h2 h3 h4 ⊢
    obtain ⟨c, g⟩ := q
    have hia : (i : Int) < s 77 := by omega
    obtain ⟨f1, f2⟩ := puFm_e ho hia
    obtain ⟨t1, t2⟩ := puTo_e ho hia
    unfold puG1
    by_cases e : ¬ (s (6 + 3 * puTo s i) ≤ puLast s (puFm s i)) ∧ c (puTo s i) < c (puFm s i) + 1
    · rw [if_pos e]
      have hr := puRkT_lt ho hia e.1
      have hk1 : (k : Int) + 1 ≤ c (puTo s i) := by
        rcases h2 i (by omega) e.1 with q | q
        · exact absurd e.2 (by show ¬ c (puTo s i) < c (puFm s i) + 1; have : c (puFm s i) + 1 ≤ c (puTo s i) := q; omega)
        · exact q
      have e2 := e.2
      have hS : ∀ t : Nat, puSet c (puTo s i) (c (puFm s i) + 1) t = if t = puTo s i then c (puFm s i) + 1 else c t := fun t => rfl
      have hne : puFm s i ≠ puTo s i := fun q => by
        have := puRkT_lt ho hia e.1
        rw [q] at this
        omega
      have hmono : ∀ t, c t ≤ puSet c (puTo s i) (c (puFm s i) + 1) t := fun t => by
        rw [hS]
        split
        · rename_i q; rw [q]; omega
        · exact Int.le_refl _
      refine ⟨fun t ht => ?_, fun a ha hl => ?_, fun a ha hl => ?_, Or.inr ⟨rfl, puTo s i, t2, ?_⟩⟩
      · show 1 ≤ puSet c (puTo s i) (c (puFm s i) + 1) t ∧ puSet c (puTo s i) (c (puFm s i) + 1) t ≤ _
        have := h1 t ht
        have h9 := h1 _ f2
        rw [hS]
        split
        · rename_i q
          rw [q]
          have : 1 ≤ c (puFm s i) ∧ c (puFm s i) ≤ (puRkT s (puFm s i) : Int) := h9
          omega
        · exact this
      · show puSet c (puTo s i) (c (puFm s i) + 1) (puFm s a) + 1 ≤ puSet c (puTo s i) (c (puFm s i) + 1) (puTo s a) ∨ _ ≤ puSet c (puTo s i) (c (puFm s i) + 1) (puTo s a)
        have hm := hmono (puTo s a)
        have h9 : c (puFm s a) + 1 ≤ c (puTo s a) ∨ (k : Int) + 1 ≤ c (puTo s a) := h2 a ha hl
        by_cases q : puFm s a = puTo s i
        · right
          rw [q] at h9
          omega
        · rw [hS (puFm s a), if_neg q]
          omega
      · show puSet c (puTo s i) (c (puFm s i) + 1) (puFm s a) + 1 ≤ puSet c (puTo s i) (c (puFm s i) + 1) (puTo s a) ∨ ((k + 1 : Nat) : Int) + 1 ≤ puSet c (puTo s i) (c (puFm s i) + 1) (puTo s a)
        by_cases ea : a = i
        · rw [ea, hS (puFm s i), if_neg hne, hS (puTo s i), if_pos rfl]
          exact Or.inl (Int.le_refl _)
        · have hm := hmono (puTo s a)
          have h9 : c (puFm s a) + 1 ≤ c (puTo s a) ∨ ((k + 1 : Nat) : Int) + 1 ≤ c (puTo s a) := h3 a (by omega) hl
          by_cases q : puFm s a = puTo s i
          · right
            rw [q] at h9
            omega
          · rw [hS (puFm s a), if_neg q]
            omega
      · show (k : Int) + 2 ≤ puSet c (puTo s i) (c (puFm s i) + 1) (puTo s i)
        rw [hS, if_pos rfl]
        omega
    · rw [if_neg e]
      refine ⟨h1, h2, fun a ha hl => ?_, h4⟩
      by_cases ea : a = i
      · subst ea
        refine Or.inl ?_
        have h9 : ¬ c (puTo s a) < c (puFm s a) + 1 := fun q => e ⟨hl, q⟩
        show c (puFm s a) + 1 ≤ c (puTo s a)
        omega
      · exact h3 a (by omega) hl
theorem puIt_inv {s : Nat → Int} (ho : puOk s) : ∀ k : Nat, puBd s (puIt s k) ∧ puCl s k (s 77).toNat (puIt s k) := by
  have hn := ho.arrows
  intro k
  induction k with
  | zero =>
    refine ⟨fun t ht => ⟨Int.le_refl _, ?_⟩, fun a ha hl => Or.inr (by show ((0 : Nat) : Int) + 1 ≤ 1; omega)⟩
    show (1 : Int) ≤ (puRkT s t : Int)
    unfold puRkT
    omega
  | succ k ih =>
    obtain ⟨h1, h2, h3, h4⟩ := puGr_inv ho ih.1 ih.2 (s 77).toNat (by omega)
    exact ⟨h1, h3⟩
theorem puGr_g {s : Nat → Int} (ho : puOk s) (k : Nat) : ((puGr s (puIt s k) (s 77).toNat).2 = 0 ∧ puIt s (k + 1) = puIt s k) ∨ ((puGr s (puIt s k) (s 77).toNat).2 = 1 ∧ k + 2 ≤ 24) := by
  have hn := ho.arrows
  have hi := puIt_inv ho k
  obtain ⟨h1, h2, h3, h4⟩ := puGr_inv ho hi.1 hi.2 (s 77).toNat (by omega)
  rcases h4 with ⟨q1, q2⟩ | ⟨q1, t, q2, q3⟩
  · exact Or.inl ⟨q1, q2⟩
  · refine Or.inr ⟨q1, ?_⟩
    have := (h1 t q2).2
    have := puRkT_le ho q2
    omega
theorem puIt_fix {s : Nat → Int} {k : Nat} (h : puIt s (k + 1) = puIt s k) : ∀ d : Nat, puIt s (k + d) = puIt s k := by
  intro d
  induction d with
  | zero => rfl
  | succ d ih =>
    show (puGr s (puIt s (k + d)) (s 77).toNat).1 = _
    rw [ih]
    exact h
theorem puIt_24 {s : Nat → Int} {k : Nat} (hk : k ≤ 24) (h : puIt s (k + 1) = puIt s k) : puIt s 24 = puIt s k := by
  have := puIt_fix h (24 - k)
  rwa [show k + (24 - k) = 24 by omega] at this
theorem puMx_in {s : Nat → Int} {c : Nat → Int} (ho : puOk s) (hb : puBd s c) : ∀ n : Nat, (n : Int) ≤ s 4 → 0 ≤ puMx c n ∧ puMx c n ≤ 24 := by
  intro n
  induction n with
  | zero => intro _; exact ⟨Int.le_refl 0, by show (0 : Int) ≤ 24; decide⟩
  | succ n ih =>
    intro hn
    have h1 := ih (by omega)
    have h2 := hb n (by omega)
    have h3 := puRkT_le ho (t := n) (by omega)
    show 0 ≤ max (puMx c n) (c n) ∧ max (puMx c n) (c n) ≤ 24
    omega
theorem puMx_set {c : Nat → Int} {t : Nat} {v : Int} (hv : c t ≤ v) : ∀ n : Nat, puMx (puSet c t v) n = if t < n then max (puMx c n) v else puMx c n := by
  intro n
  induction n with
  | zero => rfl
  | succ n ih =>
    show max (puMx (puSet c t v) n) (if n = t then v else c n) = if t < n + 1 then max (max (puMx c n) (c n)) v else max (puMx c n) (c n)
    rw [ih]
    by_cases e : n = t
    · subst e
      rw [if_neg (Nat.lt_irrefl n), if_pos rfl, if_pos (Nat.lt_succ_self n)]
      omega
    · rw [if_neg e]
      by_cases q : t < n
      · rw [if_pos q, if_pos (by omega)]
        omega
      · rw [if_neg q, if_neg (by omega)]
theorem puMx_one : ∀ n : Nat, puMx (fun _ => 1) (n + 1) = 1 := by
  intro n
  induction n with
  | zero => rfl
  | succ n ih =>
    show max (puMx (fun _ => 1) (n + 1)) 1 = 1
    rw [ih]
    rfl
theorem puMx_cong {c d : Nat → Int} : ∀ n : Nat, (∀ t, t < n → c t = d t) → puMx c n = puMx d n := by
  intro n
  induction n with
  | zero => intro _; rfl
  | succ n ih =>
    intro h
    show max (puMx c n) (c n) = max (puMx d n) (d n)
    rw [ih (fun t ht => h t (by omega)), h n (by omega)]
/-- the class -/
def puAg (s : Nat → Int) (x c : Nat → Int) : Prop := ∀ t : Nat, (t : Int) < s 4 → x t = c t
theorem pu_grow_L {σ0 : gSt} {s : Nat → Int} (ho : puOk s) {c0 : Nat → Int} {k : Nat} (hb : puBd s c0) (hc : puCl s k (s 77).toNat c0) (hp : puPl σ0 1 s) : ∀ (f x : Nat) (σ : gSt), (s 77).toNat - x < f → (x : Int) ≤ s 77 → puAg s (σ 86) (puGr s c0 x).1 → (∀ q, q ≠ 86 → σ q = σ0 q) → puP (DX1_growOnce_L4 84 1 f (x : Int) (puGr s c0 x).2 σ) (fun r => r.1 = (puGr s c0 (s 77).toNat).2 ∧ puAg s (r.2 86) (puGr s c0 (s 77).toNat).1 ∧ (∀ q, q ≠ 86 → r.2 q = σ0 q)) := by
  have hn := ho.arrows
  intro f
  induction f with
  | zero => intro x σ h; omega
  | succ f ih =>
    intro x σ hf hx hA hK
    have hp1 : puPl σ 1 s := hp.same (fun q q1 q2 => hK q (by omega))
    obtain ⟨i1, i2, i3, i4⟩ := puGr_inv ho hb hc x hx
    have hbo : (puGr s c0 x).2 = 0 ∨ (puGr s c0 x).2 = 1 := i4.elim (fun z => Or.inl z.1) (fun z => Or.inr z.1)
    clear i4
    rw [DX1_growOnce_L4, pu_arrows hp1, Option.bind_some]
    refine pu_if ⟨by omega, by omega⟩ ⟨by omega, by omega⟩ (fun c1 => ?_) (fun c1 => ?_)
    · obtain ⟨f1, f2⟩ := puFm_e ho c1
      obtain ⟨t1, t2⟩ := puTo_e ho c1
      have hf24 := ho.t24 f2
      have ht24 := ho.t24 t2
      have b1 := i1 _ f2
      have b2 := i1 _ t2
      have r1 := puRkT_le ho f2
      have r2 := puRkT_le ho t2
      have hstep : puGr s c0 (x + 1) = puG1 s x (puGr s c0 x) := rfl
      have hsame : ¬ (¬ (s (6 + 3 * puTo s x) ≤ puLast s (puFm s x)) ∧ (puGr s c0 x).1 (puTo s x) < (puGr s c0 x).1 (puFm s x) + 1) → puP (DX1_growOnce_J69 (DX1_growOnce_L4 84 1 f) (x : Int) (puGr s c0 x).2 σ) (fun r => r.1 = (puGr s c0 (s 77).toNat).2 ∧ puAg s (r.2 86) (puGr s c0 (s 77).toNat).1 ∧ (∀ q, q ≠ 86 → r.2 q = σ0 q)) := by
        intro q
        unfold DX1_growOnce_J69
        have e : puGr s c0 (x + 1) = puGr s c0 x := by
          rw [hstep]
          unfold puG1
          rw [if_neg q]
        rw [show ((x : Int) + 1) = ((x + 1 : Nat) : Int) by omega, ← e]
        exact ih (x + 1) σ (by omega) (by omega) (by rw [e]; exact hA) hK
      rw [pu_from ho hp1 c1, Option.bind_some, f1, pu_atN hf24 (by decide), Option.bind_some, pu_cLate ho hp1 c1, Option.bind_some, show σ (84 + 1 + 1) (puFm s x) = (puGr s c0 x).1 (puFm s x) from hA _ f2]
      by_cases e : puLate s x
      · rw [puLt_1 e]
        refine pu_if (by decide) (by decide) (fun z => absurd z (by decide)) (fun _ => hsame (fun q => q.1 e))
      · rw [puLt_0 e]
        refine pu_if (by decide) (by decide) (fun _ => ?_) (fun z => absurd rfl z)
        rw [pu_to ho hp1 c1, Option.bind_some, t1, pu_atN ht24 (by decide), Option.bind_some, show σ (84 + 1 + 1) (puTo s x) = (puGr s c0 x).1 (puTo s x) from hA _ t2]
        refine pu_if ⟨by omega, by omega⟩ ⟨by omega, by omega⟩ (fun c2 => ?_) (fun c2 => hsame (fun q => c2 q.2))
        rw [Option.bind_some, pu_putN ht24 (by decide), Option.bind_some]
        unfold DX1_growOnce_J69
        have e3 : puGr s c0 (x + 1) = (puSet (puGr s c0 x).1 (puTo s x) ((puGr s c0 x).1 (puFm s x) + 1), 1) := by
          rw [hstep]
          unfold puG1
          rw [if_pos ⟨e, c2⟩]
        have hh := ih (x + 1) (gUp σ (84 + 1 + 1) (puTo s x) ((puGr s c0 x).1 (puFm s x) + 1)) (by omega) (by omega) (by
          rw [e3]
          intro t ht
          show (if (86 : Nat) = 86 ∧ t = puTo s x then (puGr s c0 x).1 (puFm s x) + 1 else σ 86 t) = (if t = puTo s x then (puGr s c0 x).1 (puFm s x) + 1 else (puGr s c0 x).1 t)
          by_cases w : t = puTo s x
          · rw [if_pos ⟨rfl, w⟩, if_pos w]
          · rw [if_neg (fun z => w z.2), if_neg w]
            exact hA t ht) (fun q hq => by rw [pu_upK (by omega), hK q hq])
        rw [e3] at hh
        rw [show ((x : Int) + 1) = ((x + 1 : Nat) : Int) by omega]
        exact hh
    · have e : (s 77).toNat = x := by omega
      rw [e]
      rw [pu_bo hbo]
      exact pu_some ⟨rfl, hA, hK⟩
theorem pu_longC_L44 {σ : gSt} {s : Nat → Int} {c : Nat → Int} (ho : puOk s) (hp : puPl σ 1 s) (hb : puBd s c) (hA : puAg s (σ 86) c) : ∀ (f x : Nat), (s 4).toNat - x < f → (x : Int) ≤ s 4 → DX1_longest_L44 84 1 σ f (x : Int) (puMx c x) = some (puMx c (s 4).toNat, σ) := by
  have hn := ho.tasks
  intro f
  induction f with
  | zero => intro x h; omega
  | succ f ih =>
    intro x hf hx
    have hm := puMx_in ho hb x hx
    rw [DX1_longest_L44, pu_tasks hp, Option.bind_some]
    by_cases c1 : (x : Int) < s 4
    · have h24 := ho.t24 c1
      have b1 := hb x c1
      have r1 := puRkT_le ho c1
      rw [pu_ifT ⟨by omega, by omega⟩ ⟨by omega, by omega⟩ c1, pu_atN h24 (by decide), Option.bind_some, show σ (84 + 1 + 1) x = c x from hA x c1, pu_rr ⟨by omega, by omega⟩ ⟨by omega, by omega⟩, show ((x : Int) + 1) = ((x + 1 : Nat) : Int) by omega]
      exact ih (x + 1) (by omega) (by omega)
    · rw [pu_ifF ⟨by omega, by omega⟩ ⟨by omega, by omega⟩ c1, show (s 4).toNat = x by omega]
def puLong (s : Nat → Int) : Int := puMx (puIt s 24) (s 4).toNat
theorem pu_longC_L17 {σ0 : gSt} {s : Nat → Int} (ho : puOk s) (hp : puPl σ0 1 s) : ∀ (f x : Nat) (g : Int) (σ : gSt), 24 - x < f → x ≤ 24 → (g = 0 ∨ g = 1) → (g = 0 → puIt s (x + 1) = puIt s x) → puAg s (σ 86) (puIt s x) → (∀ q, q ≠ 86 → σ q = σ0 q) → puP (DX1_longest_L17 (DX1_longest_K39 84 1) 84 1 f (x : Int) g σ) (fun r => r.1 = puLong s ∧ (∀ q, q ≠ 86 → r.2 q = σ0 q)) := by
  have hn := ho.tasks
  intro f
  induction f with
  | zero => intro x g σ h; omega
  | succ f ih =>
    intro x g σ hf hx hg hg0 hA hK
    have hp1 : puPl σ 1 s := hp.same (fun q q1 q2 => hK q (by omega))
    have hend : puIt s 24 = puIt s x → puP (DX1_longest_K39 84 1 σ) (fun r => r.1 = puLong s ∧ (∀ q, q ≠ 86 → r.2 q = σ0 q)) := by
      intro e
      unfold DX1_longest_K39 puLong
      rw [e]
      exact pu_e (pu_longC_L44 ho hp1 (puIt_inv ho x).1 hA gFuel 0 (by rw [gFuel_eq]; omega) (by omega)) ⟨rfl, hK⟩
    rw [DX1_longest_L17]
    refine pu_if ⟨by omega, by omega⟩ (by decide) (fun c1 => hend (puIt_24 hx (hg0 c1))) (fun c1 => ?_)
    refine pu_if ⟨by omega, by omega⟩ (by decide) (fun c2 => ?_) (fun c2 => hend (by rw [show x = 24 by omega]))
    have hi := puIt_inv ho x
    unfold DX1_growOnce
    refine pu_b (pu_grow_L (σ0 := σ) ho hi.1 hi.2 hp1 gFuel 0 σ (by rw [gFuel_eq]; have := ho.arrows; omega) (by have := ho.arrows; omega) hA (fun _ _ => rfl)) (fun r q => ?_)
    obtain ⟨q1, q2, q3⟩ := q
    rw [show ((x : Int) + 1) = ((x + 1 : Nat) : Int) by omega]
    refine ih (x + 1) r.1 r.2 (by omega) (by omega) ?_ ?_ q2 (fun z hz => by rw [q3 z hz, hK z hz])
    · rw [q1]
      rcases puGr_g ho x with ⟨w, _⟩ | ⟨w, _⟩
      · exact Or.inl w
      · exact Or.inr w
    · intro hz
      rw [q1] at hz
      rcases puGr_g ho x with ⟨_, w⟩ | ⟨w, _⟩
      · show (puGr s (puIt s (x + 1)) (s 77).toNat).1 = _
        rw [w]
        exact w
      · rw [hz] at w
        exact absurd w (by decide)
theorem pu_longC {σ : gSt} {s : Nat → Int} (ho : puOk s) (hp : puPl σ 1 s) : puP (DX1_longest 84 1 σ) (fun r => r.1 = puLong s ∧ (∀ q, q ≠ 86 → r.2 q = σ q)) := by
  have hn := ho.tasks
  unfold DX1_longest
  rw [pu_tasks hp, Option.bind_some, pu_fill (by decide) (by decide) (by decide) (by omega) (by omega), Option.bind_some]
  refine pu_mono (pu_longC_L17 (σ0 := puFill σ (84 + 1 + 1) 24 0 (s 4) 1) ho (hp.same (fun q q1 q2 => puFill_K (by omega))) gFuel 0 1 _ (by rw [gFuel_eq]; omega) (by omega) (Or.inr rfl) (fun z => absurd z (by decide)) (fun t ht => ?_) (fun _ _ => rfl)) (fun r q => ⟨q.1, fun z hz => by rw [q.2 z hz, puFill_K hz]⟩)
  have h24 := ho.t24 ht
  exact puFill_I (by omega) ht h24
/-- the reference -/
theorem pu_longR_L39 {σ0 : gSt} {s : Nat → Int} (ho : puOk s) {c0 : Nat → Int} {k : Nat} (hb : puBd s c0) (hc : puCl s k (s 77).toNat c0) (hs : σ0 137 = s) {K : Int → Int → gSt → Option (Int × gSt)} {Q : Int × gSt → Prop} : ∀ (f x : Nat) (σ : gSt), (s 77).toNat - x < f → (x : Int) ≤ s 77 → puAg s (σ 146) (puGr s c0 x).1 → (∀ q, q ≠ 146 → σ q = σ0 q) → (∀ σ', puAg s (σ' 146) (puGr s c0 (s 77).toNat).1 → (∀ q, q ≠ 146 → σ' q = σ0 q) → puP (K (puGr s c0 (s 77).toNat).2 (puMx (puGr s c0 (s 77).toNat).1 (s 4).toNat) σ') Q) → puP (DX9_longest_L39 K f (x : Int) (puGr s c0 x).2 (puMx (puGr s c0 x).1 (s 4).toNat) σ) Q := by
  have hn := ho.arrows
  have hn4 := ho.tasks
  intro f
  induction f with
  | zero => intro x σ h; omega
  | succ f ih =>
    intro x σ hf hx hA hK kk
    have e137 : σ 137 = s := by rw [hK 137 (by decide), hs]
    obtain ⟨i1, i2, i3, -⟩ := puGr_inv ho hb hc x hx
    have hm := puMx_in ho i1 (s 4).toNat (by omega)
    rw [DX9_longest_L39, pu_gat (by decide) (by decide), pu_r77 e137]
    refine pu_if ⟨by omega, by omega⟩ ⟨by omega, by omega⟩ (fun c1 => ?_) (fun c1 => ?_)
    · obtain ⟨f1, f2⟩ := puFm_e ho c1
      obtain ⟨t1, t2⟩ := puTo_e ho c1
      have hf24 := ho.t24 f2
      have ht24 := ho.t24 t2
      have b1 := i1 _ f2
      have b2 := i1 _ t2
      have r1 := puRkT_le ho f2
      have r2 := puRkT_le ho t2
      have hstep : puGr s c0 (x + 1) = puG1 s x (puGr s c0 x) := rfl
      have hsame : ¬ (¬ (s (6 + 3 * puTo s x) ≤ puLast s (puFm s x)) ∧ (puGr s c0 x).1 (puTo s x) < (puGr s c0 x).1 (puFm s x) + 1) → puP (DX9_longest_J142 (DX9_longest_L39 K f) (x : Int) (puGr s c0 x).2 (puMx (puGr s c0 x).1 (s 4).toNat) σ) Q := by
        intro q
        unfold DX9_longest_J142
        have e : puGr s c0 (x + 1) = puGr s c0 x := by
          rw [hstep]
          unfold puG1
          rw [if_neg q]
        rw [show ((x : Int) + 1) = ((x + 1 : Nat) : Int) by omega, ← e]
        exact ih (x + 1) σ (by omega) (by omega) (by rw [e]; exact hA) hK kk
      obtain ⟨v, ev, hv⟩ := pu_rLate ho e137 c1
      rw [ev, Option.bind_some]
      rcases hv with ⟨e, rfl⟩ | ⟨e, rfl⟩
      · refine pu_if (by decide) (by decide) (fun z => absurd z (by decide)) (fun _ => hsame (fun q => q.1 e))
      · refine pu_if (by decide) (by decide) (fun _ => ?_) (fun z => absurd rfl z)
        have aF : σ 146 (puFm s x) = (puGr s c0 x).1 (puFm s x) := hA _ f2
        have aT : σ 146 (puTo s x) = (puGr s c0 x).1 (puTo s x) := hA _ t2
        rw [pu_rend1 ho e137 c1, Option.bind_some, pu_gat (by omega) (by omega), pu_rend0 ho e137 c1, Option.bind_some, pu_gat (by omega) (by omega), Int.toNat_natCast, Int.toNat_natCast, aF, aT]
        refine pu_if ⟨by omega, by omega⟩ ⟨by omega, by omega⟩ (fun c2 => ?_) (fun c2 => hsame (fun q => c2 q.2))
        have e3 : puGr s c0 (x + 1) = (puSet (puGr s c0 x).1 (puTo s x) ((puGr s c0 x).1 (puFm s x) + 1), 1) := by
          rw [hstep]
          unfold puG1
          rw [if_pos ⟨e, c2⟩]
        have eM : puMx (puSet (puGr s c0 x).1 (puTo s x) ((puGr s c0 x).1 (puFm s x) + 1)) (s 4).toNat = max (puMx (puGr s c0 x).1 (s 4).toNat) ((puGr s c0 x).1 (puFm s x) + 1) := by
          rw [puMx_set (by omega), if_pos (by omega)]
        have hh := ih (x + 1) (gUp σ 146 (puTo s x) ((puGr s c0 x).1 (puFm s x) + 1)) (by omega) (by omega) (by
          rw [e3]
          intro t ht
          show (if (146 : Nat) = 146 ∧ t = puTo s x then (puGr s c0 x).1 (puFm s x) + 1 else σ 146 t) = (if t = puTo s x then (puGr s c0 x).1 (puFm s x) + 1 else (puGr s c0 x).1 t)
          by_cases w : t = puTo s x
          · rw [if_pos ⟨rfl, w⟩, if_pos w]
          · rw [if_neg (fun z => w z.2), if_neg w]
            exact hA t ht) (fun q hq => by rw [pu_upK hq, hK q hq]) kk
        rw [e3] at hh
        have hh : puP (DX9_longest_L39 K f ((x + 1 : Nat) : Int) 1 (puMx (puSet (puGr s c0 x).1 (puTo s x) ((puGr s c0 x).1 (puFm s x) + 1)) (s 4).toNat) (gUp σ 146 (puTo s x) ((puGr s c0 x).1 (puFm s x) + 1))) Q := hh
        rw [eM] at hh
        have e137' : gUp σ 146 (puTo s x) ((puGr s c0 x).1 (puFm s x) + 1) 137 = s := by rw [pu_upK (by decide)]; exact e137
        rw [Option.bind_some, Option.bind_some, pu_gat (by omega) (by omega), pu_gat (by omega) (by omega), Int.toNat_natCast, Int.toNat_natCast, aF, pu_rend1 ho e137' c1, Option.bind_some, Option.bind_some, pu_gat (by omega) (by omega), Int.toNat_natCast, pu_upE]
        unfold DX9_longest_J139 DX9_longest_J142
        rw [show ((x : Int) + 1) = ((x + 1 : Nat) : Int) by omega, Int.toNat_natCast, Int.toNat_natCast, aF]
        refine pu_if ⟨by omega, by omega⟩ ⟨by omega, by omega⟩ (fun c3 => ?_) (fun c3 => ?_)
        · rw [pu_gat (by omega) (by omega)]
          rw [show max (puMx (puGr s c0 x).1 (s 4).toNat) ((puGr s c0 x).1 (puFm s x) + 1) = (puGr s c0 x).1 (puFm s x) + 1 by omega] at hh
          exact hh
        · rw [show max (puMx (puGr s c0 x).1 (s 4).toNat) ((puGr s c0 x).1 (puFm s x) + 1) = puMx (puGr s c0 x).1 (s 4).toNat by omega] at hh
          exact hh
    · have e : (s 77).toNat = x := by omega
      rw [e] at kk
      exact kk σ hA hK
theorem pu_longR_L31 {σ0 : gSt} {s : Nat → Int} (ho : puOk s) (hs : σ0 137 = s) : ∀ (f k : Nat) (g : Int) (σ : gSt), 25 - k < f → k ≤ 24 → ((k = 0 ∧ g = 1) ∨ ∃ k', k = k' + 1 ∧ g = (puGr s (puIt s k') (s 77).toNat).2) → puAg s (σ 146) (puIt s k) → (∀ q, q ≠ 146 → σ q = σ0 q) → puP (DX9_longest_L31 f g (puMx (puIt s k) (s 4).toNat) σ) (fun r => r.1 = puLong s ∧ (∀ q, q ≠ 146 → r.2 q = σ0 q)) := by
  have hn := ho.arrows
  intro f
  induction f with
  | zero => intro k g σ h; omega
  | succ f ih =>
    intro k g σ hf hk hg hA hK
    have e137 : σ 137 = s := by rw [hK 137 (by decide), hs]
    rw [DX9_longest_L31]
    have hg01 : g = 0 ∨ g = 1 := by
      rcases hg with ⟨_, q⟩ | ⟨k', _, q⟩
      · exact Or.inr q
      · rw [q]
        rcases puGr_g ho k' with ⟨w, _⟩ | ⟨w, _⟩
        · exact Or.inl w
        · exact Or.inr w
    refine pu_if ⟨by omega, by omega⟩ (by decide) (fun c1 => ?_) (fun c1 => ?_)
    · refine pu_some ⟨?_, hK⟩
      rcases hg with ⟨_, q⟩ | ⟨k', e, q⟩
      · omega
      · rcases puGr_g ho k' with ⟨_, w⟩ | ⟨w, _⟩
        · have e2 : puIt s 24 = puIt s k' := puIt_24 (by omega) w
          show puMx (puIt s k) (s 4).toNat = puMx (puIt s 24) (s 4).toNat
          rw [e2, e, w]
        · rw [← q] at w
          omega
    · have hk2 : k + 1 ≤ 24 := by
        rcases hg with ⟨q, _⟩ | ⟨k', e, q⟩
        · omega
        · rcases puGr_g ho k' with ⟨w, _⟩ | ⟨_, w⟩
          · rw [← q] at w
            exact absurd w c1
          · omega
      have hi := puIt_inv ho k
      refine pu_longR_L39 (σ0 := σ) (c0 := puIt s k) ho hi.1 hi.2 e137 gFuel 0 σ (by rw [gFuel_eq]; omega) (by omega) hA (fun _ _ => rfl) (fun σ1 a1 k1 => ?_)
      unfold DX9_longest_K148
      exact ih (k + 1) _ σ1 (by omega) hk2 (Or.inr ⟨k, rfl, rfl⟩) a1 (fun q hq => by rw [k1 q hq, hK q hq])
theorem pu_longR_L4 {σ0 : gSt} {s : Nat → Int} (ho : puOk s) (hs : σ0 137 = s) : ∀ (f x : Nat) (σ : gSt), (s 4).toNat - x < f → (x : Int) ≤ s 4 → (∀ t : Nat, t < x → σ 146 t = 1) → (∀ q, q ≠ 146 → σ q = σ0 q) → puP (DX9_longest_L4 DX9_longest_K29 f (x : Int) (puMx (fun _ => 1) x) σ) (fun r => r.1 = puLong s ∧ (∀ q, q ≠ 146 → r.2 q = σ0 q)) := by
  have hn := ho.tasks
  intro f
  induction f with
  | zero => intro x σ h; omega
  | succ f ih =>
    intro x σ hf hx hA hK
    have e137 : σ 137 = s := by rw [hK 137 (by decide), hs]
    rw [DX9_longest_L4, pu_gat (by decide) (by decide), pu_r4 e137]
    refine pu_if ⟨by omega, by omega⟩ ⟨by omega, by omega⟩ (fun c1 => ?_) (fun c1 => ?_)
    · have h24 := ho.t24 c1
      have hh := ih (x + 1) (gUp σ 146 x 1) (by omega) (by omega) (fun t ht => by
        by_cases w : t = x
        · rw [w, pu_upE]
        · rw [pu_upI w]
          exact hA t (by omega)) (fun q hq => by rw [pu_upK hq, hK q hq])
      rw [puMx_one] at hh
      rw [pu_gat (by omega) (by omega), Int.toNat_natCast, show ((x : Int) + 1) = ((x + 1 : Nat) : Int) by omega]
      exact hh
    · have e : x = (s 4).toNat := by omega
      subst e
      unfold DX9_longest_K29
      exact pu_longR_L31 (σ0 := σ0) ho hs gFuel 0 1 σ (by rw [gFuel_eq]; omega) (by omega) (Or.inl ⟨rfl, rfl⟩) (fun t ht => hA t (by omega)) hK
theorem pu_longR {σ : gSt} {s : Nat → Int} (ho : puOk s) (hs : σ 137 = s) : puP (DX9_longest σ) (fun r => r.1 = puLong s ∧ (∀ q, q ≠ 146 → r.2 q = σ q)) := by
  have hn := ho.tasks
  unfold DX9_longest
  exact pu_longR_L4 ho hs gFuel 0 σ (by rw [gFuel_eq]; omega) (by omega) (fun t ht => absurd ht (Nat.not_lt_zero _)) (fun _ _ => rfl)
theorem puLong_in {s : Nat → Int} (ho : puOk s) : 0 ≤ puLong s ∧ puLong s ≤ 24 := by
  have hn := ho.tasks
  exact puMx_in ho (puIt_inv ho 24).1 _ (by omega)
theorem pu_21 {σ : gSt} {μ : gLg} (xs : Nat → Int32) (j : Nat) (hI : puInv σ) : puP (DL_c21 xs j σ μ) (fun r => puInv r.1) := by
  have ho := hI.1
  obtain ⟨⟨v, σ1⟩, e1, h1, h2⟩ := pu_longC ho hI.2.1.1
  have h2 : ∀ q, q ≠ 86 → σ1 q = σ q := h2
  have hI1 : puInv σ1 := hI.same (fun k hk => h2 k (by omega)) (by rw [h2 136 (by decide)]) (by rw [h2 136 (by decide)])
  have e137 : σ1 137 = σ 137 := h2 137 (by decide)
  obtain ⟨⟨w, σ2⟩, e2, h3, h4⟩ := pu_longR (σ := σ1) ho e137
  have hl := puLong_in ho
  unfold DL_c21 DX8_longestChain DX9_longestChain
  rw [e1, Option.bind_some, Option.bind_some, show (((v, σ1) : Int × gSt).1, ((v, σ1) : Int × gSt).2) = (v, σ1) from rfl]
  show puP (((DX9_longest σ1).bind fun q2 => (DX9_tells q2.2 q2.1).bind fun q5 => some (q5.1, q5.2)).bind fun q1389 => gIf (v = q1389.1) v q1389.1 (some (q1389.2, μ)) none) _
  rw [e2, Option.bind_some]
  show puP (gIf (v = w) v w (some (gUp σ2 136 6 0, μ)) none) _
  have hv : v = puLong (σ 137) := h1
  have hw : w = puLong (σ 137) := h3
  rw [pu_ifT ⟨by omega, by omega⟩ ⟨by omega, by omega⟩ (by omega)]
  have hK : ∀ q, q ≠ 146 → σ2 q = σ1 q := h4
  have hI2 : puInv σ2 := hI1.same (fun k hk => hK k (by omega)) (by rw [hK 136 (by decide)]) (by rw [hK 136 (by decide)])
  exact pu_some (hI2.six 0)
