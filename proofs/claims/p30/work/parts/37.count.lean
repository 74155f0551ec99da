/-! how many below n -/
def puC (p : Nat → Bool) : Nat → Nat
  | 0 => 0
  | n + 1 => puC p n + (if p n = true then 1 else 0)
theorem puC_T {p : Nat → Bool} {n : Nat} (h : p n = true) : puC p (n + 1) = puC p n + 1 := by
  show puC p n + (if p n = true then 1 else 0) = _
  rw [if_pos h]
theorem puC_F {p : Nat → Bool} {n : Nat} (h : ¬ p n = true) : puC p (n + 1) = puC p n := by
  show puC p n + (if p n = true then 1 else 0) = _
  rw [if_neg h, Nat.add_zero]
theorem puC_le {p : Nat → Bool} : ∀ n : Nat, puC p n ≤ n := by
  intro n
  induction n with
  | zero => exact Nat.le_refl _
  | succ n ih =>
    show puC p n + (if p n = true then 1 else 0) ≤ n + 1
    split <;> omega
theorem puC_mono {p : Nat → Bool} {a : Nat} : ∀ d : Nat, puC p a ≤ puC p (a + d) := by
  intro d
  induction d with
  | zero => exact Nat.le_refl _
  | succ d ih =>
    show puC p a ≤ puC p (a + d) + (if p (a + d) = true then 1 else 0)
    omega
theorem puC_mn {p : Nat → Bool} {a b : Nat} (h : a ≤ b) : puC p a ≤ puC p b := by
  have := puC_mono (p := p) (a := a) (b - a)
  rwa [show a + (b - a) = b by omega] at this
theorem puC_lt {p : Nat → Bool} {a b : Nat} (h : a < b) (hp : p a = true) : puC p a < puC p b := by
  have := puC_mn (p := p) (show a + 1 ≤ b from h)
  rw [puC_T hp] at this
  omega
theorem puC_skip {p : Nat → Bool} {a : Nat} : ∀ d : Nat, (∀ j, a ≤ j → j < a + d → ¬ p j = true) → puC p (a + d) = puC p a := by
  intro d
  induction d with
  | zero => intro _; rfl
  | succ d ih =>
    intro h
    rw [show a + (d + 1) = a + d + 1 by omega, puC_F (h (a + d) (by omega) (by omega)), ih (fun j h1 h2 => h j h1 (by omega))]
theorem puC_sk {p : Nat → Bool} {a b : Nat} (hab : a ≤ b) (h : ∀ j, a ≤ j → j < b → ¬ p j = true) : puC p b = puC p a := by
  have := puC_skip (p := p) (a := a) (b - a) (fun j h1 h2 => h j h1 (by omega))
  rwa [show a + (b - a) = b by omega] at this
theorem puC_pos {p : Nat → Bool} {n : Nat} : 0 < puC p n ↔ ∃ j, j < n ∧ p j = true := by
  constructor
  · intro h
    induction n with
    | zero => exact absurd h (Nat.lt_irrefl _)
    | succ n ih =>
      by_cases e : p n = true
      · exact ⟨n, Nat.lt_succ_self _, e⟩
      · rw [puC_F e] at h
        obtain ⟨j, h1, h2⟩ := ih h
        exact ⟨j, by omega, h2⟩
  · rintro ⟨j, h1, h2⟩
    exact Nat.lt_of_le_of_lt (Nat.zero_le _) (puC_lt h1 h2)
theorem puC_nth {p : Nat → Bool} {i : Nat} : ∀ n : Nat, i < puC p n → ∃ j, j < n ∧ p j = true ∧ puC p j = i := by
  intro n
  induction n with
  | zero => intro h; exact absurd h (Nat.not_lt_zero _)
  | succ n ih =>
    intro h
    by_cases e : i < puC p n
    · obtain ⟨j, h1, h2⟩ := ih e
      exact ⟨j, by omega, h2⟩
    · by_cases e2 : p n = true
      · rw [puC_T e2] at h
        exact ⟨n, Nat.lt_succ_self _, e2, by omega⟩
      · rw [puC_F e2] at h
        exact absurd h e
theorem puC_inj {p : Nat → Bool} {i j : Nat} (hi : p i = true) (hj : p j = true) (h : puC p i = puC p j) : i = j := by
  rcases Nat.lt_trichotomy i j with q | q | q
  · have := puC_lt q hi; omega
  · exact q
  · have := puC_lt q hj; omega
theorem puC_cong {p q : Nat → Bool} : ∀ n : Nat, (∀ j, j < n → p j = q j) → puC p n = puC q n := by
  intro n
  induction n with
  | zero => intro _; rfl
  | succ n ih =>
    intro h
    show puC p n + (if p n = true then 1 else 0) = puC q n + (if q n = true then 1 else 0)
    rw [ih (fun j hj => h j (by omega)), h n (by omega)]
theorem puC_split {p q : Nat → Bool} : ∀ n : Nat, puC p n ≤ puC q n + puC (fun j => p j && !q j) n := by
  intro n
  induction n with
  | zero => exact Nat.zero_le _
  | succ n ih =>
    show puC p n + (if p n = true then 1 else 0) ≤ (puC q n + (if q n = true then 1 else 0)) + (puC (fun j => p j && !q j) n + (if (p n && !q n) = true then 1 else 0))
    cases p n <;> cases q n <;> simp <;> omega
theorem puC_cover {n : Nat} {q : Nat → Nat → Bool} : ∀ (M : Nat) (p : Nat → Bool), (∀ m, m < M → puC (q m) n ≤ 1) → (∀ j, j < n → p j = true → ∃ m, m < M ∧ q m j = true) → puC p n ≤ M := by
  intro M
  induction M with
  | zero =>
    intro p _ h
    have : ¬ 0 < puC p n := fun h0 => by
      obtain ⟨j, h1, h2⟩ := puC_pos.mp h0
      obtain ⟨m, h3, _⟩ := h j h1 h2
      omega
    omega
  | succ M ih =>
    intro p h1 h2
    have e1 := puC_split (p := p) (q := q M) n
    have e2 := h1 M (Nat.lt_succ_self _)
    have e3 := ih (fun j => p j && !q M j) (fun m hm => h1 m (by omega)) (fun j hj hp => by
      have hp1 : p j = true ∧ q M j = false := by
        cases hq : p j <;> cases hr : q M j <;> simp [hq, hr] at hp ⊢
      obtain ⟨m, hm, hq⟩ := h2 j hj hp1.1
      by_cases e : m = M
      · subst e
        rw [hp1.2] at hq
        cases hq
      · exact ⟨m, by omega, hq⟩)
    omega
theorem puC_one {p : Nat → Bool} {n : Nat} (h : ∀ i j, i < n → j < n → p i = true → p j = true → i = j) : puC p n ≤ 1 := by
  by_cases e : puC p n ≤ 1
  · exact e
  · obtain ⟨i, h1, h2, h3⟩ := puC_nth (p := p) (i := 0) n (by omega)
    obtain ⟨j, h4, h5, h6⟩ := puC_nth (p := p) (i := 1) n (by omega)
    have := h i j h1 h4 h2 h5
    subst this
    omega
/-! a plan's strips, spots and sheets -/
def puF (s : Nat → Int) (D : Int) (t : Nat) : Nat := (s (6 + 3 * t) / D).toNat
def puT (s : Nat → Int) (D : Int) (t : Nat) : Nat := (puLast s t / D).toNat
theorem puDiv {x D : Int} (hx : 0 ≤ x ∧ x ≤ 258) (hD : 5 ≤ D ∧ D ≤ 60) : 0 ≤ x / D ∧ x / D ≤ 51 := by
  refine ⟨Int.ediv_nonneg hx.1 (by omega), ?_⟩
  have h1 : x / D ≤ 258 / D := Int.ediv_le_ediv (by omega) hx.2
  have h2 : 258 / D ≤ 51 := by
    have h3 : 258 / D < 52 := Int.ediv_lt_of_lt_mul (by omega) (by omega)
    omega
  omega
theorem puF_e {s : Nat → Int} {D : Int} (ho : puOk s) (hD : 5 ≤ D ∧ D ≤ 60) {t : Nat} (ht : (t : Int) < s 4) : s (6 + 3 * t) / D = (puF s D t : Int) := by
  have h1 := ho.f ht
  have h2 := puDiv (x := s (6 + 3 * t)) (by omega) hD
  unfold puF
  omega
theorem puT_e {s : Nat → Int} {D : Int} (ho : puOk s) (hD : 5 ≤ D ∧ D ≤ 60) {t : Nat} (ht : (t : Int) < s 4) : puLast s t / D = (puT s D t : Int) := by
  have h1 := ho.last ht
  have h3 := ho.f ht
  have h2 := puDiv (x := puLast s t) (by omega) hD
  unfold puT
  omega
theorem puFT {s : Nat → Int} {D : Int} (ho : puOk s) (hD : 5 ≤ D ∧ D ≤ 60) {t : Nat} (ht : (t : Int) < s 4) : puF s D t ≤ puT s D t ∧ puT s D t ≤ 51 ∧ puT s D t ≤ puF s D t + 12 := by
  have h1 := ho.last ht
  have h3 := ho.f ht
  have e1 := puF_e ho hD ht
  have e2 := puT_e ho hD ht
  have h2 := puDiv (x := puLast s t) (by omega) hD
  have h4 : s (6 + 3 * t) / D ≤ puLast s t / D := Int.ediv_le_ediv (by omega) h1.1
  have h5 : puLast s t / D ≤ (s (6 + 3 * t) + 12 * D) / D := Int.ediv_le_ediv (by omega) (by omega)
  rw [Int.add_mul_ediv_right _ _ (by omega)] at h5
  omega
def puOn (s : Nat → Int) (R : Nat) (D : Int) (k t : Nat) : Bool := decide (puBand s R t = k / 52 ∧ puF s D t ≤ k % 52 ∧ k % 52 ≤ puT s D t)
def puCnt (s : Nat → Int) (R : Nat) (D : Int) (k : Nat) : Nat := puC (puOn s R D k) (s 4).toNat
def puPr (s : Nat → Int) (R : Nat) (D : Int) (k : Nat) : Bool := decide (0 < puCnt s R D k)
def puOrd (s : Nat → Int) (j : Nat) : Nat := if s 3 = 0 then j else 52 * (j % 24) + j / 24
def puPos (s : Nat → Int) (k : Nat) : Nat := if s 3 = 0 then k else 24 * (k % 52) + k / 52
def puRk (s : Nat → Int) (R : Nat) (D : Int) (n : Nat) : Nat := puC (fun j => puPr s R D (puOrd s j)) n
def puSheets (s : Nat → Int) (R : Nat) (D : Int) : Nat := puRk s R D 1248
def puNo (s : Nat → Int) (R : Nat) (D : Int) (k : Nat) : Int := if puPr s R D k = true then (puRk s R D (puPos s k) : Int) else -1
theorem puOrd_lt {s : Nat → Int} {j : Nat} (h : j < 1248) : puOrd s j < 1248 := by
  unfold puOrd
  split <;> omega
theorem puPos_lt {s : Nat → Int} {k : Nat} (h : k < 1248) : puPos s k < 1248 := by
  unfold puPos
  split <;> omega
theorem puPos_ord {s : Nat → Int} {j : Nat} (h : j < 1248) : puPos s (puOrd s j) = j := by
  unfold puPos puOrd
  split <;> omega
theorem puOrd_pos {s : Nat → Int} {k : Nat} (h : k < 1248) : puOrd s (puPos s k) = k := by
  unfold puPos puOrd
  split <;> omega
theorem puOn_e {s : Nat → Int} {R : Nat} {D : Int} {k t : Nat} : puOn s R D k t = true ↔ puBand s R t = k / 52 ∧ puF s D t ≤ k % 52 ∧ k % 52 ≤ puT s D t := by
  unfold puOn
  exact decide_eq_true_iff
theorem puPr_e {s : Nat → Int} {R : Nat} {D : Int} (ho : puOk s) {k : Nat} : puPr s R D k = true ↔ ∃ t : Nat, (t : Int) < s 4 ∧ puBand s R t = k / 52 ∧ puF s D t ≤ k % 52 ∧ k % 52 ≤ puT s D t := by
  have hn := ho.tasks
  unfold puPr
  rw [decide_eq_true_iff]
  unfold puCnt
  rw [puC_pos]
  constructor
  · rintro ⟨t, h1, h2⟩
    exact ⟨t, by omega, puOn_e.mp h2⟩
  · rintro ⟨t, h1, h2⟩
    exact ⟨t, by omega, puOn_e.mpr h2⟩
theorem puPr_band {s : Nat → Int} {R : Nat} {D : Int} (ho : puOk s) (hR : 3 ≤ R) {k : Nat} (h : puPr s R D k = true) : k / 52 < puBands s R := by
  obtain ⟨t, h1, h2, h3, h4⟩ := (puPr_e ho).mp h
  have := puBand_lt ho hR h1
  omega
theorem puPr_strip {s : Nat → Int} {R : Nat} {D : Int} (ho : puOk s) (hD : 5 ≤ D ∧ D ≤ 60) {k : Nat} (h : puPr s R D k = true) : ((k % 52 : Nat) : Int) ≤ 258 / D := by
  obtain ⟨t, h1, h2, h3, h4⟩ := (puPr_e ho).mp h
  have e1 := puT_e ho hD h1
  have e2 := ho.last h1
  have e3 : puLast s t / D ≤ 258 / D := Int.ediv_le_ediv (by omega) e2.2.1
  omega
theorem puSpot_lt {s : Nat → Int} {R : Nat} {D : Int} (ho : puOk s) (hR : 3 ≤ R) (hD : 5 ≤ D ∧ D ≤ 60) {t x : Nat} (ht : (t : Int) < s 4) (hx : x ≤ puT s D t) : 52 * puBand s R t + x < 52 * puBands s R ∧ 52 * puBand s R t + x < 1248 := by
  have h1 := puBand_lt ho hR ht
  have h2 := puBands_le ho hR
  have h3 := (puFT ho hD ht).2.1
  omega
theorem puPr_t {s : Nat → Int} {R : Nat} {D : Int} (ho : puOk s) (hD : 5 ≤ D ∧ D ≤ 60) {t x : Nat} (ht : (t : Int) < s 4) (h1 : puF s D t ≤ x) (h2 : x ≤ puT s D t) : puPr s R D (52 * puBand s R t + x) = true := by
  have h3 := (puFT ho hD ht).2.1
  exact (puPr_e ho).mpr ⟨t, ht, by omega, by omega, by omega⟩
theorem puSheets_le {s : Nat → Int} {R : Nat} {D : Int} (ho : puOk s) (hD : 5 ≤ D ∧ D ≤ 60) : puSheets s R D ≤ 312 := by
  have hn := ho.tasks
  unfold puSheets puRk
  refine puC_cover (q := fun m j => decide (puOrd s j = 52 * puBand s R (m / 13) + (puF s D (m / 13) + m % 13))) 312 _ (fun m hm => puC_one (fun i j hi hj h1 h2 => ?_)) (fun j hj h => ?_)
  · have h1 := decide_eq_true_iff.mp h1
    have h2 := decide_eq_true_iff.mp h2
    have e1 := puPos_ord (s := s) hi
    have e2 := puPos_ord (s := s) hj
    rw [h1] at e1
    rw [h2] at e2
    omega
  · obtain ⟨t, h1, h2, h3, h4⟩ := (puPr_e ho).mp h
    have h5 := (puFT ho hD h1).2.2
    refine ⟨13 * t + (puOrd s j % 52 - puF s D t), by omega, decide_eq_true_iff.mpr ?_⟩
    rw [show (13 * t + (puOrd s j % 52 - puF s D t)) / 13 = t by omega, show (13 * t + (puOrd s j % 52 - puF s D t)) % 13 = puOrd s j % 52 - puF s D t by omega]
    omega
theorem puRk_le {s : Nat → Int} {R : Nat} {D : Int} (ho : puOk s) (hD : 5 ≤ D ∧ D ≤ 60) {j : Nat} (hj : j ≤ 1248) : puRk s R D j ≤ 312 := Nat.le_trans (puC_mn hj) (puSheets_le ho hD)
theorem puRk_lt {s : Nat → Int} {R : Nat} {D : Int} (ho : puOk s) (hD : 5 ≤ D ∧ D ≤ 60) {j : Nat} (hj : j < 1248) (h : puPr s R D (puOrd s j) = true) : puRk s R D j < puSheets s R D := puC_lt hj h
theorem puSheet_at {s : Nat → Int} {R : Nat} {D : Int} {i : Nat} (h : i < puSheets s R D) : ∃ j, j < 1248 ∧ puPr s R D (puOrd s j) = true ∧ puRk s R D j = i := puC_nth 1248 h
theorem puNo_in {s : Nat → Int} {R : Nat} {D : Int} (ho : puOk s) (hD : 5 ≤ D ∧ D ≤ 60) {k : Nat} (hk : k < 1248) : -1 ≤ puNo s R D k ∧ puNo s R D k ≤ 312 := by
  unfold puNo
  split
  · have := puRk_le (s := s) (R := R) ho hD (j := puPos s k) (Nat.le_of_lt (puPos_lt hk))
    omega
  · omega
theorem puNo_t {s : Nat → Int} {R : Nat} {D : Int} (ho : puOk s) (hR : 3 ≤ R) (hD : 5 ≤ D ∧ D ≤ 60) {k : Nat} (hk : k < 1248) (h : puPr s R D k = true) : puNo s R D k = (puRk s R D (puPos s k) : Int) ∧ puRk s R D (puPos s k) < puSheets s R D := by
  refine ⟨by unfold puNo; rw [if_pos h], puRk_lt ho hD (puPos_lt hk) ?_⟩
  rw [puOrd_pos hk]
  exact h
theorem puNo_inj {s : Nat → Int} {R : Nat} {D : Int} {k k' : Nat} (hk : k < 1248) (hk' : k' < 1248) (h : puPr s R D k = true) (h' : puPr s R D k' = true) (e : puNo s R D k = puNo s R D k') : k = k' := by
  unfold puNo at e
  rw [if_pos h, if_pos h'] at e
  have e2 : puRk s R D (puPos s k) = puRk s R D (puPos s k') := by omega
  have e3 := puC_inj (p := fun j => puPr s R D (puOrd s j)) (by show puPr s R D (puOrd s (puPos s k)) = true; rw [puOrd_pos hk]; exact h) (by show puPr s R D (puOrd s (puPos s k')) = true; rw [puOrd_pos hk']; exact h') e2
  have e4 := puOrd_pos (s := s) hk
  rw [e3, puOrd_pos hk'] at e4
  exact e4.symm
