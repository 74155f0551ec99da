/-! THE PURE SIDE. First: how a walk's pure function is gone through, and closed forms of the small ones. -/
def puP {α : Type} (x : Option α) (Q : α → Prop) : Prop := ∃ r, x = some r ∧ Q r
theorem pu_some {α : Type} {r : α} {Q : α → Prop} (h : Q r) : puP (some r) Q := ⟨r, rfl, h⟩
theorem pu_b {α β : Type} {x : Option α} {f : α → Option β} {Q : β → Prop} {R : α → Prop} (h : puP x R) (h2 : ∀ a, R a → puP (f a) Q) : puP (x.bind f) Q := by
  obtain ⟨a, rfl, ha⟩ := h
  exact h2 a ha
theorem pu_be {α β : Type} {x : Option α} {a : α} {f : α → Option β} {Q : β → Prop} (h : x = some a) (h2 : puP (f a) Q) : puP (x.bind f) Q := by
  subst h
  exact h2
theorem pu_mono {α : Type} {x : Option α} {Q R : α → Prop} (h : puP x R) (h2 : ∀ a, R a → Q a) : puP x Q := by
  obtain ⟨a, rfl, ha⟩ := h
  exact ⟨a, rfl, h2 a ha⟩
theorem pu_e {α : Type} {x : Option α} {a : α} {Q : α → Prop} (h : x = some a) (h2 : Q a) : puP x Q := ⟨a, h, h2⟩
theorem pu_if {α : Type} {p : Prop} [Decidable p] {x y : Int} {a b : Option α} {Q : α → Prop} (hx : gR x) (hy : gR y) (ha : p → puP a Q) (hb : ¬ p → puP b Q) : puP (gIf p x y a b) Q := by
  unfold gIf
  rw [if_pos ⟨hx, hy⟩]
  split
  · exact ha (by assumption)
  · exact hb (by assumption)
theorem pu_ifT {α : Type} {p : Prop} [Decidable p] {x y : Int} {a b : Option α} (hx : gR x) (hy : gR y) (h : p) : gIf p x y a b = a := by
  unfold gIf
  rw [if_pos ⟨hx, hy⟩, if_pos h]
theorem pu_ifF {α : Type} {p : Prop} [Decidable p] {x y : Int} {a b : Option α} (hx : gR x) (hy : gR y) (h : ¬ p) : gIf p x y a b = b := by
  unfold gIf
  rw [if_pos ⟨hx, hy⟩, if_neg h]
theorem pu_ite {α : Type} {p : Prop} [Decidable p] {x y : Int} {a b : Option α} (hx : gR x) (hy : gR y) : gIf p x y a b = if p then a else b := by
  unfold gIf
  rw [if_pos ⟨hx, hy⟩]
theorem pu_gat {α : Type} {i : Int} {n : Nat} {a : Option α} (h0 : 0 ≤ i) (h1 : i < (n : Int)) : gAt i n a = a := by
  unfold gAt
  rw [if_pos ⟨h0, h1⟩]
theorem pu_dv {α : Type} {x y : Int} {a : Option α} (h0 : 0 ≤ x) (h1 : x ≤ 2147483647) (h2 : 0 < y) (h3 : y ≤ 2147483647) : gDv x y a = a := by
  unfold gDv
  rw [if_pos ⟨h0, h1, h2, h3⟩]
theorem pu_bo {α : Type} {x : Int} {a : Option α} (h : x = 0 ∨ x = 1) : gBo x a = a := by
  unfold gBo
  rw [if_pos h]
theorem pu_rr {α : Type} {x y : Int} {a : Option α} (hx : gR x) (hy : gR y) : gRr x y a = a := by
  unfold gRr
  rw [if_pos ⟨hx, hy⟩]
theorem pu_up (σ : gSt) (k i : Nat) (v : Int) (k' i' : Nat) : gUp σ k i v k' i' = if k' = k ∧ i' = i then v else σ k' i' := rfl
theorem pu_upE (σ : gSt) (k i : Nat) (v : Int) : gUp σ k i v k i = v := by simp [gUp]
theorem pu_upK {σ : gSt} {k i : Nat} {v : Int} {k' : Nat} (h : k' ≠ k) : gUp σ k i v k' = σ k' := by
  funext i'
  simp [gUp, h]
theorem pu_upI {σ : gSt} {k i : Nat} {v : Int} {k' i' : Nat} (h : i' ≠ i) : gUp σ k i v k' i' = σ k' i' := by
  simp [gUp, h]
/-- closed forms of Numbers -/
theorem pu_at {n len : Nat} {σ : gSt} {i : Int} (h1 : -2147483648 ≤ i) (h2 : i ≤ 2147483647) (hl : len ≤ 2000) : DX4_at n len σ i = some (if 0 ≤ i ∧ i < (len : Int) then σ (n + 1) i.toNat else -1) := by
  unfold DX4_at
  by_cases h0 : i < 0
  · rw [pu_ifT ⟨h1, h2⟩ (by decide) h0, if_neg (by omega)]
  · rw [pu_ifF ⟨h1, h2⟩ (by decide) h0]
    by_cases h3 : i < (len : Int)
    · rw [pu_ifT ⟨h1, h2⟩ ⟨by omega, by omega⟩ h3, pu_gat (by omega) h3, if_pos ⟨by omega, h3⟩]
    · rw [pu_ifF ⟨h1, h2⟩ ⟨by omega, by omega⟩ h3, if_neg (by omega)]
theorem pu_atI {n len : Nat} {σ : gSt} {i : Int} (h0 : 0 ≤ i) (h1 : i < (len : Int)) (hl : len ≤ 2000) : DX4_at n len σ i = some (σ (n + 1) i.toNat) := by
  rw [pu_at (by omega) (by omega) hl, if_pos ⟨h0, h1⟩]
theorem pu_atN {n len : Nat} {σ : gSt} {i : Nat} (h1 : i < len) (hl : len ≤ 2000) : DX4_at n len σ (i : Int) = some (σ (n + 1) i) := by
  rw [pu_atI (by omega) (by omega) hl, Int.toNat_natCast]
theorem pu_put {n len : Nat} {σ : gSt} {i v : Int} (h1 : -2147483648 ≤ i) (h2 : i ≤ 2147483647) (hl : len ≤ 2000) : DX4_put n len σ i v = some (if 0 ≤ i ∧ i < (len : Int) then gUp σ (n + 1) i.toNat v else σ) := by
  unfold DX4_put
  by_cases h0 : i < 0
  · rw [pu_ifT ⟨h1, h2⟩ (by decide) h0, if_neg (by omega)]
  · rw [pu_ifF ⟨h1, h2⟩ (by decide) h0]
    by_cases h3 : i < (len : Int)
    · rw [pu_ifT ⟨h1, h2⟩ ⟨by omega, by omega⟩ h3, pu_gat (by omega) h3, if_pos ⟨by omega, h3⟩]
    · rw [pu_ifF ⟨h1, h2⟩ ⟨by omega, by omega⟩ h3, if_neg (by omega)]
theorem pu_putI {n len : Nat} {σ : gSt} {i v : Int} (h0 : 0 ≤ i) (h1 : i < (len : Int)) (hl : len ≤ 2000) : DX4_put n len σ i v = some (gUp σ (n + 1) i.toNat v) := by
  rw [pu_put (by omega) (by omega) hl, if_pos ⟨h0, h1⟩]
theorem pu_putN {n len : Nat} {σ : gSt} {i : Nat} {v : Int} (h1 : i < len) (hl : len ≤ 2000) : DX4_put n len σ (i : Int) v = some (gUp σ (n + 1) i v) := by
  rw [pu_putI (by omega) (by omega) hl, Int.toNat_natCast]
theorem pu_incI {n len : Nat} {σ : gSt} {i : Int} (h0 : 0 ≤ i) (h1 : i < (len : Int)) (hl : len ≤ 2000) : DX4_increase n len σ i = some (gUp σ (n + 1) i.toNat (σ (n + 1) i.toNat + 1)) := by
  unfold DX4_increase
  rw [pu_atI h0 h1 hl, Option.bind_some, pu_putI h0 h1 hl, Option.bind_some]
def puFill (σ : gSt) (k : Nat) (len : Nat) (s e v : Int) : gSt := fun k' i => if k' = k ∧ s ≤ (i : Int) ∧ (i : Int) < e ∧ i < len then v else σ k' i
theorem puFill_0 {σ : gSt} {k len : Nat} {s e v : Int} (h : ∀ i : Nat, ¬ (s ≤ (i : Int) ∧ (i : Int) < e ∧ i < len)) : puFill σ k len s e v = σ := by
  funext k' i
  unfold puFill
  rw [if_neg (fun q => h i q.2)]
theorem pu_fill_L (n len : Nat) (e v : Int) (hl : len ≤ 2000) (he : -2147483648 ≤ e ∧ e ≤ 2147483647) : ∀ (f : Nat) (x : Int) (σ : gSt), 0 ≤ x → x ≤ 2147483647 → 1 ≤ f → (len : Int) - x < f → DX4_fill_L3 n len e v f x σ = some (puFill σ (n + 1) len x e v) := by
  intro f
  induction f with
  | zero => intro x σ h0 h1 h2; omega
  | succ f ih =>
    intro x σ h0 h1 h2 h3
    rw [DX4_fill_L3, pu_ifF ⟨by omega, by omega⟩ (by decide) (by omega)]
    by_cases ha : x < e
    · rw [pu_ifT ⟨by omega, by omega⟩ he ha]
      by_cases hb : x < (len : Int)
      · rw [pu_ifT ⟨by omega, by omega⟩ ⟨by omega, by omega⟩ hb, pu_gat h0 hb, ih _ _ (by omega) (by omega) (by omega) (by omega)]
        congr 1
        funext k' i
        unfold puFill gUp
        by_cases hk : k' = n + 1
        · by_cases hi : i = x.toNat
          · rw [if_neg (by omega), if_pos ⟨hk, hi⟩, if_pos ⟨hk, by omega, by omega, by omega⟩]
          · by_cases hc : x ≤ (i : Int) ∧ (i : Int) < e ∧ i < len
            · rw [if_pos ⟨hk, by omega, hc.2.1, hc.2.2⟩, if_pos ⟨hk, hc.1, hc.2.1, hc.2.2⟩]
            · rw [if_neg (fun q => hc ⟨by omega, q.2.2.1, q.2.2.2⟩), if_neg (fun q => hi q.2), if_neg (fun q => hc q.2)]
        · rw [if_neg (fun q => hk q.1), if_neg (fun q => hk q.1), if_neg (fun q => hk q.1)]
      · rw [pu_ifF ⟨by omega, by omega⟩ ⟨by omega, by omega⟩ hb, puFill_0 (fun i q => by omega)]
    · rw [pu_ifF ⟨by omega, by omega⟩ he ha, puFill_0 (fun i q => by omega)]
theorem pu_fill {n len : Nat} {σ : gSt} {s e v : Int} (hl : len ≤ 2000) (hs : 0 ≤ s) (hs2 : s ≤ 2147483647) (he : -2147483648 ≤ e) (he2 : e ≤ 2147483647) : DX4_fill n len σ s e v = some (puFill σ (n + 1) len s e v) :=
  pu_fill_L n len e v hl ⟨he, he2⟩ gFuel s σ hs hs2 (by decide) (by rw [gFuel_eq]; omega)
def puCopy (σ : gSt) (k k1 : Nat) (x : Int) (len : Nat) : gSt := fun k' i => if k' = k ∧ x ≤ (i : Int) ∧ i < len then σ k1 i else σ k' i
theorem puCopy_0 {σ : gSt} {k k1 len : Nat} {s : Int} (h : ∀ i : Nat, ¬ (s ≤ (i : Int) ∧ i < len)) : puCopy σ k k1 s len = σ := by
  funext k' i
  unfold puCopy
  rw [if_neg (fun q => h i q.2)]
theorem pu_copy_L (n len n1 : Nat) (hl : len ≤ 2000) (hn : n ≠ n1) : ∀ (f : Nat) (x : Int) (σ : gSt), 0 ≤ x → x ≤ len → (len : Int) - x < f → DX4_copy_L2 n len n1 len f x σ = some (puCopy σ (n + 1) (n1 + 1) x len) := by
  intro f
  induction f with
  | zero => intro x σ h0 h1 h2; omega
  | succ f ih =>
    intro x σ h0 h1 h3
    rw [DX4_copy_L2]
    by_cases hb : x < (len : Int)
    · rw [pu_ifT ⟨by omega, by omega⟩ ⟨by omega, by omega⟩ hb, pu_ifT ⟨by omega, by omega⟩ ⟨by omega, by omega⟩ hb, pu_gat h0 hb, pu_gat h0 hb, ih _ _ (by omega) (by omega) (by omega)]
      congr 1
      funext k' i
      unfold puCopy gUp
      have hn1 : ¬ (n1 + 1 = n + 1) := by omega
      by_cases hk : k' = n + 1
      · by_cases hi : i = x.toNat
        · rw [if_neg (by omega), if_pos ⟨hk, hi⟩, if_pos ⟨hk, by omega, by omega⟩, hi]
        · by_cases hc : x ≤ (i : Int) ∧ i < len
          · rw [if_pos ⟨hk, by omega, hc.2⟩, if_neg (fun q => hn1 q.1), if_pos ⟨hk, hc.1, hc.2⟩]
          · rw [if_neg (fun q => hc ⟨by omega, q.2.2⟩), if_neg (fun q => hi q.2), if_neg (fun q => hc q.2)]
      · rw [if_neg (fun q => hk q.1), if_neg (fun q => hk q.1), if_neg (fun q => hk q.1)]
    · rw [pu_ifF ⟨by omega, by omega⟩ ⟨by omega, by omega⟩ hb, puCopy_0 (fun i q => by omega)]
theorem pu_copy {n len n1 : Nat} {σ : gSt} (hl : len ≤ 2000) (hn : n ≠ n1) : DX4_copy n len n1 len σ = some (puCopy σ (n + 1) (n1 + 1) 0 len) :=
  pu_copy_L n len n1 hl hn gFuel 0 σ (by omega) (by omega) (by rw [gFuel_eq]; omega)
def puGap (σ : gSt) (k : Nat) (x : Int) (len : Nat) : gSt := fun k' i => if k' = k ∧ x ≤ (i : Int) ∧ i + 1 < len then σ k (i + 1) else σ k' i
theorem puGap_0 {σ : gSt} {k len : Nat} {s : Int} (h : ∀ i : Nat, ¬ (s ≤ (i : Int) ∧ i + 1 < len)) : puGap σ k s len = σ := by
  funext k' i
  unfold puGap
  rw [if_neg (fun q => h i q.2)]
theorem pu_gap_L (n len : Nat) (hl : len ≤ 2000) : ∀ (f : Nat) (x : Int) (σ : gSt), 0 ≤ x → x ≤ len → (len : Int) - x < f → DX4_closeGap_L2 n len f x σ = some (puGap σ (n + 1) x len) := by
  intro f
  induction f with
  | zero => intro x σ h0 h1 h2; omega
  | succ f ih =>
    intro x σ h0 h1 h3
    rw [DX4_closeGap_L2, pu_ifF ⟨by omega, by omega⟩ (by decide) (by omega)]
    by_cases hb : x < (len : Int) - 1
    · rw [pu_ifT ⟨by omega, by omega⟩ ⟨by omega, by omega⟩ hb, pu_gat (by omega) (by omega), pu_gat (by omega) (by omega), ih _ _ (by omega) (by omega) (by omega)]
      congr 1
      funext k' i
      unfold puGap gUp
      by_cases hk : k' = n + 1
      · by_cases hi : i = x.toNat
        · rw [if_neg (by omega), if_pos ⟨hk, hi⟩, if_pos ⟨hk, by omega, by omega⟩, hi]
          congr 1
          omega
        · by_cases hc : x ≤ (i : Int) ∧ i + 1 < len
          · rw [if_pos ⟨hk, by omega, hc.2⟩, if_neg (by omega), if_pos ⟨hk, hc.1, hc.2⟩]
          · rw [if_neg (fun q => hc ⟨by omega, q.2.2⟩), if_neg (fun q => hi q.2), if_neg (fun q => hc q.2)]
      · rw [if_neg (fun q => hk q.1), if_neg (fun q => hk q.1), if_neg (fun q => hk q.1)]
    · rw [pu_ifF ⟨by omega, by omega⟩ ⟨by omega, by omega⟩ hb, puGap_0 (fun i q => by omega)]
theorem pu_gap {n len : Nat} {σ : gSt} {x : Int} (hl : len ≤ 2000) (h0 : 0 ≤ x) (h1 : x ≤ len) : DX4_closeGap n len σ x = some (puGap σ (n + 1) x len) :=
  pu_gap_L n len hl gFuel x σ h0 h1 (by rw [gFuel_eq]; omega)
/-- what stays -/
theorem puFill_K {σ : gSt} {k len : Nat} {s e v : Int} {k' : Nat} (h : k' ≠ k) : puFill σ k len s e v k' = σ k' := by
  funext i
  simp [puFill, h]
theorem puCopy_K {σ : gSt} {k k1 len : Nat} {s : Int} {k' : Nat} (h : k' ≠ k) : puCopy σ k k1 s len k' = σ k' := by
  funext i
  simp [puCopy, h]
theorem puGap_K {σ : gSt} {k len : Nat} {s : Int} {k' : Nat} (h : k' ≠ k) : puGap σ k s len k' = σ k' := by
  funext i
  simp [puGap, h]
theorem puFill_I {σ : gSt} {k len : Nat} {s e v : Int} {i : Nat} (h1 : s ≤ (i : Int)) (h2 : (i : Int) < e) (h3 : i < len) : puFill σ k len s e v k i = v := by
  simp [puFill, h1, h2, h3]
theorem puCopy_I {σ : gSt} {k k1 len : Nat} {i : Nat} (h : i < len) : puCopy σ k k1 0 len k i = σ k1 i := by
  simp [puCopy, h]
