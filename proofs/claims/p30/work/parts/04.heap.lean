/-! THE SYSTEM'S HEAP AS ONE FUNCTION. Every cell that the class and the law's own arrays ever hold has a number; what stands in it is read off two functions: ints by cell and place, longs by cell. -/
abbrev gSt : Type := Nat → Nat → Int
abbrev gLg : Type := Nat → Int64
/-- a kind: an int array of so many; an object: its class's place, what each slot holds (another cell, an int, a long); a row of references; a long array -/
abbrev gKd : Type := Nat ⊕ ((Nat × List (Nat ⊕ Bool)) ⊕ (List Nat ⊕ Nat))
abbrev gAd : Type := (Nat → Nat) × (ClassId × ClassId × ClassId)
abbrev gI (x : Int) : Int32 := Int32.ofInt x
abbrev gR (x : Int) : Prop := -2147483648 ≤ x ∧ x ≤ 2147483647
theorem gI_add (x y : Int) : gI x + gI y = gI (x + y) := (Int32.ofInt_add x y).symm
theorem gI_sub (x y : Int) : gI x - gI y = gI (x - y) := (Int32.ofInt_sub x y).symm
theorem gI_mul (x y : Int) : gI x * gI y = gI (x * y) := (Int32.ofInt_mul x y).symm
theorem gI_t {x : Int} (h : gR x) : (gI x).toInt = x := Int32.toInt_ofInt_of_le (by have := h.1; omega) (by have := h.2; omega)
theorem gI_lt {x y : Int} (hx : gR x) (hy : gR y) : gI x < gI y ↔ x < y := by rw [Int32.lt_iff_toInt_lt, gI_t hx, gI_t hy]
theorem gI_le {x y : Int} (hx : gR x) (hy : gR y) : gI x ≤ gI y ↔ x ≤ y := by rw [Int32.le_iff_toInt_le, gI_t hx, gI_t hy]
theorem gI_eq {x y : Int} (hx : gR x) (hy : gR y) : gI x = gI y ↔ x = y := by rw [← Int32.toInt_inj, gI_t hx, gI_t hy]
theorem gI_c {x : Int} (h0 : 0 ≤ x) (h : gR x) : (gI x).toNatClampNeg = x.toNat := Int32.toNatClampNeg_ofInt_of_le (by have := h.1; omega) (by have := h.2; omega)
theorem gI_in {i : Int} {n : Nat} (h0 : 0 ≤ i) (h : i < n) (hn : n ≤ 2147483647) : vp_in (gI i) n := by
  have hr : gR i := ⟨by omega, by omega⟩
  intro q
  rcases q with q | q
  · rw [show (0 : Int32) = gI 0 from rfl, gI_lt hr (by decide)] at q
    omega
  · rw [gI_c h0 hr] at q
    omega
theorem gI_nat (n : Nat) : Int32.ofNat n = gI n := Int32.ofInt_eq_ofNat.symm
theorem gI_x (x : Int32) : x = gI x.toInt := (Int32.ofInt_toInt x).symm
theorem gR_x (x : Int32) : gR x.toInt := ⟨by have := x.le_toInt; omega, by have := x.toInt_lt; omega⟩
/-- the walks' pure side: a branch; an index; a quotient; they answer nothing where the walk couldn't go on -/
def gIf {α : Type} (p : Prop) [Decidable p] (x y : Int) (a b : Option α) : Option α := if gR x ∧ gR y then (if p then a else b) else none
def gAt {α : Type} (i : Int) (n : Nat) (a : Option α) : Option α := if 0 ≤ i ∧ i < n then a else none
def gDv {α : Type} (x y : Int) (a : Option α) : Option α := if 0 ≤ x ∧ x ≤ 2147483647 ∧ 0 < y ∧ y ≤ 2147483647 then a else none
def gBo {α : Type} (x : Int) (a : Option α) : Option α := if x = 0 ∨ x = 1 then a else none
def gRr {α : Type} (x y : Int) (a : Option α) : Option α := if gR x ∧ gR y then a else none
theorem gIf_some {α : Type} {p : Prop} [Decidable p] {x y : Int} {a b : Option α} {r : α} (h : gIf p x y a b = some r) : gR x ∧ gR y ∧ ((p ∧ a = some r) ∨ (¬ p ∧ b = some r)) := by
  unfold gIf at h
  split at h
  · rename_i hr
    refine ⟨hr.1, hr.2, ?_⟩
    split at h
    · exact Or.inl ⟨by assumption, h⟩
    · exact Or.inr ⟨by assumption, h⟩
  · cases h
theorem gAt_some {α : Type} {i : Int} {n : Nat} {a : Option α} {r : α} (h : gAt i n a = some r) : (0 ≤ i ∧ i < n) ∧ a = some r := by
  unfold gAt at h
  split at h
  · exact ⟨by assumption, h⟩
  · cases h
theorem gDv_some {α : Type} {x y : Int} {a : Option α} {r : α} (h : gDv x y a = some r) : (0 ≤ x ∧ x ≤ 2147483647 ∧ 0 < y ∧ y ≤ 2147483647) ∧ a = some r := by
  unfold gDv at h
  split at h
  · exact ⟨by assumption, h⟩
  · cases h
theorem gBo_some {α : Type} {x : Int} {a : Option α} {r : α} (h : gBo x a = some r) : (x = 0 ∨ x = 1) ∧ a = some r := by
  unfold gBo at h
  split at h
  · exact ⟨by assumption, h⟩
  · cases h
theorem gRr_some {α : Type} {x y : Int} {a : Option α} {r : α} (h : gRr x y a = some r) : (gR x ∧ gR y) ∧ a = some r := by
  unfold gRr at h
  split at h
  · exact ⟨by assumption, h⟩
  · cases h
theorem gBind_some {α β : Type} {x : Option α} {f : α → Option β} {r : β} (h : x.bind f = some r) : ∃ a, x = some a ∧ f a = some r := Option.bind_eq_some_iff.mp h
/-- one int, one long is written -/
def gUp (σ : gSt) (k i : Nat) (v : Int) : gSt := fun k' i' => if k' = k ∧ i' = i then v else σ k' i'
def gUl (μ : gLg) (k : Nat) (v : Int64) : gLg := fun k' => if k' = k then v else μ k'
def gFuel : Nat := 100000
theorem gFuel_eq : gFuel = 100000 := rfl
def gSl (ad : Nat → Nat) (σ : gSt) (μ : gLg) (k i : Nat) : Nat ⊕ Bool → Value
  | .inl j => .ref (ad j)
  | .inr false => .int (gI (σ k i))
  | .inr true => .long (μ k)
def gE (G : gAd) (σ : gSt) (μ : gLg) (k : Nat) : gKd → va_E
  | .inl n => .inl (G.2.1, n, .inl (fun i => gI (σ k i)))
  | .inr (.inl o) => .inr (o.1, o.2.mapIdx (fun i t => gSl G.1 σ μ k i t))
  | .inr (.inr (.inl rs)) => .inl (G.2.2.1, rs.length, .inr (.inr (.inr (.inr (fun i => (rs[i]?).map G.1)))))
  | .inr (.inr (.inr n)) => .inl (G.2.2.2, n, .inr (.inl (fun _ => μ k)))
def gKinds : List gKd := [.inr (.inl (8, [.inl 1, .inl 14, .inl 27, .inl 81, .inl 84, .inl 87, .inl 96, .inl 105, .inl 118, .inl 127])), .inr (.inl (5, [.inl 2, .inl 4, .inl 6, .inl 8, .inl 10, .inl 12, .inr false, .inr false])), .inr (.inl (4, [.inl 3])), .inl 4, .inr (.inl (4, [.inl 5])), .inl 24, .inr (.inl (4, [.inl 7])), .inl 24, .inr (.inl (4, [.inl 9])), .inl 24, .inr (.inl (4, [.inl 11])), .inl 30, .inr (.inl (4, [.inl 13])), .inl 30, .inr (.inl (5, [.inl 15, .inl 17, .inl 19, .inl 21, .inl 23, .inl 25, .inr false, .inr false])), .inr (.inl (4, [.inl 16])), .inl 4, .inr (.inl (4, [.inl 18])), .inl 24, .inr (.inl (4, [.inl 20])), .inl 24, .inr (.inl (4, [.inl 22])), .inl 24, .inr (.inl (4, [.inl 24])), .inl 30, .inr (.inl (4, [.inl 26])), .inl 30, .inr (.inl (3, [.inl 28, .inr false, .inr false])), .inr (.inr (.inl [29, 42, 55, 68])), .inr (.inl (5, [.inl 30, .inl 32, .inl 34, .inl 36, .inl 38, .inl 40, .inr false, .inr false])), .inr (.inl (4, [.inl 31])), .inl 4, .inr (.inl (4, [.inl 33])), .inl 24, .inr (.inl (4, [.inl 35])), .inl 24, .inr (.inl (4, [.inl 37])), .inl 24, .inr (.inl (4, [.inl 39])), .inl 30, .inr (.inl (4, [.inl 41])), .inl 30, .inr (.inl (5, [.inl 43, .inl 45, .inl 47, .inl 49, .inl 51, .inl 53, .inr false, .inr false])), .inr (.inl (4, [.inl 44])), .inl 4, .inr (.inl (4, [.inl 46])), .inl 24, .inr (.inl (4, [.inl 48])), .inl 24, .inr (.inl (4, [.inl 50])), .inl 24, .inr (.inl (4, [.inl 52])), .inl 30, .inr (.inl (4, [.inl 54])), .inl 30, .inr (.inl (5, [.inl 56, .inl 58, .inl 60, .inl 62, .inl 64, .inl 66, .inr false, .inr false])), .inr (.inl (4, [.inl 57])), .inl 4, .inr (.inl (4, [.inl 59])), .inl 24, .inr (.inl (4, [.inl 61])), .inl 24, .inr (.inl (4, [.inl 63])), .inl 24, .inr (.inl (4, [.inl 65])), .inl 30, .inr (.inl (4, [.inl 67])), .inl 30, .inr (.inl (5, [.inl 69, .inl 71, .inl 73, .inl 75, .inl 77, .inl 79, .inr false, .inr false])), .inr (.inl (4, [.inl 70])), .inl 4, .inr (.inl (4, [.inl 72])), .inl 24, .inr (.inl (4, [.inl 74])), .inl 24, .inr (.inl (4, [.inl 76])), .inl 24, .inr (.inl (4, [.inl 78])), .inl 30, .inr (.inl (4, [.inl 80])), .inl 30, .inr (.inl (7, [.inl 82, .inr false, .inr false, .inr false, .inr false])), .inr (.inl (4, [.inl 83])), .inl 150, .inr (.inl (1, [.inl 85])), .inr (.inl (4, [.inl 86])), .inl 24, .inr (.inl (0, [.inl 88, .inl 90, .inl 92, .inl 94, .inr false, .inr false, .inr false, .inr false])), .inr (.inl (4, [.inl 89])), .inl 480, .inr (.inl (4, [.inl 91])), .inl 24, .inr (.inl (4, [.inl 93])), .inl 24, .inr (.inl (4, [.inl 95])), .inl 24, .inr (.inl (6, [.inl 97, .inl 99, .inl 101, .inl 103, .inr false])), .inr (.inl (4, [.inl 98])), .inl 1248, .inr (.inl (4, [.inl 100])), .inl 1248, .inr (.inl (4, [.inl 102])), .inl 312, .inr (.inl (4, [.inl 104])), .inl 312, .inr (.inl (2, [.inl 106, .inl 108, .inl 110, .inl 112, .inl 114, .inl 116, .inr false])), .inr (.inl (4, [.inl 107])), .inl 30, .inr (.inl (4, [.inl 109])), .inl 30, .inr (.inl (4, [.inl 111])), .inl 30, .inr (.inl (4, [.inl 113])), .inl 31, .inr (.inl (4, [.inl 115])), .inl 312, .inr (.inl (4, [.inl 117])), .inl 312, .inr (.inl (0, [.inl 119, .inl 121, .inl 123, .inl 125, .inr false, .inr false, .inr false, .inr false])), .inr (.inl (4, [.inl 120])), .inl 480, .inr (.inl (4, [.inl 202])), .inl 24, .inr (.inl (4, [.inl 204])), .inl 24, .inr (.inl (4, [.inl 126])), .inl 24, .inr (.inl (6, [.inl 128, .inl 130, .inl 132, .inl 134, .inr false])), .inr (.inl (4, [.inl 129])), .inl 1248, .inr (.inl (4, [.inl 131])), .inl 1248, .inr (.inl (4, [.inl 133])), .inl 312, .inr (.inl (4, [.inl 135])), .inl 312, .inl 6, .inl 24, .inl 24, .inl 24, .inl 31]
abbrev gN : Nat := 141
theorem gN_len : gKinds.length = gN := by decide +kernel
def gStrs : List (Nat × String) := [(73, "no such setting, or a value out of its range"), (93, "no such value"), (101, "group, first day or length out of range"), (109, "there are 24 tasks"), (120, "first day or length out of range"), (132, "an arrow joins two different tasks"), (140, "there is such an arrow, or there are 30 arrows"), (152, "no such thing about a task"), (188, "no such part"), (191, "no such thing about a part"), (196, "no such thing about an arrow"), (302, "no such task"), (307, "no such arrow"), (309, "no such band"), (311, "no such row")]
def gNum (n len : Nat) : Prop := gKinds[n]? = some (.inr (.inl (4, [.inl (n + 1)]))) ∧ gKinds[n + 1]? = some (.inl len) ∧ len ≤ 2000
def gPlan (b : Nat) : Prop := gKinds[b]? = some (.inr (.inl (5, [.inl (b + 1), .inl (b + 3), .inl (b + 5), .inl (b + 7), .inl (b + 9), .inl (b + 11), .inr false, .inr false]))) ∧ gNum (b + 1) 4 ∧ gNum (b + 3) 24 ∧ gNum (b + 5) 24 ∧ gNum (b + 7) 24 ∧ gNum (b + 9) 30 ∧ gNum (b + 11) 30
theorem gPlan.k {b : Nat} (h : gPlan b) : gKinds[b]? = some (.inr (.inl (5, [.inl (b + 1), .inl (b + 3), .inl (b + 5), .inl (b + 7), .inl (b + 9), .inl (b + 11), .inr false, .inr false]))) := h.1
theorem gPlan.n0 {b : Nat} (h : gPlan b) : gNum (b + 1) 4 := h.2.1
theorem gPlan.n1 {b : Nat} (h : gPlan b) : gNum (b + 3) 24 := h.2.2.1
theorem gPlan.n2 {b : Nat} (h : gPlan b) : gNum (b + 5) 24 := h.2.2.2.1
theorem gPlan.n3 {b : Nat} (h : gPlan b) : gNum (b + 7) 24 := h.2.2.2.2.1
theorem gPlan.n4 {b : Nat} (h : gPlan b) : gNum (b + 9) 30 := h.2.2.2.2.2.1
theorem gPlan.n5 {b : Nat} (h : gPlan b) : gNum (b + 11) 30 := h.2.2.2.2.2.2
def gBands (b : Nat) : Prop := gKinds[b]? = some (.inr (.inl (0, [.inl (b + 1), .inl (b + 3), .inl (b + 5), .inl (b + 7), .inr false, .inr false, .inr false, .inr false]))) ∧ gNum (b + 1) 480 ∧ gNum (b + 3) 24 ∧ gNum (b + 5) 24 ∧ gNum (b + 7) 24
theorem gBands.k {b : Nat} (h : gBands b) : gKinds[b]? = some (.inr (.inl (0, [.inl (b + 1), .inl (b + 3), .inl (b + 5), .inl (b + 7), .inr false, .inr false, .inr false, .inr false]))) := h.1
theorem gBands.n0 {b : Nat} (h : gBands b) : gNum (b + 1) 480 := h.2.1
theorem gBands.n1 {b : Nat} (h : gBands b) : gNum (b + 3) 24 := h.2.2.1
theorem gBands.n2 {b : Nat} (h : gBands b) : gNum (b + 5) 24 := h.2.2.2.1
theorem gBands.n3 {b : Nat} (h : gBands b) : gNum (b + 7) 24 := h.2.2.2.2
def gSheets (b : Nat) : Prop := gKinds[b]? = some (.inr (.inl (6, [.inl (b + 1), .inl (b + 3), .inl (b + 5), .inl (b + 7), .inr false]))) ∧ gNum (b + 1) 1248 ∧ gNum (b + 3) 1248 ∧ gNum (b + 5) 312 ∧ gNum (b + 7) 312
theorem gSheets.k {b : Nat} (h : gSheets b) : gKinds[b]? = some (.inr (.inl (6, [.inl (b + 1), .inl (b + 3), .inl (b + 5), .inl (b + 7), .inr false]))) := h.1
theorem gSheets.n0 {b : Nat} (h : gSheets b) : gNum (b + 1) 1248 := h.2.1
theorem gSheets.n1 {b : Nat} (h : gSheets b) : gNum (b + 3) 1248 := h.2.2.1
theorem gSheets.n2 {b : Nat} (h : gSheets b) : gNum (b + 5) 312 := h.2.2.2.1
theorem gSheets.n3 {b : Nat} (h : gSheets b) : gNum (b + 7) 312 := h.2.2.2.2
def gExits (b : Nat) : Prop := gKinds[b]? = some (.inr (.inl (2, [.inl (b + 1), .inl (b + 3), .inl (b + 5), .inl (b + 7), .inl (b + 9), .inl (b + 11), .inr false]))) ∧ gNum (b + 1) 30 ∧ gNum (b + 3) 30 ∧ gNum (b + 5) 30 ∧ gNum (b + 7) 31 ∧ gNum (b + 9) 312 ∧ gNum (b + 11) 312
theorem gExits.k {b : Nat} (h : gExits b) : gKinds[b]? = some (.inr (.inl (2, [.inl (b + 1), .inl (b + 3), .inl (b + 5), .inl (b + 7), .inl (b + 9), .inl (b + 11), .inr false]))) := h.1
theorem gExits.n0 {b : Nat} (h : gExits b) : gNum (b + 1) 30 := h.2.1
theorem gExits.n1 {b : Nat} (h : gExits b) : gNum (b + 3) 30 := h.2.2.1
theorem gExits.n2 {b : Nat} (h : gExits b) : gNum (b + 5) 30 := h.2.2.2.1
theorem gExits.n3 {b : Nat} (h : gExits b) : gNum (b + 7) 31 := h.2.2.2.2.1
theorem gExits.n4 {b : Nat} (h : gExits b) : gNum (b + 9) 312 := h.2.2.2.2.2.1
theorem gExits.n5 {b : Nat} (h : gExits b) : gNum (b + 11) 312 := h.2.2.2.2.2.2
def gChains (b : Nat) : Prop := gKinds[b]? = some (.inr (.inl (1, [.inl (b + 1)]))) ∧ gNum (b + 1) 24
theorem gChains.k {b : Nat} (h : gChains b) : gKinds[b]? = some (.inr (.inl (1, [.inl (b + 1)]))) := h.1
theorem gChains.n0 {b : Nat} (h : gChains b) : gNum (b + 1) 24 := h.2
def gText (b : Nat) : Prop := gKinds[b]? = some (.inr (.inl (7, [.inl (b + 1), .inr false, .inr false, .inr false, .inr false]))) ∧ gNum (b + 1) 150
theorem gText.k {b : Nat} (h : gText b) : gKinds[b]? = some (.inr (.inl (7, [.inl (b + 1), .inr false, .inr false, .inr false, .inr false]))) := h.1
theorem gText.n0 {b : Nat} (h : gText b) : gNum (b + 1) 150 := h.2
theorem gPlan_1 : gPlan 1 := ⟨rfl, ⟨rfl, rfl, by decide⟩, ⟨rfl, rfl, by decide⟩, ⟨rfl, rfl, by decide⟩, ⟨rfl, rfl, by decide⟩, ⟨rfl, rfl, by decide⟩, ⟨rfl, rfl, by decide⟩⟩
theorem gPlan_14 : gPlan 14 := ⟨rfl, ⟨rfl, rfl, by decide⟩, ⟨rfl, rfl, by decide⟩, ⟨rfl, rfl, by decide⟩, ⟨rfl, rfl, by decide⟩, ⟨rfl, rfl, by decide⟩, ⟨rfl, rfl, by decide⟩⟩
theorem gPlan_29 : gPlan 29 := ⟨rfl, ⟨rfl, rfl, by decide⟩, ⟨rfl, rfl, by decide⟩, ⟨rfl, rfl, by decide⟩, ⟨rfl, rfl, by decide⟩, ⟨rfl, rfl, by decide⟩, ⟨rfl, rfl, by decide⟩⟩
theorem gPlan_42 : gPlan 42 := ⟨rfl, ⟨rfl, rfl, by decide⟩, ⟨rfl, rfl, by decide⟩, ⟨rfl, rfl, by decide⟩, ⟨rfl, rfl, by decide⟩, ⟨rfl, rfl, by decide⟩, ⟨rfl, rfl, by decide⟩⟩
theorem gPlan_55 : gPlan 55 := ⟨rfl, ⟨rfl, rfl, by decide⟩, ⟨rfl, rfl, by decide⟩, ⟨rfl, rfl, by decide⟩, ⟨rfl, rfl, by decide⟩, ⟨rfl, rfl, by decide⟩, ⟨rfl, rfl, by decide⟩⟩
theorem gPlan_68 : gPlan 68 := ⟨rfl, ⟨rfl, rfl, by decide⟩, ⟨rfl, rfl, by decide⟩, ⟨rfl, rfl, by decide⟩, ⟨rfl, rfl, by decide⟩, ⟨rfl, rfl, by decide⟩, ⟨rfl, rfl, by decide⟩⟩
theorem gBands_87 : gBands 87 := ⟨rfl, ⟨rfl, rfl, by decide⟩, ⟨rfl, rfl, by decide⟩, ⟨rfl, rfl, by decide⟩, ⟨rfl, rfl, by decide⟩⟩
theorem gSheets_96 : gSheets 96 := ⟨rfl, ⟨rfl, rfl, by decide⟩, ⟨rfl, rfl, by decide⟩, ⟨rfl, rfl, by decide⟩, ⟨rfl, rfl, by decide⟩⟩
theorem gSheets_127 : gSheets 127 := ⟨rfl, ⟨rfl, rfl, by decide⟩, ⟨rfl, rfl, by decide⟩, ⟨rfl, rfl, by decide⟩, ⟨rfl, rfl, by decide⟩⟩
theorem gExits_105 : gExits 105 := ⟨rfl, ⟨rfl, rfl, by decide⟩, ⟨rfl, rfl, by decide⟩, ⟨rfl, rfl, by decide⟩, ⟨rfl, rfl, by decide⟩, ⟨rfl, rfl, by decide⟩, ⟨rfl, rfl, by decide⟩⟩
theorem gChains_84 : gChains 84 := ⟨rfl, ⟨rfl, rfl, by decide⟩⟩
theorem gText_81 : gText 81 := ⟨rfl, ⟨rfl, rfl, by decide⟩⟩
def gW (G : gAd) (σ : gSt) (μ : gLg) : va_W := gKinds.mapIdx (fun k t => (G.1 k, gE G σ μ k t))
theorem gW_get {G : gAd} {σ : gSt} {μ : gLg} {k : Nat} {t : gKd} (h : gKinds[k]? = some t) : (gW G σ μ)[k]? = some (G.1 k, gE G σ μ k t) := by
  rw [gW, List.getElem?_mapIdx, h]
  rfl
theorem gW_inv {G : gAd} {σ : gSt} {μ : gLg} {k : Nat} {q : Nat × va_E} (h : (gW G σ μ)[k]? = some q) : ∃ t, gKinds[k]? = some t ∧ q = (G.1 k, gE G σ μ k t) := by
  rw [gW, List.getElem?_mapIdx] at h
  cases hk : gKinds[k]? with
  | none => rw [hk] at h; cases h
  | some t => rw [hk] at h; cases h; exact ⟨t, rfl, rfl⟩
theorem gW_set {G : gAd} {σ σ' : gSt} {μ μ' : gLg} {k : Nat} {t : gKd} {e : va_E} (ht : gKinds[k]? = some t) (he : gE G σ' μ' k t = e) (ho : ∀ (j : Nat) (t' : gKd), j ≠ k → gE G σ' μ' j t' = gE G σ μ j t') : (gW G σ μ).set k (G.1 k, e) = gW G σ' μ' := by
  apply List.ext_getElem?
  intro j
  rw [List.getElem?_set]
  by_cases hj : k = j
  · subst hj
    have hl : k < (gW G σ μ).length := by
      rw [gW, List.length_mapIdx]
      exact (List.getElem?_eq_some_iff.mp ht).1
    rw [if_pos rfl, if_pos hl, gW_get ht, he]
  · rw [if_neg hj]
    unfold gW
    rw [List.getElem?_mapIdx, List.getElem?_mapIdx]
    cases gKinds[j]? with
    | none => rfl
    | some t' =>
      show some (G.1 j, gE G σ μ j t') = some (G.1 j, gE G σ' μ' j t')
      rw [ho j t' (fun h => hj h.symm)]
theorem gE_up {G : gAd} {σ : gSt} {μ : gLg} {k i : Nat} {v : Int} (j : Nat) (t : gKd) (h : j ≠ k) : gE G (gUp σ k i v) μ j t = gE G σ μ j t := by
  have hu : ∀ i', gUp σ k i v j i' = σ j i' := fun i' => by simp [gUp, h]
  rcases t with n | o | rs | n
  · simp only [gE, hu]
  · show Sum.inr _ = Sum.inr _
    congr 2
    congr 1
    funext i' t'
    rcases t' with j' | b
    · rfl
    · cases b
      · simp only [gSl, hu]
      · rfl
  · rfl
  · rfl
theorem gE_ul {G : gAd} {σ : gSt} {μ : gLg} {k : Nat} {v : Int64} (j : Nat) (t : gKd) (h : j ≠ k) : gE G σ (gUl μ k v) j t = gE G σ μ j t := by
  have hu : gUl μ k v j = μ j := by simp [gUl, h]
  rcases t with n | o | rs | n
  · rfl
  · show Sum.inr _ = Sum.inr _
    congr 2
    congr 1
    funext i' t'
    rcases t' with j' | b
    · rfl
    · cases b
      · rfl
      · simp only [gSl, hu]
  · rfl
  · simp only [gE, hu]
theorem gFs_up {ad : Nat → Nat} {σ : gSt} {μ : gLg} {k i : Nat} {v : Int} {sl : List (Nat ⊕ Bool)} (hi : sl[i]? = some (.inr false)) : sl.mapIdx (fun i t => gSl ad (gUp σ k i v) μ k i t) = sl.mapIdx (fun i t => gSl ad (gUp σ k i v) μ k i t) := rfl
theorem gO_up {G : gAd} {σ : gSt} {μ : gLg} {k i : Nat} {v : Int} {o : Nat × List (Nat ⊕ Bool)} (hi : o.2[i]? = some (.inr false)) : gE G (gUp σ k i v) μ k (.inr (.inl o)) = .inr (o.1, (o.2.mapIdx (fun i t => gSl G.1 σ μ k i t)).set i (.int (gI v))) := by
  show Sum.inr _ = Sum.inr _
  congr 2
  apply List.ext_getElem?
  intro j
  rw [List.getElem?_set, List.getElem?_mapIdx, List.getElem?_mapIdx, List.length_mapIdx]
  have hl : i < o.2.length := (List.getElem?_eq_some_iff.mp hi).1
  by_cases hj : i = j
  · subst hj
    rw [if_pos rfl, if_pos hl, hi]
    simp [gSl, gUp]
  · rw [if_neg hj]
    cases o.2[j]? with
    | none => rfl
    | some t =>
      rcases t with j' | b
      · rfl
      · cases b
        · have : ¬ j = i := fun h => hj h.symm
          simp [gSl, gUp, this]
        · rfl
theorem gO_ul {G : gAd} {σ : gSt} {μ : gLg} {k i : Nat} {v : Int64} {o : Nat × List (Nat ⊕ Bool)} (hi : o.2[i]? = some (.inr true)) (hu : ∀ j, o.2[j]? = some (.inr true) → j = i) : gE G σ (gUl μ k v) k (.inr (.inl o)) = .inr (o.1, (o.2.mapIdx (fun i t => gSl G.1 σ μ k i t)).set i (.long v)) := by
  show Sum.inr _ = Sum.inr _
  congr 2
  apply List.ext_getElem?
  intro j
  rw [List.getElem?_set, List.getElem?_mapIdx, List.getElem?_mapIdx, List.length_mapIdx]
  have hl : i < o.2.length := (List.getElem?_eq_some_iff.mp hi).1
  by_cases hj : i = j
  · subst hj
    rw [if_pos rfl, if_pos hl, hi]
    simp [gSl, gUl]
  · rw [if_neg hj]
    cases hb : o.2[j]? with
    | none => rfl
    | some t =>
      rcases t with j' | b
      · rfl
      · cases b
        · rfl
        · exact absurd (hu j hb).symm hj
theorem gA_up {G : gAd} {σ : gSt} {μ : gLg} {k : Nat} {i : Nat} {v : Int} {n : Nat} : gE G (gUp σ k i v) μ k (.inl n) = .inl (G.2.1, n, .inl (upd (fun i => gI (σ k i)) i (gI v))) := by
  show Sum.inl _ = Sum.inl _
  congr 4
  funext j
  by_cases h : j = i
  · subst h
    simp [gUp, upd]
  · simp [gUp, upd, h]
/-- the class ids of the arrays -/
def gTys (G : gAd) : List (ClassId × FieldType) := [(G.2.1, .int), (G.2.2.1, .object "TaskSheets$Plan")]
/-- the cells of the system -/
def gA (G : gAd) : Nat → Prop := fun q => ∃ k, k < gN ∧ q = G.1 k
/-- the tables that nobody writes -/
def gTab : List (String × List Int) := [("SMALLEST", [3, 5, 0, 0]), ("GREATEST", [20, 60, 1, 1]), ("INITIAL", [8, 20, 1, 0])]
def gZt (A : Nat → Prop) (U : State) (H : Heap) (q : String × List Int) : Prop := ∃ t, va_Z "TaskSheets" q.1 "[I" (.ref t) A U H ∧ va_T .int t q.2.length (fun j => .int (gI (q.2.getD j 0))) A U H
def gNestM : List (String × Nat × MethodName × String) := [(RX8, 28, yX7_init, RX8), (RX8, 35, yX1_init, RX8), (RX8, 42, yX0_init, RX8), (RX8, 49, yX6_init, RX8), (RX8, 56, yX2_init, RX8), (RX6, 64, yX8_stripOfDay, RX8), (RX2, 74, yX8_stripOfDay, RX8)]
def gNestF : List (String × Nat × String × String × String × String) := [(RX5, 35, "TaskSheets", "INITIAL", "[I", "TaskSheets")]
def gCast : List (String × String) := [("java/lang/IllegalArgumentException", "java/lang/IllegalArgumentException"), ("java/lang/IllegalStateException", "java/lang/IllegalStateException"), ("java/lang/IndexOutOfBoundsException", "java/lang/IndexOutOfBoundsException")]
def gNoCast : List (String × String) := [("java/lang/IllegalArgumentException", "java/lang/IllegalStateException"), ("java/lang/IllegalArgumentException", "java/lang/IndexOutOfBoundsException"), ("java/lang/IllegalStateException", "java/lang/IllegalArgumentException"), ("java/lang/IllegalStateException", "java/lang/IndexOutOfBoundsException"), ("java/lang/IndexOutOfBoundsException", "java/lang/IllegalArgumentException"), ("java/lang/IndexOutOfBoundsException", "java/lang/IllegalStateException")]
def gDecl : List MethodName := [⟨"java/lang/RuntimeException", "<init>", "(Ljava/lang/String;)V"⟩, ⟨"java/lang/Exception", "<init>", "(Ljava/lang/String;)V"⟩, ⟨"java/lang/Throwable", "<init>", "(Ljava/lang/String;)V"⟩]
/-- what stands in the heap beside the system's cells: tables, the two statics of Throwable, the texts -/
def gZs (A : Nat → Prop) (U : State) (H : Heap) : Prop := (∀ q ∈ gTab, gZt A U H q) ∧ vx_Zq Bundle.tN "UNASSIGNED_STACK" Bundle.steD A U H ∧ vx_Zq Bundle.tN "SUPPRESSED_SENTINEL" Bundle.listD A U H ∧ (∀ q ∈ gStrs, ∃ a, vk_R "TaskSheets" q.1 q.2 a U) ∧ (∀ q ∈ gNestM, va_Nw (.methodLinkNest q.1 q.2.1 q.2.2.1 q.2.2.2) U) ∧ (∀ q ∈ gNestF, va_Nw (.fieldLinkNest q.1 q.2.1 q.2.2.1 q.2.2.2.1 q.2.2.2.2.1 q.2.2.2.2.2) U) ∧ (∀ q ∈ gCast, va_Nw (.castable q.1 q.2) U) ∧ (∀ q ∈ gNoCast, (Cond.castable q.1 q.2).before #[] U = false) ∧ (∀ y ∈ gDecl, va_Nw (.declares y) U)
theorem gCast_vm {a b : String} {s U : State} (hvm : s.vm.Alike U.vm) : (Cond.castable a b).before #[] U = (Cond.castable a b).before #[] s := by
  have e := Cond.onTables_vm (A := #[]) (A' := #[]) (U := U) (U' := s) U.vm (Cond.castable a b) rfl
  have h1 : U.setVm U.vm = U := rfl
  rw [h1] at e
  rw [e, Cond.castable_setVm hvm]
theorem gZs.go {A : Nat → Prop} {s U : State} {H0 H : Heap} {locs : List Loc} (h : gZs A s H0) (hS : va_S A H0 H locs) (hW : s.WarmedH U.vm) : gZs A U H := by
  have hq : ∀ a : Nat, a < H0.size → ¬ A a → H[a]? = H0[a]? := fun a h1 h2 => hS.2.1 a h1 h2
  refine ⟨fun q hm => ?_, ?_, ?_, fun q hm => ?_, fun q hm => (h.2.2.2.2.1 q hm).warmM hW, fun q hm => (h.2.2.2.2.2.1 q hm).warmF hW, fun q hm => (h.2.2.2.2.2.2.1 q hm).warmC hW, fun q hm => by rw [gCast_vm hW.alike]; exact h.2.2.2.2.2.2.2.1 q hm, fun y hm => (h.2.2.2.2.2.2.2.2 y hm).warmD hW⟩
  · obtain ⟨t, h1, h2⟩ := h.1 q hm
    exact ⟨t, (h1.moved hW.alike).kept hq, (h2.moved hW.alike).kept hq⟩
  · exact ⟨(h.2.1.1.moved hW.alike).kept hq, (h.2.1.2.moved hW.alike).kept hq⟩
  · exact ⟨(h.2.2.1.1.moved hW.alike).kept hq, (h.2.2.1.2.moved hW.alike).kept hq⟩
  · obtain ⟨a, h1⟩ := h.2.2.2.1 q hm
    exact ⟨a, h1.warm hW⟩
def gX (D : va_G) (G : gAd) (U : State) : Prop := va_K D vwCl (gTys G) U ∧ (∀ i j, i < gN → j < gN → G.1 i = G.1 j → i = j) ∧ gZs (gA G) U U.heap
def gH (D : va_G) (G : gAd) (s : State) (H : Heap) (locs : List Loc) (σ : gSt) (μ : gLg) : Prop := va_P D vwCl (gW G σ μ) H ∧ va_S (gA G) s.heap H locs
theorem gN_of {k : Nat} {t : gKd} (h : gKinds[k]? = some t) : k < gN := by
  rw [← gN_len]
  exact (List.getElem?_eq_some_iff.mp h).1
theorem gX.d {D : va_G} {G : gAd} {s : State} (hX : gX D G s) (σ : gSt) (μ : gLg) : va_D (gA G) (gW G σ μ) := by
  refine ⟨fun i j p q hi hj h => ?_, fun k q hk => ?_⟩
  · obtain ⟨ti, h1, rfl⟩ := gW_inv hi
    obtain ⟨tj, h2, rfl⟩ := gW_inv hj
    exact hX.2.1 i j (gN_of h1) (gN_of h2) h
  · obtain ⟨t, h1, rfl⟩ := gW_inv hk
    exact ⟨k, gN_of h1, rfl⟩
/-- a method's start, its end -/
def gPc (D : va_G) (G : gAd) (vs : List Value) (σ : gSt) (μ : gLg) : Array Value → State → Prop := va_Pc vs (fun U => va_P D vwCl (gW G σ μ) U.heap ∧ gX D G U)
def gB (D : va_G) (G : gAd) (σ : gSt) (μ : gLg) : Unit → State → Prop := fun _ t => va_P D vwCl (gW G σ μ) t.heap
def gQi (D : va_G) (G : gAd) (r : Int) (σ : gSt) (μ : gLg) : Array Value → State → Outcome → State → Prop := va_Qi (fun (x : Int32) (_ : Unit) => x = gI r) (gB D G σ μ) (gA G)
def gQl (D : va_G) (G : gAd) (r : Int64) (σ : gSt) (μ : gLg) : Array Value → State → Outcome → State → Prop := va_Ql (fun (x : Int64) (_ : Unit) => x = r) (gB D G σ μ) (gA G)
def gQv (D : va_G) (G : gAd) (σ : gSt) (μ : gLg) : Array Value → State → Outcome → State → Prop := va_Qv (fun (_ : Unit) => True) (gB D G σ μ) (gA G)
def gQq (D : va_G) (G : gAd) (r : Option Nat) (σ : gSt) (μ : gLg) : Array Value → State → Outcome → State → Prop := va_Qq (fun (x : Option Nat) (_ : Unit) => x = r.map G.1) (gB D G σ μ) (gA G)
theorem gX.calling {D : va_G} {G : gAd} {U : State} (g : JFrame) (mk : MethodId) (a : Array Value) (h : gX D G U) : gX D G (U.calling g mk a) := by
  refine ⟨va_K.moved (u := U) (U := U.calling g mk a) (Vm.Alike.refl U.vm) h.1, h.2.1, ?_⟩
  have h3 := h.2.2
  refine ⟨fun q hm => ?_, ⟨va_Zq.moved (u := U) (U := U.calling g mk a) (Vm.Alike.refl U.vm) h3.2.1.1, vx_L.moved (u := U) (U := U.calling g mk a) (Vm.Alike.refl U.vm) h3.2.1.2⟩, ⟨va_Zq.moved (u := U) (U := U.calling g mk a) (Vm.Alike.refl U.vm) h3.2.2.1.1, vx_L.moved (u := U) (U := U.calling g mk a) (Vm.Alike.refl U.vm) h3.2.2.1.2⟩, fun q hm => ?_, fun q hm => va_Nw.same rfl rfl (h3.2.2.2.2.1 q hm), fun q hm => va_Nw.same rfl rfl (h3.2.2.2.2.2.1 q hm), fun q hm => va_Nw.same rfl rfl (h3.2.2.2.2.2.2.1 q hm), fun q hm => by rw [gCast_vm (s := U) (U := U.calling g mk a) (Vm.Alike.refl U.vm)]; exact h3.2.2.2.2.2.2.2.1 q hm, fun y hm => va_Nw.same rfl rfl (h3.2.2.2.2.2.2.2.2 y hm)⟩
  · obtain ⟨t, h1, h2⟩ := h3.1 q hm
    exact ⟨t, va_Z.moved (u := U) (U := U.calling g mk a) (Vm.Alike.refl U.vm) h1, va_T.moved (u := U) (U := U.calling g mk a) (Vm.Alike.refl U.vm) h2⟩
  · obtain ⟨a9, h1⟩ := h3.2.2.2.1 q hm
    exact ⟨a9, vk_R.same (u := U) (U := U.calling g mk a) rfl h1⟩
theorem gPc_blind {D : va_G} {G : gAd} {vs : List Value} {σ : gSt} {μ : gLg} : FrameBlind (gPc D G vs σ μ) := by
  intro a U g mk h
  exact ⟨h.1, h.2.1, h.2.2.calling g mk a⟩
theorem gX.go {D : va_G} {G : gAd} {s U : State} {H : Heap} {locs : List Loc} (hX : gX D G s) (hS : va_S (gA G) s.heap H locs) (hU : U.heap = H) (hW : s.WarmedH U.vm) : gX D G U :=
  ⟨va_K.moved hW.alike hX.1, hX.2.1, by rw [hU]; exact hX.2.2.go hS hW⟩
/-- words: one list for all methods -/
def gWs (y : MethodName) (c : ByteArray) (n : Nat) (r : Option FieldType) : List Cond := Cond.code y c n r :: gLW
theorem gGood1 {w : Cond} (h : w ∈ gLW) (y : MethodName) (c : ByteArray) (n : Nat) (r : Option FieldType) : w ∈ gWs y c n r ∧ ((w.onTables && w.keeps) = true ∨ ∃ ty, w = .arrayClass ty) := ⟨List.mem_cons_of_mem _ h, good_of_word (gLW_good h)⟩
theorem gGood {y y' : MethodName} {c c' : ByteArray} {n n' : Nat} {r r' : Option FieldType} (h : Cond.code y' c' n' r' ∈ gLW) : GoodIn (gWs y c n r) (gWs y' c' n' r') := by
  intro w hw
  rcases List.mem_cons.mp hw with rfl | hw
  · exact gGood1 h _ _ _ _
  · exact gGood1 hw _ _ _ _
theorem gGoodV {y y' : MethodName} {c c' : ByteArray} {n n' : Nat} {r r' : Option FieldType} {own C : String} {idx : Nat} (h1 : Cond.methodLink own idx y' ∈ gLW) (h2 : Cond.instanceMethod y' ∈ gLW) (h3 : Cond.selects C y' y' ∈ gLW) (h4 : Cond.initialized C ∈ gLW) (h : Cond.code y' c' n' r' ∈ gLW) : GoodIn (gWs y c n r) (wsV own idx C y' (gWs y' c' n' r')) := by
  intro w hw
  rcases List.mem_append.mp hw with hw | hw
  · simp only [List.mem_cons, List.not_mem_nil, or_false] at hw
    rcases hw with rfl | rfl | rfl | rfl
    · exact gGood1 h1 _ _ _ _
    · exact gGood1 h2 _ _ _ _
    · exact gGood1 h3 _ _ _ _
    · exact gGood1 h4 _ _ _ _
  · exact gGood h w hw
theorem gGoodS {y y' : MethodName} {c c' : ByteArray} {n n' : Nat} {r r' : Option FieldType} {own : String} {idx : Nat} (h1 : Cond.methodLink own idx y' ∈ gLW) (h2 : Cond.static y' ∈ gLW) (h4 : Cond.initialized y'.cls ∈ gLW) (h : Cond.code y' c' n' r' ∈ gLW) : GoodIn (gWs y c n r) (va_wsS own idx y' (gWs y' c' n' r')) := by
  intro w hw
  rcases List.mem_append.mp hw with hw | hw
  · simp only [List.mem_cons, List.not_mem_nil, or_false] at hw
    rcases hw with rfl | rfl | rfl
    · exact gGood1 h1 _ _ _ _
    · exact gGood1 h2 _ _ _ _
    · exact gGood1 h4 _ _ _ _
  · exact gGood h w hw
