/-! the cells that the law's start makes, as the system's world -/
def enG (cI cP : ClassId) (q0 q1 q2 q3 q4 q5 : Nat) (u : Nat → Nat) : gAd := (fun k => if k = 0 then q0 else if k < 136 then u k else if k = 136 then q1 else if k = 137 then q2 else if k = 138 then q3 else if k = 139 then q4 else if k = 140 then q5 else if k = 202 then u 122 else u 124, cI, cP, cI)
def enF (k : Nat) : Nat → Int32 := if k = 3 ∨ k = 16 ∨ k = 31 ∨ k = 44 ∨ k = 57 ∨ k = 70 then gInit else fun _ => 0
theorem enF_i (i : Nat) : gI (if i = 0 then 8 else if i = 1 then 20 else if i = 2 then 1 else 0) = gInit i := by
  match i with
  | 0 => rfl
  | 1 => rfl
  | 2 => rfl
  | 3 => rfl
  | n + 4 => rfl
theorem enF_eq (k : Nat) : (fun i => gI (puS0 k i)) = enF k := by
  funext i
  unfold puS0 enF
  by_cases h1 : k = 3 ∨ k = 16 ∨ k = 31 ∨ k = 44 ∨ k = 57 ∨ k = 70
  · rw [if_pos h1, if_pos h1]
    exact enF_i i
  · rw [if_neg h1, if_neg h1]
    rfl
def enH (ad : Nat → Nat) (rs : List Nat) : Nat → Option Nat := match rs with
  | [a, b, c, d] => va_up (va_up (va_up (va_up (fun _ => none) 0 (some (ad a))) 1 (some (ad b))) 2 (some (ad c))) 3 (some (ad d))
  | rs => fun i => (rs[i]?).map ad
theorem enH_eq (ad : Nat → Nat) (a b c d : Nat) : (fun i => (([a, b, c, d] : List Nat)[i]?).map ad) = enH ad [a, b, c, d] := by
  funext i
  match i with
  | 0 => rfl
  | 1 => rfl
  | 2 => rfl
  | 3 => rfl
  | n + 4 => simp [enH, va_up]
def enSl (ad : Nat → Nat) : Nat ⊕ Bool → Value
  | .inl j => .ref (ad j)
  | .inr false => .int 0
  | .inr true => .long 0
def enE (G : gAd) (k : Nat) : gKd → va_E
  | .inl n => .inl (G.2.1, n, .inl (enF k))
  | .inr (.inl o) => .inr (o.1, o.2.map (enSl G.1))
  | .inr (.inr (.inl rs)) => .inl (G.2.2.1, rs.length, .inr (.inr (.inr (.inr (enH G.1 rs)))))
  | .inr (.inr (.inr n)) => .inl (G.2.2.2, n, .inr (.inl (fun _ => 0)))
theorem en_map {α β : Type} (f : Nat → α → β) (g : α → β) (l : List α) (h : ∀ i a, f i a = g a) : l.mapIdx f = l.map g := by
  apply List.ext_getElem?
  intro i
  rw [List.getElem?_mapIdx, List.getElem?_map]
  cases l[i]? with
  | none => rfl
  | some a => simp only [Option.map_some, h]
theorem en_obj {k : Nat} {o : Nat × List (Nat ⊕ Bool)} (h : gKinds[k]? = some (.inr (.inl o))) : ¬ (k = 3 ∨ k = 16 ∨ k = 31 ∨ k = 44 ∨ k = 57 ∨ k = 70) := by
  rintro (rfl | rfl | rfl | rfl | rfl | rfl)
  · rw [show gKinds[3]? = some (.inl 4) by decide +kernel] at h; cases h
  · rw [show gKinds[16]? = some (.inl 4) by decide +kernel] at h; cases h
  · rw [show gKinds[31]? = some (.inl 4) by decide +kernel] at h; cases h
  · rw [show gKinds[44]? = some (.inl 4) by decide +kernel] at h; cases h
  · rw [show gKinds[57]? = some (.inl 4) by decide +kernel] at h; cases h
  · rw [show gKinds[70]? = some (.inl 4) by decide +kernel] at h; cases h
theorem en_rows : ∀ t ∈ gKinds, ∀ rs : List Nat, t = .inr (.inr (.inl rs)) → rs = [29, 42, 55, 68] := by
  have h : ∀ t ∈ gKinds, (match t with | .inr (.inr (.inl rs)) => decide (rs = [29, 42, 55, 68]) | _ => true) = true := by decide +kernel
  intro t ht rs e
  subst e
  exact of_decide_eq_true (h _ ht)
theorem enE_eq {G : gAd} {k : Nat} {t : gKd} (h : gKinds[k]? = some t) : gE G puS0 (fun _ => 0) k t = enE G k t := by
  match t, h with
  | .inl n, h =>
    show (Sum.inl (G.2.1, n, Sum.inl (fun i => gI (puS0 k i))) : va_E) = .inl (G.2.1, n, .inl (enF k))
    rw [enF_eq]
  | .inr (.inl o), h =>
    show (Sum.inr (o.1, o.2.mapIdx (fun i t => gSl G.1 puS0 (fun _ => 0) k i t)) : va_E) = .inr (o.1, o.2.map (enSl G.1))
    rw [en_map _ (enSl G.1) o.2 (fun i a => by
      match a with
      | .inl j => rfl
      | .inr false =>
        show Value.int (gI (puS0 k i)) = .int 0
        rw [puS0_z (en_obj h)]
        rfl
      | .inr true => rfl)]
  | .inr (.inr (.inl rs)), h =>
    have e := en_rows _ (List.mem_of_getElem? h) rs rfl
    subst e
    show (Sum.inl (G.2.2.1, 4, Sum.inr (Sum.inr (Sum.inr (Sum.inr (fun i => (([29, 42, 55, 68] : List Nat)[i]?).map G.1))))) : va_E) = _
    rw [enH_eq]
    rfl
  | .inr (.inr (.inr n)), h => rfl
def enL {α β : Type} (f : Nat → α → β) : Nat → List α → List β
  | _, [] => []
  | j, a :: r => f j a :: enL f (j + 1) r
theorem enL_get {α β : Type} (f : Nat → α → β) (l : List α) : ∀ (j i : Nat), (enL f j l)[i]? = (l[i]?).map (f (j + i)) := by
  induction l with
  | nil => intro j i; rfl
  | cons a r ih =>
    intro j i
    cases i with
    | zero => rfl
    | succ i =>
      show (enL f (j + 1) r)[i]? = (r[i]?).map (f (j + (i + 1)))
      rw [ih, show j + 1 + i = j + (i + 1) by omega]
theorem en_gW (G : gAd) : gW G puS0 (fun _ => 0) = enL (fun k t => (G.1 k, enE G k t)) 0 gKinds := by
  apply List.ext_getElem?
  intro k
  rw [enL_get, Nat.zero_add, gW, List.getElem?_mapIdx]
  cases h : gKinds[k]? with
  | none => rfl
  | some t => simp only [Option.map_some]; rw [enE_eq h]
set_option maxHeartbeats 8000000 in
set_option maxRecDepth 100000 in
theorem en_big (cI cP : ClassId) (q0 q1 q2 q3 q4 q5 : Nat) (u : Nat → Nat) : enL (fun k t => ((enG cI cP q0 q1 q2 q3 q4 q5 u).1 k, enE (enG cI cP q0 q1 q2 q3 q4 q5 u) k t)) 0 gKinds = ((((wTask cI cP q0 u ++ [(q1, .inl (cI, 6, .inl (fun _ => 0)))]) ++ [(q2, .inl (cI, 24, .inl (fun _ => 0)))]) ++ [(q3, .inl (cI, 24, .inl (fun _ => 0)))]) ++ [(q4, .inl (cI, 24, .inl (fun _ => 0)))]) ++ [(q5, .inl (cI, 31, .inl (fun _ => 0)))] := rfl
