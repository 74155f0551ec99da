/-! what is told of a task, a sheet, an arrow, a plan: class and reference alike -/
def puTA (s : Nat → Int) (t : Nat) : Nat → Int
  | 0 => s (5 + 3 * t)
  | 1 => s (6 + 3 * t)
  | 2 => s (7 + 3 * t)
  | 3 => puLast s t
  | 4 => (puBand s (s 0).toNat t : Int)
  | 5 => (puRowOf s (s 0).toNat t : Int)
  | _ => (puT s (s 1) t : Int) - (puF s (s 1) t : Int) + 1
def puSA (s : Nat → Int) (j : Nat) : Nat → Int
  | 0 => ((puOrd s j / 52 : Nat) : Int)
  | 1 => ((puOrd s j % 52 : Nat) : Int)
  | 2 => (puCnt s (s 0).toNat (s 1) (puOrd s j) : Int)
  | 3 => (puC (puStP s (s 0).toNat (s 1) (puRk s (s 0).toNat (s 1) j)) (s 77).toNat : Int)
  | _ => (puC (puDrP s (s 0).toNat (s 1) (puRk s (s 0).toNat (s 1) j)) (s 77).toNat : Int)
def puLt01 (s : Nat → Int) (a : Nat) : Int := if s (6 + 3 * puTo s a) ≤ puLast s (puFm s a) then 1 else 0
def puAA (s : Nat → Int) (a : Nat) : Nat → Int
  | 0 => (puFm s a : Int)
  | 1 => (puTo s a : Int)
  | 2 => puLv s (s 0).toNat (s 1) a
  | 3 => puAv s (s 0).toNat (s 1) a
  | 4 => puXn s (s 0).toNat (s 1) a
  | _ => puLt01 s a
def puVA (s : Nat → Int) (w : Nat) : Int := if w < 5 then s w else s 77
section PUT
variable {σ : gSt} {s : Nat → Int}
theorem pu_partsC (ho : puOk s) (hp : puPl σ 1 s) {t : Nat} (ht : (t : Int) < s 4) : DX8_partsOf σ (t : Int) = some ((puT s (s 1) t : Int) - (puF s (s 1) t : Int) + 1) := by
  have hD := ho.days
  have l1 := ho.last ht
  have l2 := ho.f ht
  unfold DX8_partsOf
  rw [pu_set1 hp, Option.bind_some, pu_last ho hp ht, Option.bind_some, pu_strip (by omega) (by omega) (by omega) (by omega), Option.bind_some, pu_first ho hp ht, Option.bind_some, pu_strip (by omega) (by omega) (by omega) (by omega), Option.bind_some, puT_e ho hD ht, puF_e ho hD ht]
theorem pu_tA_C (ho : puOk s) (h : puCV σ s) {t w : Nat} (ht : (t : Int) < s 4) (hw : w < 7) : DX8_numberOfTask σ (t : Int) (w : Int) = some (puTA s t w) := by
  unfold DX8_numberOfTask
  rcases (show w = 0 ∨ w = 1 ∨ w = 2 ∨ w = 3 ∨ w = 4 ∨ w = 5 ∨ w = 6 by omega) with rfl | rfl | rfl | rfl | rfl | rfl | rfl
  · rw [pu_ifT (by decide) (by decide) (by decide), pu_group ho h.1 ht]; rfl
  · rw [pu_ifF (by decide) (by decide) (by decide), pu_ifT (by decide) (by decide) (by decide), pu_first ho h.1 ht]; rfl
  · rw [pu_ifF (by decide) (by decide) (by decide), pu_ifF (by decide) (by decide) (by decide), pu_ifT (by decide) (by decide) (by decide), pu_length ho h.1 ht]; rfl
  · rw [pu_ifF (by decide) (by decide) (by decide), pu_ifF (by decide) (by decide) (by decide), pu_ifF (by decide) (by decide) (by decide), pu_ifT (by decide) (by decide) (by decide), pu_last ho h.1 ht]; rfl
  · rw [pu_ifF (by decide) (by decide) (by decide), pu_ifF (by decide) (by decide) (by decide), pu_ifF (by decide) (by decide) (by decide), pu_ifF (by decide) (by decide) (by decide), pu_ifT (by decide) (by decide) (by decide), pu_bandOfC ho h.2.1 ht]; rfl
  · rw [pu_ifF (by decide) (by decide) (by decide), pu_ifF (by decide) (by decide) (by decide), pu_ifF (by decide) (by decide) (by decide), pu_ifF (by decide) (by decide) (by decide), pu_ifF (by decide) (by decide) (by decide), pu_ifT (by decide) (by decide) (by decide), pu_rowOfC ho h.2.1 ht]; rfl
  · rw [pu_ifF (by decide) (by decide) (by decide), pu_ifF (by decide) (by decide) (by decide), pu_ifF (by decide) (by decide) (by decide), pu_ifF (by decide) (by decide) (by decide), pu_ifF (by decide) (by decide) (by decide), pu_ifF (by decide) (by decide) (by decide), pu_partsC ho h.1 ht]; rfl
theorem pu_vA_C (ho : puOk s) (hp : puPl σ 1 s) {w : Nat} (hw : w < 6) : DX8_numberOfPlan σ (w : Int) = some (puVA s w) := by
  unfold DX8_numberOfPlan
  rcases (show w < 4 ∨ w = 4 ∨ w = 5 by omega) with h | rfl | rfl
  · rw [pu_ifF ⟨by omega, by omega⟩ (by decide) (by omega), pu_ifF ⟨by omega, by omega⟩ (by decide) (by omega), pu_setting hp h, Option.bind_some]
    unfold puVA
    rw [if_pos (by omega)]
  · rw [pu_ifT (by decide) (by decide) (by decide), pu_tasks hp]; rfl
  · rw [pu_ifF (by decide) (by decide) (by decide), pu_ifT (by decide) (by decide) (by decide), pu_arrows hp]; rfl
theorem puLt_1 {a : Nat} (h : puLate s a) : puLt01 s a = 1 := if_pos h
theorem puLt_0 {a : Nat} (h : ¬ puLate s a) : puLt01 s a = 0 := if_neg h
theorem pu_cLate {b : Nat} (ho : puOk s) (hp : puPl σ b s) {a : Nat} (ha : (a : Int) < s 77) : DX5_isLate b σ (a : Int) = some (puLt01 s a) := by
  obtain ⟨f1, f2⟩ := puFm_e ho ha
  obtain ⟨t1, t2⟩ := puTo_e ho ha
  have l1 := ho.last f2
  have l2 := ho.f f2
  have l3 := ho.f t2
  unfold DX5_isLate
  rw [pu_to ho hp ha, Option.bind_some, t1, pu_first ho hp t2, Option.bind_some, pu_from ho hp ha, Option.bind_some, f1, pu_last ho hp f2, Option.bind_some, pu_ite ⟨by omega, by omega⟩ ⟨by omega, by omega⟩, pu_bo (Or.inl rfl), pu_bo (Or.inr rfl)]
  unfold puLt01
  by_cases e : puLast s (puFm s a) < s (6 + 3 * puTo s a)
  · rw [if_pos e, if_neg (by omega)]
  · rw [if_neg e, if_pos (by omega)]
theorem pu_aA_C (ho : puOk s) (h : puCV σ s) {a w : Nat} (ha : (a : Int) < s 77) (hw : w < 6) : DX8_numberOfArrow σ (a : Int) (w : Int) = some (puAA s a w) := by
  have a30 := ho.a30 ha
  obtain ⟨x1, x2, x3⟩ := h.2.2.2.2.1 a (by omega)
  obtain ⟨f1, f2⟩ := puFm_e ho ha
  obtain ⟨t1, t2⟩ := puTo_e ho ha
  unfold DX8_numberOfArrow
  rcases (show w = 0 ∨ w = 1 ∨ w = 2 ∨ w = 3 ∨ w = 4 ∨ w = 5 by omega) with rfl | rfl | rfl | rfl | rfl | rfl
  · rw [pu_ifT (by decide) (by decide) (by decide), pu_from ho h.1 ha, f1]; rfl
  · rw [pu_ifF (by decide) (by decide) (by decide), pu_ifT (by decide) (by decide) (by decide), pu_to ho h.1 ha, t1]; rfl
  · rw [pu_ifF (by decide) (by decide) (by decide), pu_ifF (by decide) (by decide) (by decide), pu_ifT (by decide) (by decide) (by decide)]
    unfold DX2_leavesOn
    rw [pu_atN a30 (by decide), Option.bind_some, Option.bind_some]
    exact congrArg some x1
  · rw [pu_ifF (by decide) (by decide) (by decide), pu_ifF (by decide) (by decide) (by decide), pu_ifF (by decide) (by decide) (by decide), pu_ifT (by decide) (by decide) (by decide)]
    unfold DX2_arrivesOn
    rw [pu_atN a30 (by decide), Option.bind_some, Option.bind_some]
    exact congrArg some x2
  · rw [pu_ifF (by decide) (by decide) (by decide), pu_ifF (by decide) (by decide) (by decide), pu_ifF (by decide) (by decide) (by decide), pu_ifF (by decide) (by decide) (by decide), pu_ifT (by decide) (by decide) (by decide)]
    unfold DX2_exitOf
    rw [pu_atN a30 (by decide), Option.bind_some, Option.bind_some]
    exact congrArg some x3
  · rw [pu_ifF (by decide) (by decide) (by decide), pu_ifF (by decide) (by decide) (by decide), pu_ifF (by decide) (by decide) (by decide), pu_ifF (by decide) (by decide) (by decide), pu_ifF (by decide) (by decide) (by decide), pu_cLate ho h.1 ha, Option.bind_some]
    show _ = some (puLt01 s a)
    by_cases e : puLate s a
    · rw [puLt_1 e, pu_ifF (by decide) (by decide) (by decide)]
    · rw [puLt_0 e, pu_ifT (by decide) (by decide) rfl]
end PUT
