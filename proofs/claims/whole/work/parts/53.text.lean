/-! the text, read: what is there; a number; an item; all -/
def puNt (tx : Nat → Int) (n p : Nat) : Int := if p < n then tx p else -1
def puDg (tx : Nat → Int) (n : Nat) : Nat → Nat → Int → Nat × Int
  | 0, p, v => (p, v)
  | d + 1, p, v => if 48 ≤ puNt tx n p ∧ puNt tx n p ≤ 57 then puDg tx n d (p + 1) ((10 * v + puNt tx n p) - 48) else (p, v)
def puRd (tx : Nat → Int) (n d : Nat) (lo hi : Int) (p : Nat) : Nat ⊕ (Nat × Int) := if (puDg tx n d p 0).1 = p ∨ (48 ≤ puNt tx n (puDg tx n d p 0).1 ∧ puNt tx n (puDg tx n d p 0).1 ≤ 57) then .inl (puDg tx n d p 0).1 else if (puDg tx n d p 0).2 < lo ∨ hi < (puDg tx n d p 0).2 then .inl p else .inr (puDg tx n d p 0)
def puTxOk (tx : Nat → Int) (n : Nat) : Prop := n ≤ 150 ∧ ∀ i : Nat, i < n → 0 ≤ tx i ∧ tx i ≤ 127
theorem puNt_in {tx : Nat → Int} {n : Nat} (h : puTxOk tx n) (p : Nat) : -1 ≤ puNt tx n p ∧ puNt tx n p ≤ 127 := by
  unfold puNt
  split
  · rename_i q
    have := h.2 p q
    omega
  · omega
theorem puNt_lt {tx : Nat → Int} {n p : Nat} (h : 0 ≤ puNt tx n p) : p < n := by
  unfold puNt at h
  split at h
  · assumption
  · omega
def puBn : Nat → Int → Int
  | 0, M => M
  | d + 1, M => puBn d (10 * M + 9)
theorem puDg_in {tx : Nat → Int} {n : Nat} : ∀ (d p : Nat) (v M : Int), 0 ≤ v ∧ v ≤ M → (0 ≤ (puDg tx n d p v).2 ∧ (puDg tx n d p v).2 ≤ puBn d M) ∧ p ≤ (puDg tx n d p v).1 ∧ (puDg tx n d p v).1 ≤ p + d ∧ (p ≤ n → (puDg tx n d p v).1 ≤ n) := by
  intro d
  induction d with
  | zero => intro p v M h; exact ⟨h, Nat.le_refl _, Nat.le_refl _, fun q => q⟩
  | succ d ih =>
    intro p v M h
    show (0 ≤ (puDg tx n (d + 1) p v).2 ∧ (puDg tx n (d + 1) p v).2 ≤ puBn d (10 * M + 9)) ∧ _
    unfold puDg
    split
    · rename_i q
      obtain ⟨h1, h2, h3, h4⟩ := ih (p + 1) ((10 * v + puNt tx n p) - 48) (10 * M + 9) (by omega)
      have hp := puNt_lt (tx := tx) (n := n) (p := p) (by omega)
      exact ⟨h1, by omega, by omega, fun _ => h4 (by omega)⟩
    · have hm : ∀ (d : Nat) (a b : Int), a ≤ b → 0 ≤ a → a ≤ puBn d b := by
        intro d
        induction d with
        | zero => intro a b h1 _; exact h1
        | succ d ih2 => intro a b h1 h2; exact ih2 a (10 * b + 9) (by omega) h2
      exact ⟨⟨h.1, hm d v (10 * M + 9) (by omega) h.1⟩, Nat.le_refl _, by show p ≤ p + (d + 1); omega, fun q => q⟩
theorem puDg_3 {tx : Nat → Int} {n d : Nat} (hd : d ≤ 3) (p : Nat) : (0 ≤ (puDg tx n d p 0).2 ∧ (puDg tx n d p 0).2 ≤ 999) ∧ p ≤ (puDg tx n d p 0).1 ∧ (puDg tx n d p 0).1 ≤ p + 3 ∧ (p ≤ n → (puDg tx n d p 0).1 ≤ n) := by
  obtain ⟨h1, h2, h3, h4⟩ := puDg_in (tx := tx) (n := n) d p 0 0 ⟨by decide, by decide⟩
  have hb : puBn d 0 ≤ 999 := by
    rcases (show d = 0 ∨ d = 1 ∨ d = 2 ∨ d = 3 by omega) with rfl | rfl | rfl | rfl <;> decide
  exact ⟨⟨h1.1, by omega⟩, h2, by omega, h4⟩
theorem puRd_ok {tx : Nat → Int} {n d p e : Nat} {lo hi v : Int} (h : puRd tx n d lo hi p = .inr (e, v)) : (puDg tx n d p 0) = (e, v) ∧ e ≠ p ∧ ¬ (48 ≤ puNt tx n e ∧ puNt tx n e ≤ 57) ∧ lo ≤ v ∧ v ≤ hi := by
  unfold puRd at h
  split at h
  · cases h
  · rename_i c1
    split at h
    · cases h
    · rename_i c2
      have e1 : puDg tx n d p 0 = (e, v) := Sum.inr.inj h
      rw [e1] at c1 c2
      exact ⟨e1, fun q => c1 (Or.inl q), fun q => c1 (Or.inr q), by have : ¬ (v < lo ∨ hi < v) := c2; omega, by have : ¬ (v < lo ∨ hi < v) := c2; omega⟩
theorem puRd_e {tx : Nat → Int} {n d p e : Nat} {lo hi v : Int} (hd : d ≤ 3) (h : puRd tx n d lo hi p = .inr (e, v)) : (0 ≤ v ∧ v ≤ 999) ∧ p < e ∧ e ≤ p + 3 ∧ (p ≤ n → e ≤ n) := by
  obtain ⟨h1, h2, h3, h4, h5⟩ := puRd_ok h
  obtain ⟨g1, g2, g3, g4⟩ := puDg_3 (tx := tx) (n := n) hd p
  rw [h1] at g1 g2 g3 g4
  have g2 : p ≤ e := g2
  exact ⟨g1, by omega, g3, g4⟩
theorem puRd_no {tx : Nat → Int} {n d p e : Nat} {lo hi : Int} (hd : d ≤ 3) (h : puRd tx n d lo hi p = .inl e) : p ≤ e ∧ e ≤ p + 3 := by
  obtain ⟨g1, g2, g3, g4⟩ := puDg_3 (tx := tx) (n := n) hd p
  unfold puRd at h
  split at h
  · have := Sum.inl.inj h
    omega
  · split at h
    · have := Sum.inl.inj h
      omega
    · cases h
/-! an item -/
def puItT (tx : Nat → Int) (n p : Nat) : Nat ⊕ (Nat × (Int × Int × Int)) :=
  if ¬ (48 ≤ puNt tx n (p + 1) ∧ puNt tx n (p + 1) ≤ 53) then .inl (p + 1) else if ¬ puNt tx n (p + 2) = 44 then .inl (p + 2) else match puRd tx n 3 0 199 (p + 3) with
  | .inl e => .inl e
  | .inr q => if ¬ puNt tx n q.1 = 44 then .inl q.1 else match puRd tx n 2 1 60 (q.1 + 1) with
    | .inl e => .inl e
    | .inr r => if ¬ puNt tx n r.1 = 59 then .inl r.1 else .inr (r.1 + 1, (puNt tx n (p + 1) - 48, q.2, r.2))
def puItA (tx : Nat → Int) (n p m : Nat) : Nat ⊕ (Nat × (Int × Int)) :=
  if ¬ puNt tx n p = 97 then .inl p else match puRd tx n 2 0 ((m : Int) - 1) (p + 1) with
  | .inl e => .inl e
  | .inr q => if ¬ puNt tx n q.1 = 44 then .inl q.1 else match puRd tx n 2 0 ((m : Int) - 1) (q.1 + 1) with
    | .inl e => .inl e
    | .inr r => if r.2 = q.2 then .inl (q.1 + 1) else if ¬ puNt tx n r.1 = 59 then .inl r.1 else .inr (r.1 + 1, (q.2, r.2))
def puAdd (A : List (Int × Int)) (q : Int × Int) : List (Int × Int) := if puHas A q.1 q.2 A.length = true then A else A ++ [q]
def puPs (tx : Nat → Int) (n : Nat) : Nat → Nat → List (Int × Int × Int) → List (Int × Int) → Nat ⊕ (List (Int × Int × Int) × List (Int × Int))
  | 0, _, _, _ => .inl 0
  | f + 1, p, T, A => if p < n then (if puNt tx n p = 116 then (match puItT tx n p with
      | .inl e => .inl e
      | .inr q => puPs tx n f q.1 (T ++ [q.2]) A) else (match puItA tx n p T.length with
      | .inl e => .inl e
      | .inr q => puPs tx n f q.1 T (puAdd A q.2))) else .inr (T, A)
/-- what has been read is sound -/
def puGd (n p : Nat) (T : List (Int × Int × Int)) (A : List (Int × Int)) : Prop := p ≤ n ∧ 7 * T.length + 5 * A.length ≤ p ∧ (∀ q ∈ T, (0 ≤ q.1 ∧ q.1 ≤ 5) ∧ (0 ≤ q.2.1 ∧ q.2.1 ≤ 199) ∧ (1 ≤ q.2.2 ∧ q.2.2 ≤ 60)) ∧ puEnds (T.length : Int) A
theorem puItT_gd {tx : Nat → Int} {n p p' : Nat} {q : Int × Int × Int} {T : List (Int × Int × Int)} {A : List (Int × Int)} (h : puGd n p T A) (hp : p < n) (e : puItT tx n p = .inr (p', q)) : puGd n p' (T ++ [q]) A ∧ p < p' := by
  obtain ⟨h1, h2, h3, h4⟩ := h
  unfold puItT at e
  split at e
  · cases e
  · rename_i c1
    split at e
    · cases e
    · rename_i c2
      cases e3 : puRd tx n 3 0 199 (p + 3) with
      | inl x => rw [e3] at e; cases e
      | inr x =>
        obtain ⟨x1, x2⟩ := x
        rw [e3] at e
        have e : (if ¬ puNt tx n x1 = 44 then Sum.inl x1 else match puRd tx n 2 1 60 (x1 + 1) with
          | .inl e => Sum.inl e
          | .inr r => if ¬ puNt tx n r.1 = 59 then Sum.inl r.1 else Sum.inr (r.1 + 1, (puNt tx n (p + 1) - 48, x2, r.2))) = (Sum.inr (p', q) : Nat ⊕ (Nat × (Int × Int × Int))) := e
        split at e
        · cases e
        · rename_i c3
          cases e4 : puRd tx n 2 1 60 (x1 + 1) with
          | inl y => rw [e4] at e; cases e
          | inr y =>
            obtain ⟨y1, y2⟩ := y
            rw [e4] at e
            have e : (if ¬ puNt tx n y1 = 59 then Sum.inl y1 else Sum.inr (y1 + 1, (puNt tx n (p + 1) - 48, x2, y2))) = (Sum.inr (p', q) : Nat ⊕ (Nat × (Int × Int × Int))) := e
            split at e
            · cases e
            · rename_i c4
              have e5 := Sum.inr.inj e
              have ep : y1 + 1 = p' := congrArg Prod.fst e5
              have eq : (puNt tx n (p + 1) - 48, x2, y2) = q := congrArg Prod.snd e5
              obtain ⟨r1, r2, r3, r4⟩ := puRd_e (by decide) e3
              obtain ⟨s1, s2, s3, s4⟩ := puRd_e (by decide) e4
              obtain ⟨_, _, _, r5, r6⟩ := puRd_ok e3
              obtain ⟨_, _, _, s5, s6⟩ := puRd_ok e4
              have hy : y1 < n := puNt_lt (tx := tx) (by
                have : puNt tx n y1 = 59 := Decidable.not_not.mp c4
                omega)
              refine ⟨⟨by omega, ?_, fun z hz => ?_, fun z hz => ?_⟩, by omega⟩
              · rw [List.length_append]
                show 7 * (T.length + 1) + 5 * A.length ≤ p'
                omega
              · rcases List.mem_append.mp hz with hz | hz
                · exact h3 z hz
                · rw [List.mem_singleton.mp hz, ← eq]
                  exact ⟨by show 0 ≤ puNt tx n (p + 1) - 48 ∧ puNt tx n (p + 1) - 48 ≤ 5; omega, ⟨r5, r6⟩, s5, s6⟩
              · have := h4 z hz
                rw [List.length_append]
                show (0 ≤ z.1 ∧ z.1 < ((T.length + 1 : Nat) : Int)) ∧ (0 ≤ z.2 ∧ z.2 < ((T.length + 1 : Nat) : Int))
                omega
theorem puItA_gd {tx : Nat → Int} {n p p' : Nat} {q : Int × Int} {T : List (Int × Int × Int)} {A : List (Int × Int)} (h : puGd n p T A) (hp : p < n) (e : puItA tx n p T.length = .inr (p', q)) : puGd n p' T (puAdd A q) ∧ p < p' := by
  obtain ⟨h1, h2, h3, h4⟩ := h
  unfold puItA at e
  split at e
  · cases e
  · rename_i c1
    cases e3 : puRd tx n 2 0 ((T.length : Int) - 1) (p + 1) with
    | inl x => rw [e3] at e; cases e
    | inr x =>
      obtain ⟨x1, x2⟩ := x
      rw [e3] at e
      have e : (if ¬ puNt tx n x1 = 44 then Sum.inl x1 else match puRd tx n 2 0 ((T.length : Int) - 1) (x1 + 1) with
        | .inl e => Sum.inl e
        | .inr r => if r.2 = x2 then Sum.inl (x1 + 1) else if ¬ puNt tx n r.1 = 59 then Sum.inl r.1 else Sum.inr (r.1 + 1, (x2, r.2))) = (Sum.inr (p', q) : Nat ⊕ (Nat × (Int × Int))) := e
      split at e
      · cases e
      · rename_i c3
        cases e4 : puRd tx n 2 0 ((T.length : Int) - 1) (x1 + 1) with
        | inl y => rw [e4] at e; cases e
        | inr y =>
          obtain ⟨y1, y2⟩ := y
          rw [e4] at e
          have e : (if y2 = x2 then Sum.inl (x1 + 1) else if ¬ puNt tx n y1 = 59 then Sum.inl y1 else Sum.inr (y1 + 1, (x2, y2))) = (Sum.inr (p', q) : Nat ⊕ (Nat × (Int × Int))) := e
          split at e
          · cases e
          · split at e
            · cases e
            · rename_i c5 c4
              have e5 := Sum.inr.inj e
              have ep : y1 + 1 = p' := congrArg Prod.fst e5
              have eq : (x2, y2) = q := congrArg Prod.snd e5
              obtain ⟨r1, r2, r3, r4⟩ := puRd_e (by decide) e3
              obtain ⟨s1, s2, s3, s4⟩ := puRd_e (by decide) e4
              obtain ⟨_, _, _, r5, r6⟩ := puRd_ok e3
              obtain ⟨_, _, _, s5, s6⟩ := puRd_ok e4
              have hy : y1 < n := puNt_lt (tx := tx) (by
                have : puNt tx n y1 = 59 := Decidable.not_not.mp c4
                omega)
              refine ⟨⟨by omega, ?_, h3, ?_⟩, by omega⟩
              · unfold puAdd
                split
                · omega
                · rw [List.length_append]
                  show 7 * T.length + 5 * (A.length + 1) ≤ p'
                  omega
              · unfold puAdd
                split
                · exact h4
                · intro z hz
                  rcases List.mem_append.mp hz with hz | hz
                  · exact h4 z hz
                  · rw [List.mem_singleton.mp hz, ← eq]
                    exact ⟨⟨r5, by show x2 < (T.length : Int); omega⟩, s5, by show y2 < (T.length : Int); omega⟩
theorem puPs_gd {tx : Nat → Int} {n : Nat} : ∀ (f p : Nat) (T : List (Int × Int × Int)) (A : List (Int × Int)) (T' : List (Int × Int × Int)) (A' : List (Int × Int)), puGd n p T A → puPs tx n f p T A = .inr (T', A') → ∃ p', puGd n p' T' A' := by
  intro f
  induction f with
  | zero => intro p T A T' A' _ h; cases h
  | succ f ih =>
    intro p T A T' A' hg h
    unfold puPs at h
    split at h
    · rename_i hp
      split at h
      · cases e : puItT tx n p with
        | inl x => rw [e] at h; cases h
        | inr x =>
          rw [e] at h
          exact ih _ _ _ _ _ (puItT_gd hg hp (q := x.2) (p' := x.1) e).1 h
      · cases e : puItA tx n p T.length with
        | inl x => rw [e] at h; cases h
        | inr x =>
          rw [e] at h
          exact ih _ _ _ _ _ (puItA_gd hg hp (q := x.2) (p' := x.1) e).1 h
    · have e := Sum.inr.inj h
      cases e
      exact ⟨p, hg⟩
/-! the class reads -/
def puCX (σ : gSt) (tx : Nat → Int) (n p : Nat) : Prop := σ 81 1 = (n : Int) ∧ σ 81 2 = (p : Int) ∧ ∀ i : Nat, i < n → σ 83 i = tx i
def puCF (σ σ' : gSt) : Prop := (∀ k, k ≠ 81 → σ' k = σ k) ∧ σ' 81 1 = σ 81 1
theorem puCF.trans {σ σ1 σ2 : gSt} (h1 : puCF σ σ1) (h2 : puCF σ1 σ2) : puCF σ σ2 := ⟨fun k hk => by rw [h2.1 k hk, h1.1 k hk], by rw [h2.2, h1.2]⟩
theorem puCF.rf {σ : gSt} : puCF σ σ := ⟨fun _ _ => rfl, rfl⟩
theorem puCF.up {σ : gSt} {i : Nat} {v : Int} (h : i ≠ 1) : puCF σ (gUp σ 81 i v) := ⟨fun k hk => pu_upK hk, pu_upI (Ne.symm h)⟩
section PUX
variable {tx : Nat → Int} {n : Nat}
theorem pu_nextC {σ : gSt} {p : Nat} (hx : puTxOk tx n) (h : puCX σ tx n p) (hp : p ≤ 1000) : DX7_next 81 σ = some (puNt tx n p) := by
  have hn := hx.1
  unfold DX7_next puNt
  rw [h.2.1, h.1]
  by_cases c : p < n
  · rw [pu_ifT ⟨by omega, by omega⟩ ⟨by omega, by omega⟩ (by omega), pu_atN (by omega) (by decide), Option.bind_some, if_pos c]
    exact congrArg some (h.2.2 p c)
  · rw [pu_ifF ⟨by omega, by omega⟩ ⟨by omega, by omega⟩ (by omega), if_neg c]
theorem pu_digitC {σ : gSt} {p : Nat} (hx : puTxOk tx n) (h : puCX σ tx n p) (hp : p ≤ 1000) : DX7_nextIsDigit 81 σ = some (if 48 ≤ puNt tx n p ∧ puNt tx n p ≤ 57 then 1 else 0) := by
  have hi := puNt_in hx p
  unfold DX7_nextIsDigit
  rw [pu_nextC hx h hp, Option.bind_some, Option.bind_some, pu_ite ⟨by omega, by omega⟩ (by decide), pu_ite ⟨by omega, by omega⟩ (by decide), pu_bo (Or.inl rfl), pu_bo (Or.inr rfl)]
  by_cases a : puNt tx n p < 48
  · rw [if_pos a, if_neg (by omega)]
  · rw [if_neg a]
    by_cases c : 57 < puNt tx n p
    · rw [if_pos c, if_neg (by omega)]
    · rw [if_neg c, if_pos (by omega)]
theorem pu_signC1 {σ : gSt} {p : Nat} {c : Int} (hx : puTxOk tx n) (h : puCX σ tx n p) (hp : p ≤ 1000) (hc : gR c) (e : puNt tx n p = c) : DX7_readSign 81 σ c = some (1, gUp σ 81 2 ((p + 1 : Nat) : Int)) := by
  have hi := puNt_in hx p
  unfold DX7_readSign
  rw [pu_nextC hx h hp, Option.bind_some, pu_ifT ⟨by omega, by omega⟩ hc e, pu_bo (Or.inr rfl), h.2.1, show ((p : Int) + 1) = ((p + 1 : Nat) : Int) by omega]
theorem pu_signC0 {σ : gSt} {p : Nat} {c : Int} (hx : puTxOk tx n) (h : puCX σ tx n p) (hp : p ≤ 1000) (hc : gR c) (e : ¬ puNt tx n p = c) : DX7_readSign 81 σ c = some (0, gUp σ 81 3 (p : Int)) := by
  have hi := puNt_in hx p
  unfold DX7_readSign DX7_fail
  rw [pu_nextC hx h hp, Option.bind_some, pu_ifF ⟨by omega, by omega⟩ hc e, pu_bo (Or.inl rfl), Option.bind_some, pu_bo (Or.inl rfl), h.2.1]
theorem puCX.up {σ : gSt} {p : Nat} (h : puCX σ tx n p) (q : Nat) : puCX (gUp σ 81 2 (q : Int)) tx n q := ⟨by rw [pu_upI (by decide)]; exact h.1, pu_upE _ _ _ _, fun i hi => by rw [pu_upK (by decide)]; exact h.2.2 i hi⟩
theorem puCX.up' {σ : gSt} {p i : Nat} {v : Int} (h : puCX σ tx n p) (h1 : i ≠ 1) (h2 : i ≠ 2) : puCX (gUp σ 81 i v) tx n p := ⟨by rw [pu_upI (Ne.symm h1)]; exact h.1, by rw [pu_upI (Ne.symm h2)]; exact h.2.1, fun j hj => by rw [pu_upK (by decide)]; exact h.2.2 j hj⟩
theorem pu_rdC_L {σ0 : gSt} {p d : Nat} {r : Nat × Int} (hx : puTxOk tx n) (h0 : σ0 81 2 = (p : Int)) (hp : p ≤ 900) (hd3 : d ≤ 3) {K : gSt → Option (Int × gSt)} {Q : Int × gSt → Prop} (kk : ∀ σ', puCX σ' tx n r.1 → σ' 81 4 = r.2 → σ' 81 3 = σ0 81 3 → puCF σ0 σ' → puP (K σ') Q) : ∀ (f k x : Nat) (v : Int) (σ : gSt), k < f → x + k = p + d → p ≤ x → puDg tx n k x v = r → puCX σ tx n x → σ 81 4 = v → σ 81 3 = σ0 81 3 → puCF σ0 σ → puP (DX7_readNumber_L11 K 81 σ0 (d : Int) f σ) Q := by
  intro f
  induction f with
  | zero => intro k x v σ h; omega
  | succ f ih =>
    intro k x v σ hf hk hpx hr hX h4 h3 hF
    have hi := puNt_in hx x
    rw [DX7_readNumber_L11, h0, hX.2.1]
    cases k with
    | zero =>
      rw [pu_ifF ⟨by omega, by omega⟩ ⟨by omega, by omega⟩ (by omega)]
      have hr : (x, v) = r := hr
      rw [← hr] at kk
      exact kk σ hX h4 h3 hF
    | succ k =>
      rw [pu_ifT ⟨by omega, by omega⟩ ⟨by omega, by omega⟩ (by omega), pu_digitC hx hX (by omega), Option.bind_some]
      unfold puDg at hr
      by_cases c : 48 ≤ puNt tx n x ∧ puNt tx n x ≤ 57
      · rw [if_pos c] at hr
        rw [if_pos c, pu_ifF (by decide) (by decide) (by decide), pu_nextC hx hX (by omega), Option.bind_some, h4]
        have e2 : gUp σ 81 4 ((v * 10 + puNt tx n x) - 48) 81 2 = (x : Int) := by rw [pu_upI (by decide)]; exact hX.2.1
        rw [e2, show ((x : Int) + 1) = ((x + 1 : Nat) : Int) by omega]
        have ev : (v * 10 + puNt tx n x) - 48 = (10 * v + puNt tx n x) - 48 := by omega
        rw [ev]
        exact ih k (x + 1) _ _ (by omega) (by omega) (by omega) hr ((hX.up' (by decide) (by decide)).up (x + 1)) (by rw [pu_upI (by decide), pu_upE]) (by rw [pu_upI (by decide), pu_upI (by decide)]; exact h3) ((hF.trans (puCF.up (by decide))).trans (puCF.up (by decide)))
      · rw [if_neg c] at hr
        rw [if_neg c, pu_ifT (by decide) (by decide) rfl]
        rw [← hr] at kk
        exact kk σ hX h4 h3 hF
/-- a number, read by the class -/
theorem pu_rdC {σ : gSt} {p d : Nat} {lo hi : Int} (hx : puTxOk tx n) (h : puCX σ tx n p) (hp : p ≤ 900) (hd3 : d ≤ 3) (hlo : gR lo) (hhi : gR hi) : puP (DX7_readNumber 81 σ (d : Int) lo hi) (fun r => puCF σ r.2 ∧ match puRd tx n d lo hi p with
    | .inl e => r.1 = 0 ∧ r.2 81 3 = (e : Int)
    | .inr q => r.1 = 1 ∧ puCX r.2 tx n q.1 ∧ r.2 81 4 = q.2 ∧ r.2 81 3 = σ 81 3) := by
  obtain ⟨g1, g2, g3, g4⟩ := puDg_3 (tx := tx) (n := n) hd3 p
  have hi1 := puNt_in hx (puDg tx n d p 0).1
  unfold DX7_readNumber
  have e2 : gUp σ 81 4 0 81 2 = (p : Int) := by rw [pu_upI (by decide)]; exact h.2.1
  have hK : ∀ σ0 : gSt, σ0 81 2 = (p : Int) → puCF σ σ0 → σ0 81 3 = σ 81 3 → ∀ σ', puCX σ' tx n (puDg tx n d p 0).1 → σ' 81 4 = (puDg tx n d p 0).2 → σ' 81 3 = σ 81 3 → puCF σ σ' → puP (DX7_readNumber_K61 81 σ lo hi σ') (fun r => puCF σ r.2 ∧ match puRd tx n d lo hi p with
    | .inl e => r.1 = 0 ∧ r.2 81 3 = (e : Int)
    | .inr q => r.1 = 1 ∧ puCX r.2 tx n q.1 ∧ r.2 81 4 = q.2 ∧ r.2 81 3 = σ 81 3) := by
    intro σ0 _ _ _ σ' hX h4 h3 hF
    unfold puRd
    have hJ77 : ((puDg tx n d p 0).1 = p ∨ (48 ≤ puNt tx n (puDg tx n d p 0).1 ∧ puNt tx n (puDg tx n d p 0).1 ≤ 57)) → puP (DX7_readNumber_J77 81 σ') (fun r => puCF σ r.2 ∧ match (if (puDg tx n d p 0).1 = p ∨ (48 ≤ puNt tx n (puDg tx n d p 0).1 ∧ puNt tx n (puDg tx n d p 0).1 ≤ 57) then Sum.inl (puDg tx n d p 0).1 else if (puDg tx n d p 0).2 < lo ∨ hi < (puDg tx n d p 0).2 then .inl p else .inr (puDg tx n d p 0) : Nat ⊕ (Nat × Int)) with
      | .inl e => r.1 = 0 ∧ r.2 81 3 = (e : Int)
      | .inr q => r.1 = 1 ∧ puCX r.2 tx n q.1 ∧ r.2 81 4 = q.2 ∧ r.2 81 3 = σ 81 3) := by
      intro c
      rw [if_pos c]
      unfold DX7_readNumber_J77 DX7_fail
      rw [pu_bo (Or.inl rfl), Option.bind_some, pu_bo (Or.inl rfl), hX.2.1]
      exact pu_some ⟨hF.trans (puCF.up (by decide)), rfl, by show gUp σ' 81 3 ((puDg tx n d p 0).1 : Int) 81 3 = _; exact pu_upE _ _ _ _⟩
    have hJ102 : ¬ ((puDg tx n d p 0).1 = p ∨ (48 ≤ puNt tx n (puDg tx n d p 0).1 ∧ puNt tx n (puDg tx n d p 0).1 ≤ 57)) → ((puDg tx n d p 0).2 < lo ∨ hi < (puDg tx n d p 0).2) → puP (DX7_readNumber_J102 81 σ σ') (fun r => puCF σ r.2 ∧ match (if (puDg tx n d p 0).1 = p ∨ (48 ≤ puNt tx n (puDg tx n d p 0).1 ∧ puNt tx n (puDg tx n d p 0).1 ≤ 57) then Sum.inl (puDg tx n d p 0).1 else if (puDg tx n d p 0).2 < lo ∨ hi < (puDg tx n d p 0).2 then .inl p else .inr (puDg tx n d p 0) : Nat ⊕ (Nat × Int)) with
      | .inl e => r.1 = 0 ∧ r.2 81 3 = (e : Int)
      | .inr q => r.1 = 1 ∧ puCX r.2 tx n q.1 ∧ r.2 81 4 = q.2 ∧ r.2 81 3 = σ 81 3) := by
      intro c c2
      rw [if_neg c, if_pos c2]
      unfold DX7_readNumber_J102 DX7_fail
      rw [pu_bo (Or.inl rfl), Option.bind_some, pu_bo (Or.inl rfl), h.2.1]
      exact pu_some ⟨hF.trans (puCF.up (by decide)), rfl, by show gUp σ' 81 3 (p : Int) 81 3 = _; exact pu_upE _ _ _ _⟩
    unfold DX7_readNumber_K61
    rw [hX.2.1, h.2.1, pu_digitC hx hX (by omega), Option.bind_some, h4]
    refine pu_if ⟨by omega, by omega⟩ ⟨by omega, by omega⟩ (fun c => hJ77 (Or.inl (by omega))) (fun c => ?_)
    by_cases c2 : 48 ≤ puNt tx n (puDg tx n d p 0).1 ∧ puNt tx n (puDg tx n d p 0).1 ≤ 57
    · rw [if_pos c2, pu_ifF (by decide) (by decide) (by decide)]
      exact hJ77 (Or.inr c2)
    · rw [if_neg c2, pu_ifT (by decide) (by decide) rfl]
      have c3 : ¬ ((puDg tx n d p 0).1 = p ∨ (48 ≤ puNt tx n (puDg tx n d p 0).1 ∧ puNt tx n (puDg tx n d p 0).1 ≤ 57)) := by
        rintro (q | q)
        · exact c (by omega)
        · exact c2 q
      refine pu_if ⟨by omega, by omega⟩ hlo (fun c4 => hJ102 c3 (Or.inl c4)) (fun c4 => ?_)
      refine pu_if ⟨by omega, by omega⟩ hhi (fun c5 => hJ102 c3 (Or.inr c5)) (fun c5 => ?_)
      rw [if_neg c3, if_neg (fun q => q.elim c4 c5), pu_bo (Or.inr rfl)]
      exact pu_some ⟨hF, rfl, hX, h4, h3⟩
  refine pu_rdC_L (σ0 := σ) (p := p) (d := d) (r := puDg tx n d p 0) hx h.2.1 hp hd3 (fun σ' a1 a2 a3 a4 => hK σ h.2.1 puCF.rf rfl σ' a1 a2 a3 a4) gFuel d p 0 _ (by rw [gFuel_eq]; omega) rfl (Nat.le_refl _) rfl (h.up' (by decide) (by decide)) (pu_upE _ _ _ _) (pu_upI (by decide)) (puCF.up (by decide))
end PUX
