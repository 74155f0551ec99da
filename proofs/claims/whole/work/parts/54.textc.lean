/-! leaves of an item -/
section PUY
variable {tx : Nat → Int} {n p : Nat}
theorem puItT_1 (c : ¬ (48 ≤ puNt tx n (p + 1) ∧ puNt tx n (p + 1) ≤ 53)) : puItT tx n p = .inl (p + 1) := by
  unfold puItT
  rw [if_pos c]
theorem puItT_2 (c : 48 ≤ puNt tx n (p + 1) ∧ puNt tx n (p + 1) ≤ 53) (c2 : ¬ puNt tx n (p + 2) = 44) : puItT tx n p = .inl (p + 2) := by
  unfold puItT
  rw [if_neg (fun q => q c), if_pos c2]
theorem puItT_3 (c : 48 ≤ puNt tx n (p + 1) ∧ puNt tx n (p + 1) ≤ 53) (c2 : puNt tx n (p + 2) = 44) {e : Nat} (e3 : puRd tx n 3 0 199 (p + 3) = .inl e) : puItT tx n p = .inl e := by
  unfold puItT
  rw [if_neg (fun q => q c), if_neg (fun q => q c2)]
  simp only [e3]
theorem puItT_4 (c : 48 ≤ puNt tx n (p + 1) ∧ puNt tx n (p + 1) ≤ 53) (c2 : puNt tx n (p + 2) = 44) {q : Nat × Int} (e3 : puRd tx n 3 0 199 (p + 3) = .inr q) (c3 : ¬ puNt tx n q.1 = 44) : puItT tx n p = .inl q.1 := by
  unfold puItT
  rw [if_neg (fun q => q c), if_neg (fun q => q c2)]
  simp only [e3]
  rw [if_pos c3]
theorem puItT_5 (c : 48 ≤ puNt tx n (p + 1) ∧ puNt tx n (p + 1) ≤ 53) (c2 : puNt tx n (p + 2) = 44) {q : Nat × Int} (e3 : puRd tx n 3 0 199 (p + 3) = .inr q) (c3 : puNt tx n q.1 = 44) {e : Nat} (e4 : puRd tx n 2 1 60 (q.1 + 1) = .inl e) : puItT tx n p = .inl e := by
  unfold puItT
  rw [if_neg (fun q => q c), if_neg (fun q => q c2)]
  simp only [e3]
  rw [if_neg (fun q => q c3)]
  simp only [e4]
theorem puItT_6 (c : 48 ≤ puNt tx n (p + 1) ∧ puNt tx n (p + 1) ≤ 53) (c2 : puNt tx n (p + 2) = 44) {q : Nat × Int} (e3 : puRd tx n 3 0 199 (p + 3) = .inr q) (c3 : puNt tx n q.1 = 44) {r : Nat × Int} (e4 : puRd tx n 2 1 60 (q.1 + 1) = .inr r) (c4 : ¬ puNt tx n r.1 = 59) : puItT tx n p = .inl r.1 := by
  unfold puItT
  rw [if_neg (fun q => q c), if_neg (fun q => q c2)]
  simp only [e3]
  rw [if_neg (fun q => q c3)]
  simp only [e4]
  rw [if_pos c4]
theorem puItT_7 (c : 48 ≤ puNt tx n (p + 1) ∧ puNt tx n (p + 1) ≤ 53) (c2 : puNt tx n (p + 2) = 44) {q : Nat × Int} (e3 : puRd tx n 3 0 199 (p + 3) = .inr q) (c3 : puNt tx n q.1 = 44) {r : Nat × Int} (e4 : puRd tx n 2 1 60 (q.1 + 1) = .inr r) (c4 : puNt tx n r.1 = 59) : puItT tx n p = .inr (r.1 + 1, (puNt tx n (p + 1) - 48, q.2, r.2)) := by
  unfold puItT
  rw [if_neg (fun q => q c), if_neg (fun q => q c2)]
  simp only [e3]
  rw [if_neg (fun q => q c3)]
  simp only [e4]
  rw [if_neg (fun q => q c4)]
variable {m : Nat}
theorem puItA_1 (c : ¬ puNt tx n p = 97) : puItA tx n p m = .inl p := by
  unfold puItA
  rw [if_pos c]
theorem puItA_2 (c : puNt tx n p = 97) {e : Nat} (e3 : puRd tx n 2 0 ((m : Int) - 1) (p + 1) = .inl e) : puItA tx n p m = .inl e := by
  unfold puItA
  rw [if_neg (fun q => q c)]
  simp only [e3]
theorem puItA_3 (c : puNt tx n p = 97) {q : Nat × Int} (e3 : puRd tx n 2 0 ((m : Int) - 1) (p + 1) = .inr q) (c3 : ¬ puNt tx n q.1 = 44) : puItA tx n p m = .inl q.1 := by
  unfold puItA
  rw [if_neg (fun q => q c)]
  simp only [e3]
  rw [if_pos c3]
theorem puItA_4 (c : puNt tx n p = 97) {q : Nat × Int} (e3 : puRd tx n 2 0 ((m : Int) - 1) (p + 1) = .inr q) (c3 : puNt tx n q.1 = 44) {e : Nat} (e4 : puRd tx n 2 0 ((m : Int) - 1) (q.1 + 1) = .inl e) : puItA tx n p m = .inl e := by
  unfold puItA
  rw [if_neg (fun q => q c)]
  simp only [e3]
  rw [if_neg (fun q => q c3)]
  simp only [e4]
theorem puItA_5 (c : puNt tx n p = 97) {q : Nat × Int} (e3 : puRd tx n 2 0 ((m : Int) - 1) (p + 1) = .inr q) (c3 : puNt tx n q.1 = 44) {r : Nat × Int} (e4 : puRd tx n 2 0 ((m : Int) - 1) (q.1 + 1) = .inr r) (c4 : r.2 = q.2) : puItA tx n p m = .inl (q.1 + 1) := by
  unfold puItA
  rw [if_neg (fun q => q c)]
  simp only [e3]
  rw [if_neg (fun q => q c3)]
  simp only [e4]
  rw [if_pos c4]
theorem puItA_6 (c : puNt tx n p = 97) {q : Nat × Int} (e3 : puRd tx n 2 0 ((m : Int) - 1) (p + 1) = .inr q) (c3 : puNt tx n q.1 = 44) {r : Nat × Int} (e4 : puRd tx n 2 0 ((m : Int) - 1) (q.1 + 1) = .inr r) (c4 : ¬ r.2 = q.2) (c5 : ¬ puNt tx n r.1 = 59) : puItA tx n p m = .inl r.1 := by
  unfold puItA
  rw [if_neg (fun q => q c)]
  simp only [e3]
  rw [if_neg (fun q => q c3)]
  simp only [e4]
  rw [if_neg c4, if_pos c5]
theorem puItA_7 (c : puNt tx n p = 97) {q : Nat × Int} (e3 : puRd tx n 2 0 ((m : Int) - 1) (p + 1) = .inr q) (c3 : puNt tx n q.1 = 44) {r : Nat × Int} (e4 : puRd tx n 2 0 ((m : Int) - 1) (q.1 + 1) = .inr r) (c4 : ¬ r.2 = q.2) (c5 : puNt tx n r.1 = 59) : puItA tx n p m = .inr (r.1 + 1, (q.2, r.2)) := by
  unfold puItA
  rw [if_neg (fun q => q c)]
  simp only [e3]
  rw [if_neg (fun q => q c3)]
  simp only [e4]
  rw [if_neg c4, if_neg (fun q => q c5)]
/-! the class reads an item -/
theorem pu_p1 {α : Type} {σ : gSt} {a b : Option α} {Q : α → Prop} (h : puP b Q) : puP (gIf (((1, σ) : Int × gSt).1 = 0) ((1, σ) : Int × gSt).1 0 a b) Q := by
  show puP (gIf ((1 : Int) = 0) 1 0 a b) Q
  rw [pu_ifF (by decide) (by decide) (by decide)]
  exact h
theorem pu_p0 {α : Type} {σ : gSt} {a b : Option α} {Q : α → Prop} (h : puP a Q) : puP (gIf (((0, σ) : Int × gSt).1 = 0) ((0, σ) : Int × gSt).1 0 a b) Q := by
  show puP (gIf ((0 : Int) = 0) 0 0 a b) Q
  rw [pu_ifT (by decide) (by decide) rfl]
  exact h
theorem pu_rdC0 {σ : gSt} {d e : Nat} {lo hi : Int} (hx : puTxOk tx n) (h : puCX σ tx n p) (hp : p ≤ 900) (hd3 : d ≤ 3) (hlo : gR lo) (hhi : gR hi) (he : puRd tx n d lo hi p = .inl e) : ∃ σ', DX7_readNumber 81 σ (d : Int) lo hi = some (0, σ') ∧ puCF σ σ' ∧ σ' 81 3 = (e : Int) := by
  obtain ⟨⟨r, σ'⟩, e1, e2, e3⟩ := pu_rdC hx h hp hd3 hlo hhi
  rw [he] at e3
  have e3 : r = 0 ∧ σ' 81 3 = (e : Int) := e3
  rw [e3.1] at e1
  exact ⟨σ', e1, e2, e3.2⟩
theorem pu_rdC1 {σ : gSt} {d : Nat} {q : Nat × Int} {lo hi : Int} (hx : puTxOk tx n) (h : puCX σ tx n p) (hp : p ≤ 900) (hd3 : d ≤ 3) (hlo : gR lo) (hhi : gR hi) (he : puRd tx n d lo hi p = .inr q) : ∃ σ', DX7_readNumber 81 σ (d : Int) lo hi = some (1, σ') ∧ puCF σ σ' ∧ puCX σ' tx n q.1 ∧ σ' 81 4 = q.2 ∧ σ' 81 3 = σ 81 3 := by
  obtain ⟨⟨r, σ'⟩, e1, e2, e3⟩ := pu_rdC hx h hp hd3 hlo hhi
  rw [he] at e3
  have e3 : r = 1 ∧ puCX σ' tx n q.1 ∧ σ' 81 4 = q.2 ∧ σ' 81 3 = σ 81 3 := e3
  rw [e3.1] at e1
  exact ⟨σ', e1, e2, e3.2⟩
end PUY
def puTd (σ : gSt) (T : List (Int × Int × Int)) (A : List (Int × Int)) : Prop := σ 14 6 = (T.length : Int) ∧ (∀ (i : Nat) (q : Int × Int × Int), T[i]? = some q → σ 18 i = q.1 ∧ σ 20 i = q.2.1 ∧ σ 22 i = q.2.2) ∧ puHB σ 14 A
theorem puTd.same {σ σ' : gSt} {T : List (Int × Int × Int)} {A : List (Int × Int)} (h : puTd σ T A) (hk : ∀ k, 14 ≤ k → k ≤ 26 → σ' k = σ k) : puTd σ' T A := by
  obtain ⟨h1, h2, h3, h4⟩ := h
  have e14 := hk 14 (by decide) (by decide)
  refine ⟨by rw [e14, h1], fun i q hi => ?_, by rw [e14, h3], fun i q hi => ?_⟩
  · rw [hk 18 (by decide) (by decide), hk 20 (by decide) (by decide), hk 22 (by decide) (by decide)]
    exact h2 i q hi
  · rw [hk (14 + 10) (by decide) (by decide), hk (14 + 12) (by decide) (by decide)]
    exact h4 i q hi
theorem pu_snocT {l : List (Int × Int × Int)} {a q : Int × Int × Int} {i : Nat} (h : (l ++ [a])[i]? = some q) : (i < l.length ∧ l[i]? = some q) ∨ (i = l.length ∧ q = a) := by
  by_cases c : i < l.length
  · rw [List.getElem?_append_left c] at h
    exact Or.inl ⟨c, h⟩
  · rw [List.getElem?_append_right (by omega)] at h
    have hlt := (List.getElem?_eq_some_iff.mp h).1
    have e : i = l.length := by
      have : i - l.length < 1 := hlt
      omega
    subst e
    rw [Nat.sub_self] at h
    exact Or.inr ⟨rfl, (Option.some.inj h).symm⟩
theorem pu_tellT {σ : gSt} {T : List (Int × Int × Int)} {A : List (Int × Int)} (h : puTd σ T A) (hT : T.length < 24) (g f l : Int) : ∃ σ' r, DX5_tellTask 14 σ g f l = some (r, σ') ∧ puTd σ' (T ++ [(g, f, l)]) A ∧ (∀ k, k < 14 ∨ 26 < k → σ' k = σ k) := by
  obtain ⟨h1, h2, h3, h4⟩ := h
  unfold DX5_tellTask DX5_putBar
  rw [h1, pu_ifT ⟨by omega, by omega⟩ (by decide) (by omega), pu_putN hT (by decide), Option.bind_some, show gUp σ (14 + 3 + 1) T.length g 14 6 = (T.length : Int) by rw [pu_upK (by decide), h1], pu_putN hT (by decide), Option.bind_some, pu_putN hT (by decide), Option.bind_some, Option.bind_some]
  have hK : ∀ k, k ≠ 18 → k ≠ 20 → k ≠ 22 → gUp (gUp (gUp σ (14 + 3 + 1) T.length g) (14 + 5 + 1) T.length f) (14 + 7 + 1) T.length l k = σ k := fun k k1 k2 k3 => by rw [pu_upK k3, pu_upK k2, pu_upK k1]
  rw [show gUp (gUp (gUp σ (14 + 3 + 1) T.length g) (14 + 5 + 1) T.length f) (14 + 7 + 1) T.length l 14 6 = (T.length : Int) by rw [hK 14 (by decide) (by decide) (by decide), h1]]
  refine ⟨_, _, rfl, ⟨?_, fun i q hi => ?_, ?_, fun i q hi => ?_⟩, fun k hk => ?_⟩
  · rw [pu_upE, List.length_append]
    show (T.length : Int) + 1 = ((T.length + 1 : Nat) : Int)
    omega
  · rw [pu_upK (k' := 18) (by decide), pu_upK (k' := 18) (by decide), pu_upK (k' := 18) (by decide), pu_upK (k' := 20) (by decide), pu_upK (k' := 20) (by decide), pu_upK (k' := 22) (by decide)]
    rcases pu_snocT hi with ⟨c, e⟩ | ⟨c, e⟩
    · rw [pu_upI (by omega), pu_upI (by omega), pu_upI (by omega), pu_upI (by omega), pu_upI (by omega), pu_upI (by omega)]
      exact h2 i q e
    · rw [e, c]
      exact ⟨pu_upE _ _ _ _, pu_upE _ _ _ _, pu_upE _ _ _ _⟩
  · rw [pu_upI (by decide), hK 14 (by decide) (by decide) (by decide), h3]
  · rw [pu_upK (k' := 14 + 10) (by decide), pu_upK (k' := 14 + 12) (by decide), hK (14 + 10) (by decide) (by decide) (by decide), hK (14 + 12) (by decide) (by decide) (by decide)]
    exact h4 i q hi
  · rw [pu_upK (by omega), hK k (by omega) (by omega) (by omega)]
def puXF (σ σ' : gSt) : Prop := (∀ k, k ≠ 81 → k < 14 ∨ 26 < k → σ' k = σ k) ∧ σ' 81 1 = σ 81 1
theorem puXF.trans {σ σ1 σ2 : gSt} (h1 : puXF σ σ1) (h2 : puXF σ1 σ2) : puXF σ σ2 := ⟨fun k hk hk2 => by rw [h2.1 k hk hk2, h1.1 k hk hk2], by rw [h2.2, h1.2]⟩
theorem puCF.xf {σ σ' : gSt} (h : puCF σ σ') : puXF σ σ' := ⟨fun k hk _ => h.1 k hk, h.2⟩
theorem puTd.cf {σ σ' : gSt} {T : List (Int × Int × Int)} {A : List (Int × Int)} (h : puTd σ T A) (hF : puCF σ σ') : puTd σ' T A := h.same (fun k k1 k2 => hF.1 k (by omega))
theorem pu_readTask {σ : gSt} {tx : Nat → Int} {n p : Nat} {T : List (Int × Int × Int)} {A : List (Int × Int)} (hx : puTxOk tx n) (h : puCX σ tx n p) (hp : p < n) (ht : puTd σ T A) (hT : T.length < 24) : puP (DX7_readTask 81 14 σ) (fun r => puXF σ r.2 ∧ match puItT tx n p with
    | .inl e => r.1 = 0 ∧ r.2 81 3 = (e : Int)
    | .inr q => r.1 = 1 ∧ puCX r.2 tx n q.1 ∧ puTd r.2 (T ++ [q.2]) A ∧ r.2 81 3 = σ 81 3) := by
  have hn := hx.1
  have hi1 := puNt_in hx (p + 1)
  have h1 : puCX (gUp σ 81 2 ((p + 1 : Nat) : Int)) tx n (p + 1) := h.up (p + 1)
  have h2 : puCX (gUp (gUp σ 81 2 ((p + 1 : Nat) : Int)) 81 2 ((p + 2 : Nat) : Int)) tx n (p + 2) := h1.up (p + 2)
  have F1 : puCF σ (gUp σ 81 2 ((p + 1 : Nat) : Int)) := puCF.up (by decide)
  have F2 : puCF σ (gUp (gUp σ 81 2 ((p + 1 : Nat) : Int)) 81 2 ((p + 2 : Nat) : Int)) := F1.trans (puCF.up (by decide))
  unfold DX7_readTask DX7_readTask_J28
  rw [h.2.1, show ((p : Int) + 1) = ((p + 1 : Nat) : Int) by omega, pu_nextC hx h1 (by omega), Option.bind_some, h1.2.1, show (((p + 1 : Nat) : Int) + 1) = ((p + 2 : Nat) : Int) by omega]
  have hJ28 : ¬ (48 ≤ puNt tx n (p + 1) ∧ puNt tx n (p + 1) ≤ 53) → puP ((DX7_fail 81 (gUp σ 81 2 ((p + 1 : Nat) : Int)) ((p + 1 : Nat) : Int)).bind fun q33 => gBo q33.1 (some (q33.1, q33.2))) (fun r => puXF σ r.2 ∧ match puItT tx n p with
    | .inl e => r.1 = 0 ∧ r.2 81 3 = (e : Int)
    | .inr q => r.1 = 1 ∧ puCX r.2 tx n q.1 ∧ puTd r.2 (T ++ [q.2]) A ∧ r.2 81 3 = σ 81 3) := by
    intro c
    rw [puItT_1 c]
    unfold DX7_fail
    rw [pu_bo (Or.inl rfl), Option.bind_some, pu_bo (Or.inl rfl)]
    exact pu_some ⟨(F1.trans (puCF.up (by decide))).xf, rfl, by show gUp (gUp σ 81 2 ((p + 1 : Nat) : Int)) 81 3 ((p + 1 : Nat) : Int) 81 3 = _; exact pu_upE _ _ _ _⟩
  refine pu_if ⟨by omega, by omega⟩ (by decide) (fun c => hJ28 (by omega)) (fun c => ?_)
  refine pu_if ⟨by omega, by omega⟩ (by decide) (fun c' => ?_) (fun c' => hJ28 (by omega))
  have c1 : 48 ≤ puNt tx n (p + 1) ∧ puNt tx n (p + 1) ≤ 53 := by omega
  by_cases c2 : puNt tx n (p + 2) = 44
  · rw [pu_signC1 hx h2 (by omega) (by decide) c2, Option.bind_some]
    refine pu_p1 ?_
    have h3 := h2.up (p + 3)
    have F3 := F2.trans (puCF.up (i := 2) (v := ((p + 3 : Nat) : Int)) (by decide))
    show puP ((DX7_readNumber 81 (gUp (gUp (gUp σ 81 2 ((p + 1 : Nat) : Int)) 81 2 ((p + 2 : Nat) : Int)) 81 2 ((p + 3 : Nat) : Int)) ((3 : Nat) : Int) 0 199).bind _) _
    have e33 : gUp (gUp (gUp σ 81 2 ((p + 1 : Nat) : Int)) 81 2 ((p + 2 : Nat) : Int)) 81 2 ((p + 3 : Nat) : Int) 81 3 = σ 81 3 := by rw [pu_upI (by decide), pu_upI (by decide), pu_upI (by decide)]
    generalize gUp (gUp (gUp σ 81 2 ((p + 1 : Nat) : Int)) 81 2 ((p + 2 : Nat) : Int)) 81 2 ((p + 3 : Nat) : Int) = σ3 at h3 F3 e33 ⊢
    cases e3 : puRd tx n 3 0 199 (p + 3) with
    | inl e =>
      obtain ⟨σ4, w1, w2, w3⟩ := pu_rdC0 hx h3 (by omega) (by decide) (by decide) (by decide) e3
      rw [puItT_3 c1 c2 e3, w1, Option.bind_some]
      refine pu_p0 ?_
      rw [pu_bo (Or.inl rfl)]
      exact pu_some ⟨(F3.trans w2).xf, rfl, w3⟩
    | inr q =>
      obtain ⟨σ4, w1, w2, w3, w4, w5⟩ := pu_rdC1 hx h3 (by omega) (by decide) (by decide) (by decide) e3
      obtain ⟨q1, q2, q3, q4⟩ := puRd_e (by decide) e3
      have F4 := F3.trans w2
      rw [w1, Option.bind_some]
      refine pu_p1 ?_
      by_cases c3 : puNt tx n q.1 = 44
      · have h5 := w3.up (q.1 + 1)
        have F5 := F4.trans (puCF.up (i := 2) (v := ((q.1 + 1 : Nat) : Int)) (by decide))
        rw [show ((1, σ4) : Int × gSt).2 = σ4 from rfl, pu_signC1 hx w3 (by omega) (by decide) c3, Option.bind_some]
        refine pu_p1 ?_
        show puP ((DX7_readNumber 81 (gUp σ4 81 2 ((q.1 + 1 : Nat) : Int)) ((2 : Nat) : Int) 1 60).bind _) _
        have e53 : gUp σ4 81 2 ((q.1 + 1 : Nat) : Int) 81 3 = σ 81 3 := by rw [pu_upI (by decide), w5, e33]
        generalize gUp σ4 81 2 ((q.1 + 1 : Nat) : Int) = σ5 at h5 F5 e53 ⊢
        cases e4 : puRd tx n 2 1 60 (q.1 + 1) with
        | inl e =>
          obtain ⟨σ6, v1, v2, v3⟩ := pu_rdC0 hx h5 (by omega) (by decide) (by decide) (by decide) e4
          rw [puItT_5 c1 c2 e3 c3 e4, v1, Option.bind_some]
          refine pu_p0 ?_
          rw [pu_bo (Or.inl rfl)]
          exact pu_some ⟨(F5.trans v2).xf, rfl, v3⟩
        | inr r =>
          obtain ⟨σ6, v1, v2, v3, v4, v5⟩ := pu_rdC1 hx h5 (by omega) (by decide) (by decide) (by decide) e4
          obtain ⟨r1, r2, r3, r4⟩ := puRd_e (by decide) e4
          have F6 := F5.trans v2
          rw [v1, Option.bind_some]
          refine pu_p1 ?_
          by_cases c4 : puNt tx n r.1 = 59
          · have h7 := v3.up (r.1 + 1)
            have F7 := F6.trans (puCF.up (i := 2) (v := ((r.1 + 1 : Nat) : Int)) (by decide))
            rw [show ((1, σ6) : Int × gSt).2 = σ6 from rfl, pu_signC1 hx v3 (by omega) (by decide) c4, Option.bind_some]
            refine pu_p1 ?_
            have e73 : gUp σ6 81 2 ((r.1 + 1 : Nat) : Int) 81 3 = σ 81 3 := by rw [pu_upI (by decide), v5, e53]
            have e74 : gUp σ6 81 2 ((r.1 + 1 : Nat) : Int) 81 4 = r.2 := by rw [pu_upI (by decide), v4]
            rw [show ((1, gUp σ6 81 2 ((r.1 + 1 : Nat) : Int)) : Int × gSt).2 = gUp σ6 81 2 ((r.1 + 1 : Nat) : Int) from rfl, e74, w4]
            generalize gUp σ6 81 2 ((r.1 + 1 : Nat) : Int) = σ7 at h7 F7 e73 ⊢
            obtain ⟨σ8, x, u1, u2, u3⟩ := pu_tellT (ht.cf F7) hT (puNt tx n (p + 1) - 48) q.2 r.2
            rw [u1, Option.bind_some, pu_bo (Or.inr rfl), puItT_7 c1 c2 e3 c3 e4 c4]
            refine pu_some ⟨F7.xf.trans ⟨fun k _ k2 => u3 k k2, by show σ8 81 1 = σ7 81 1; rw [u3 81 (by omega)]⟩, rfl, ⟨?_, ?_, fun i hi => ?_⟩, u2, ?_⟩
            · show σ8 81 1 = _
              rw [u3 81 (by omega)]
              exact h7.1
            · show σ8 81 2 = _
              rw [u3 81 (by omega)]
              exact h7.2.1
            · show σ8 83 i = _
              rw [u3 83 (by omega)]
              exact h7.2.2 i hi
            · show σ8 81 3 = _
              rw [u3 81 (by omega), e73]
          · rw [show ((1, σ6) : Int × gSt).2 = σ6 from rfl, pu_signC0 hx v3 (by omega) (by decide) c4, Option.bind_some, puItT_6 c1 c2 e3 c3 e4 c4]
            refine pu_p0 ?_
            rw [pu_bo (Or.inl rfl)]
            exact pu_some ⟨(F6.trans (puCF.up (by decide))).xf, rfl, by show gUp σ6 81 3 (r.1 : Int) 81 3 = _; exact pu_upE _ _ _ _⟩
      · rw [show ((1, σ4) : Int × gSt).2 = σ4 from rfl, pu_signC0 hx w3 (by omega) (by decide) c3, Option.bind_some, puItT_4 c1 c2 e3 c3]
        refine pu_p0 ?_
        rw [pu_bo (Or.inl rfl)]
        exact pu_some ⟨(F4.trans (puCF.up (by decide))).xf, rfl, by show gUp σ4 81 3 (q.1 : Int) 81 3 = _; exact pu_upE _ _ _ _⟩
  · rw [pu_signC0 hx h2 (by omega) (by decide) c2, Option.bind_some, puItT_2 c1 c2]
    refine pu_p0 ?_
    rw [pu_bo (Or.inl rfl)]
    exact pu_some ⟨(F2.trans (puCF.up (by decide))).xf, rfl, by show gUp (gUp (gUp σ 81 2 ((p + 1 : Nat) : Int)) 81 2 ((p + 2 : Nat) : Int)) 81 3 ((p + 2 : Nat) : Int) 81 3 = _; exact pu_upE _ _ _ _⟩
theorem pu_readArrow {σ : gSt} {tx : Nat → Int} {n p : Nat} {T : List (Int × Int × Int)} {A : List (Int × Int)} (hx : puTxOk tx n) (h : puCX σ tx n p) (hp : p < n) (ht : puTd σ T A) (hT : T.length ≤ 24) (hA : A.length < 30) (hE : puEnds (T.length : Int) A) : puP (DX7_readArrow 81 14 σ) (fun r => puXF σ r.2 ∧ match puItA tx n p T.length with
    | .inl e => r.1 = 0 ∧ r.2 81 3 = (e : Int)
    | .inr q => r.1 = 1 ∧ puCX r.2 tx n q.1 ∧ puTd r.2 T (puAdd A q.2) ∧ r.2 81 3 = σ 81 3) := by
  have hn := hx.1
  unfold DX7_readArrow
  by_cases c1 : puNt tx n p = 97
  · have h1 : puCX (gUp σ 81 2 ((p + 1 : Nat) : Int)) tx n (p + 1) := h.up (p + 1)
    have F1 : puCF σ (gUp σ 81 2 ((p + 1 : Nat) : Int)) := puCF.up (by decide)
    rw [pu_signC1 hx h (by omega) (by decide) c1, Option.bind_some]
    refine pu_p1 ?_
    rw [show ((1, gUp σ 81 2 ((p + 1 : Nat) : Int)) : Int × gSt).2 = gUp σ 81 2 ((p + 1 : Nat) : Int) from rfl]
    have e13 : gUp σ 81 2 ((p + 1 : Nat) : Int) 81 3 = σ 81 3 := pu_upI (by decide)
    generalize gUp σ 81 2 ((p + 1 : Nat) : Int) = σ1 at h1 F1 e13 ⊢
    have t1 := ht.cf F1
    unfold DX5_taskCount
    rw [Option.bind_some, t1.1]
    show puP ((DX7_readNumber 81 σ1 ((2 : Nat) : Int) 0 ((T.length : Int) - 1)).bind _) _
    cases e3 : puRd tx n 2 0 ((T.length : Int) - 1) (p + 1) with
    | inl e =>
      obtain ⟨σ4, w1, w2, w3⟩ := pu_rdC0 hx h1 (by omega) (by decide) (by decide) ⟨by omega, by omega⟩ e3
      rw [puItA_2 c1 e3, w1, Option.bind_some]
      refine pu_p0 ?_
      rw [pu_bo (Or.inl rfl)]
      exact pu_some ⟨(F1.trans w2).xf, rfl, w3⟩
    | inr q =>
      obtain ⟨σ4, w1, w2, w3, w4, w5⟩ := pu_rdC1 hx h1 (by omega) (by decide) (by decide) ⟨by omega, by omega⟩ e3
      obtain ⟨q1, q2, q3, q4⟩ := puRd_e (by decide) e3
      have F4 := F1.trans w2
      rw [w1, Option.bind_some]
      refine pu_p1 ?_
      by_cases c3 : puNt tx n q.1 = 44
      · have h5 := w3.up (q.1 + 1)
        have F5 := F4.trans (puCF.up (i := 2) (v := ((q.1 + 1 : Nat) : Int)) (by decide))
        rw [show ((1, σ4) : Int × gSt).2 = σ4 from rfl, pu_signC1 hx w3 (by omega) (by decide) c3, Option.bind_some]
        refine pu_p1 ?_
        rw [show ((1, gUp σ4 81 2 ((q.1 + 1 : Nat) : Int)) : Int × gSt).2 = gUp σ4 81 2 ((q.1 + 1 : Nat) : Int) from rfl]
        have e53 : gUp σ4 81 2 ((q.1 + 1 : Nat) : Int) 81 3 = σ 81 3 := by rw [pu_upI (by decide), w5, e13]
        generalize gUp σ4 81 2 ((q.1 + 1 : Nat) : Int) = σ5 at h5 F5 e53 ⊢
        have t5 := ht.cf F5
        rw [Option.bind_some, t5.1]
        show puP ((DX7_readNumber 81 σ5 ((2 : Nat) : Int) 0 ((T.length : Int) - 1)).bind _) _
        cases e4 : puRd tx n 2 0 ((T.length : Int) - 1) (q.1 + 1) with
        | inl e =>
          obtain ⟨σ6, v1, v2, v3⟩ := pu_rdC0 hx h5 (by omega) (by decide) (by decide) ⟨by omega, by omega⟩ e4
          rw [puItA_4 c1 e3 c3 e4, v1, Option.bind_some]
          refine pu_p0 ?_
          rw [pu_bo (Or.inl rfl)]
          exact pu_some ⟨(F5.trans v2).xf, rfl, v3⟩
        | inr r =>
          obtain ⟨σ6, v1, v2, v3, v4, v5⟩ := pu_rdC1 hx h5 (by omega) (by decide) (by decide) ⟨by omega, by omega⟩ e4
          obtain ⟨r1, r2, r3, r4⟩ := puRd_e (by decide) e4
          have F6 := F5.trans v2
          rw [v1, Option.bind_some]
          refine pu_p1 ?_
          rw [show ((1, σ6) : Int × gSt).2 = σ6 from rfl, v4, w4, h5.2.1]
          refine pu_if ⟨by omega, by omega⟩ ⟨by omega, by omega⟩ (fun c4 => ?_) (fun c4 => ?_)
          · unfold DX7_fail
            rw [pu_bo (Or.inl rfl), Option.bind_some, pu_bo (Or.inl rfl), puItA_5 c1 e3 c3 e4 c4]
            exact pu_some ⟨(F6.trans (puCF.up (by decide))).xf, rfl, by show gUp σ6 81 3 ((q.1 + 1 : Nat) : Int) 81 3 = _; exact pu_upE _ _ _ _⟩
          · by_cases c5 : puNt tx n r.1 = 59
            · have h7 := v3.up (r.1 + 1)
              have F7 := F6.trans (puCF.up (i := 2) (v := ((r.1 + 1 : Nat) : Int)) (by decide))
              rw [pu_signC1 hx v3 (by omega) (by decide) c5, Option.bind_some]
              refine pu_p1 ?_
              rw [show ((1, gUp σ6 81 2 ((r.1 + 1 : Nat) : Int)) : Int × gSt).2 = gUp σ6 81 2 ((r.1 + 1 : Nat) : Int) from rfl]
              have e73 : gUp σ6 81 2 ((r.1 + 1 : Nat) : Int) 81 3 = σ 81 3 := by rw [pu_upI (by decide), v5, e53]
              have e74 : gUp σ6 81 2 ((r.1 + 1 : Nat) : Int) 81 4 = r.2 := by rw [pu_upI (by decide), v4]
              rw [e74, puItA_7 c1 e3 c3 e4 c4 c5]
              generalize gUp σ6 81 2 ((r.1 + 1 : Nat) : Int) = σ7 at h7 F7 e73 ⊢
              have t7 := ht.cf F7
              have hr := hE.gR (by omega)
              rw [pu_hasC t7.2.2 (by omega) ⟨by omega, by omega⟩ ⟨by omega, by omega⟩ hr, Option.bind_some, pu_bo (Or.inr rfl)]
              by_cases c6 : puHas A q.2 r.2 A.length = true
              · rw [if_pos c6, pu_ifF (by decide) (by decide) (by decide)]
                refine pu_some ⟨F7.xf, rfl, h7, ?_, e73⟩
                show puTd σ7 T (puAdd A (q.2, r.2))
                unfold puAdd
                rw [if_pos c6]
                exact t7
              · rw [if_neg c6, pu_ifT (by decide) (by decide) rfl]
                obtain ⟨⟨x, σ8⟩, u1, u2, u3, u4, u5⟩ := pu_tellArrow t7.2.2 hA q.2 r.2
                have u3 : puHB σ8 14 (A ++ [(q.2, r.2)]) := u3
                have u4 : ∀ k, k ≠ 14 → k ≠ 24 → k ≠ 26 → σ8 k = σ7 k := u4
                have u5 : ∀ i, i ≠ 7 → σ8 14 i = σ7 14 i := u5
                rw [u1, Option.bind_some, pu_bo (Or.inr rfl)]
                have e81 : σ8 81 = σ7 81 := u4 81 (by decide) (by decide) (by decide)
                refine pu_some ⟨F7.xf.trans ⟨fun k _ k2 => u4 k (by omega) (by omega) (by omega), by show σ8 81 1 = σ7 81 1; rw [e81]⟩, rfl, ⟨?_, ?_, fun i hi => ?_⟩, ?_, ?_⟩
                · show σ8 81 1 = _
                  rw [e81]
                  exact h7.1
                · show σ8 81 2 = _
                  rw [e81]
                  exact h7.2.1
                · show σ8 83 i = _
                  rw [u4 83 (by decide) (by decide) (by decide)]
                  exact h7.2.2 i hi
                · show puTd σ8 T (puAdd A (q.2, r.2))
                  unfold puAdd
                  rw [if_neg c6]
                  refine ⟨by rw [u5 6 (by decide)]; exact t7.1, fun i z hi => ?_, u3⟩
                  rw [u4 18 (by decide) (by decide) (by decide), u4 20 (by decide) (by decide) (by decide), u4 22 (by decide) (by decide) (by decide)]
                  exact t7.2.1 i z hi
                · show σ8 81 3 = _
                  rw [e81, e73]
            · rw [pu_signC0 hx v3 (by omega) (by decide) c5, Option.bind_some, puItA_6 c1 e3 c3 e4 c4 c5]
              refine pu_p0 ?_
              rw [pu_bo (Or.inl rfl)]
              exact pu_some ⟨(F6.trans (puCF.up (by decide))).xf, rfl, by show gUp σ6 81 3 (r.1 : Int) 81 3 = _; exact pu_upE _ _ _ _⟩
      · rw [show ((1, σ4) : Int × gSt).2 = σ4 from rfl, pu_signC0 hx w3 (by omega) (by decide) c3, Option.bind_some, puItA_3 c1 e3 c3]
        refine pu_p0 ?_
        rw [pu_bo (Or.inl rfl)]
        exact pu_some ⟨(F4.trans (puCF.up (by decide))).xf, rfl, by show gUp σ4 81 3 (q.1 : Int) 81 3 = _; exact pu_upE _ _ _ _⟩
  · rw [pu_signC0 hx h (by omega) (by decide) c1, Option.bind_some, puItA_1 c1]
    refine pu_p0 ?_
    rw [pu_bo (Or.inl rfl)]
    exact pu_some ⟨(puCF.up (by decide) : puCF σ _).xf, rfl, by show gUp σ 81 3 (p : Int) 81 3 = _; exact pu_upE _ _ _ _⟩
/-! the class reads all -/
theorem pu_readC_L {tx : Nat → Int} {n : Nat} (hx : puTxOk tx n) {σ0 : gSt} : ∀ (g f x p : Nat) (T : List (Int × Int × Int)) (A : List (Int × Int)) (σ : gSt), n - p < g → n - p < f → x ≤ p → puGd n p T A → puCX σ tx n p → puTd σ T A → σ 81 3 = -1 → puXF σ0 σ → puP (DX7_read_L18 81 14 (f + 1) (x : Int) 1 σ) (fun r => puXF σ0 r.2 ∧ match puPs tx n g p T A with
    | .inl e => r.1 = (e : Int)
    | .inr q => r.1 = -1 ∧ puTd r.2 q.1 q.2) := by
  have hn := hx.1
  intro g
  induction g with
  | zero => intro f x p T A σ h; omega
  | succ g ih =>
    intro f x p T A σ hg hf hxp hG hX hT h3 hF
    obtain ⟨g1, g2, g3, g4⟩ := hG
    have hi := puNt_in hx p
    rw [DX7_read_L18, pu_ifF (by decide) (by decide) (by decide), hX.2.1, hX.1]
    unfold puPs
    by_cases c : p < n
    · rw [pu_ifT ⟨by omega, by omega⟩ ⟨by omega, by omega⟩ (by omega), pu_ifT ⟨by omega, by omega⟩ (by decide) (by omega), pu_nextC hx hX (by omega), Option.bind_some, if_pos c]
      obtain ⟨f, rfl⟩ : ∃ f', f = f' + 1 := ⟨f - 1, by omega⟩
      unfold DX7_read_J62
      rw [show ((x : Int) + 1) = ((x + 1 : Nat) : Int) by omega]
      by_cases c2 : puNt tx n p = 116
      · rw [pu_ifT ⟨by omega, by omega⟩ (by decide) c2, if_pos c2]
        refine pu_b (pu_readTask hx hX c hT (by omega)) (fun r w => ?_)
        obtain ⟨r0, σ1⟩ := r
        obtain ⟨w1, w2⟩ := w
        have w1 : puXF σ σ1 := w1
        cases e : puItT tx n p with
        | inl e0 =>
          rw [e] at w2
          have w2 : r0 = 0 ∧ σ1 81 3 = (e0 : Int) := w2
          show puP (DX7_read_L18 81 14 (f + 1) ((x + 1 : Nat) : Int) r0 σ1) _
          rw [w2.1, DX7_read_L18, pu_ifT (by decide) (by decide) rfl]
          exact pu_some ⟨hF.trans w1, w2.2⟩
        | inr q =>
          rw [e] at w2
          have w2 : r0 = 1 ∧ puCX σ1 tx n q.1 ∧ puTd σ1 (T ++ [q.2]) A ∧ σ1 81 3 = σ 81 3 := w2
          obtain ⟨d1, d2⟩ := puItT_gd ⟨g1, g2, g3, g4⟩ c (p' := q.1) (q := q.2) e
          show puP (DX7_read_L18 81 14 (f + 1) ((x + 1 : Nat) : Int) r0 σ1) _
          rw [w2.1]
          exact ih f (x + 1) q.1 (T ++ [q.2]) A σ1 (by omega) (by omega) (by omega) d1 w2.2.1 w2.2.2.1 (by rw [w2.2.2.2, h3]) (hF.trans w1)
      · rw [pu_ifF ⟨by omega, by omega⟩ (by decide) c2, if_neg c2]
        refine pu_b (pu_readArrow hx hX c hT (by omega) (by omega) g4) (fun r w => ?_)
        obtain ⟨r0, σ1⟩ := r
        obtain ⟨w1, w2⟩ := w
        have w1 : puXF σ σ1 := w1
        cases e : puItA tx n p T.length with
        | inl e0 =>
          rw [e] at w2
          have w2 : r0 = 0 ∧ σ1 81 3 = (e0 : Int) := w2
          show puP (DX7_read_L18 81 14 (f + 1) ((x + 1 : Nat) : Int) r0 σ1) _
          rw [w2.1, DX7_read_L18, pu_ifT (by decide) (by decide) rfl]
          exact pu_some ⟨hF.trans w1, w2.2⟩
        | inr q =>
          rw [e] at w2
          have w2 : r0 = 1 ∧ puCX σ1 tx n q.1 ∧ puTd σ1 T (puAdd A q.2) ∧ σ1 81 3 = σ 81 3 := w2
          obtain ⟨d1, d2⟩ := puItA_gd ⟨g1, g2, g3, g4⟩ c (p' := q.1) (q := q.2) e
          show puP (DX7_read_L18 81 14 (f + 1) ((x + 1 : Nat) : Int) r0 σ1) _
          rw [w2.1]
          exact ih f (x + 1) q.1 T (puAdd A q.2) σ1 (by omega) (by omega) (by omega) d1 w2.2.1 w2.2.2.1 (by rw [w2.2.2.2, h3]) (hF.trans w1)
    · rw [pu_ifF ⟨by omega, by omega⟩ ⟨by omega, by omega⟩ (by omega), if_neg c]
      exact pu_some ⟨hF, h3, hT⟩
theorem pu_readC {σ : gSt} {tx : Nat → Int} {n : Nat} (hx : puTxOk tx n) (h1 : σ 81 1 = (n : Int)) (h83 : ∀ i : Nat, i < n → σ 83 i = tx i) : puP (DX7_read 81 14 σ) (fun r => puXF σ r.2 ∧ match puPs tx n 200 0 [] [] with
    | .inl e => r.1 = (e : Int)
    | .inr q => r.1 = -1 ∧ puTd r.2 q.1 q.2) := by
  have hn := hx.1
  unfold DX7_read DX5_forgetTasksAndArrows
  rw [Option.bind_some]
  obtain ⟨f, hf⟩ : ∃ f, gFuel = f + 1 := ⟨99999, rfl⟩
  have hf2 : f = 99999 := by
    have := gFuel_eq
    omega
  rw [hf]
  refine pu_readC_L hx (σ0 := σ) 200 f 0 0 [] [] _ (by omega) (by omega) (Nat.le_refl _) ⟨Nat.zero_le _, Nat.le_refl _, (fun q hq => by cases hq), (fun q hq => by cases hq)⟩ ⟨?_, ?_, fun i hi => ?_⟩ ⟨?_, (fun i q hi => by cases hi), ?_, (fun i q hi => by cases hi)⟩ (pu_upE _ _ _ _) ⟨fun k k1 k2 => ?_, ?_⟩
  · rw [pu_upI (by decide), pu_upI (by decide), pu_upK (by decide), pu_upK (by decide), h1]
  · rw [pu_upI (by decide), pu_upE]
    rfl
  · rw [pu_upK (by decide), pu_upK (by decide), pu_upK (by decide), pu_upK (by decide)]
    exact h83 i hi
  · rw [pu_upK (by decide), pu_upK (by decide), pu_upI (by decide), pu_upE]
    rfl
  · rw [pu_upK (by decide), pu_upK (by decide), pu_upE]
    rfl
  · rw [pu_upK k1, pu_upK k1, pu_upK (by omega), pu_upK (by omega)]
  · rw [pu_upI (by decide), pu_upI (by decide), pu_upK (by decide), pu_upK (by decide)]
