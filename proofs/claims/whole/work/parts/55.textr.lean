/-! the reference reads -/
def puRX (τ : gSt) (tx : Nat → Int) (n p : Nat) : Prop := τ 136 5 = (n : Int) ∧ τ 136 16 = (p : Int) ∧ ∀ i : Nat, i < n → τ 140 i = tx i
def puRG (τ τ' : gSt) : Prop := (∀ k, k ≠ 136 → τ' k = τ k) ∧ (∀ i, i ≠ 16 → i ≠ 17 → τ' 136 i = τ 136 i)
theorem puRG.trans {τ τ1 τ2 : gSt} (h1 : puRG τ τ1) (h2 : puRG τ1 τ2) : puRG τ τ2 := ⟨fun k hk => by rw [h2.1 k hk, h1.1 k hk], fun i i1 i2 => by rw [h2.2 i i1 i2, h1.2 i i1 i2]⟩
theorem puRG.rf {τ : gSt} : puRG τ τ := ⟨fun _ _ => rfl, fun _ _ _ => rfl⟩
theorem puRG.up {τ : gSt} {i : Nat} {v : Int} (h : i = 16 ∨ i = 17) : puRG τ (gUp τ 136 i v) := ⟨fun k hk => pu_upK hk, fun j j1 j2 => pu_upI (by omega)⟩
section PUZ
variable {tx : Nat → Int} {n p : Nat}
theorem puRX.up {τ : gSt} (h : puRX τ tx n p) (q : Nat) : puRX (gUp τ 136 16 (q : Int)) tx n q := ⟨by rw [pu_upI (by decide)]; exact h.1, pu_upE _ _ _ _, fun i hi => by rw [pu_upK (by decide)]; exact h.2.2 i hi⟩
theorem puRX.up' {τ : gSt} (h : puRX τ tx n p) (v : Int) : puRX (gUp τ 136 17 v) tx n p := ⟨by rw [pu_upI (by decide)]; exact h.1, by rw [pu_upI (by decide)]; exact h.2.1, fun j hj => by rw [pu_upK (by decide)]; exact h.2.2 j hj⟩
theorem pu_isAt {τ : gSt} {lo hi : Int} (hx : puTxOk tx n) (h : puRX τ tx n p) (hp : p ≤ 1000) (hlo : 0 ≤ lo ∧ lo ≤ 1000) (hhi : gR hi) : DX9_isAt τ lo hi = some (if lo ≤ puNt tx n p ∧ puNt tx n p ≤ hi then 1 else 0) := by
  have hn := hx.1
  unfold DX9_isAt puNt
  rw [h.2.1, h.1, pu_bo (Or.inl rfl), pu_bo (Or.inr rfl)]
  by_cases c : p < n
  · have ht := hx.2 p c
    rw [pu_ifT ⟨by omega, by omega⟩ ⟨by omega, by omega⟩ (by omega), pu_gat (by omega) (by omega), Int.toNat_natCast, h.2.2 p c, pu_in ⟨by omega, by omega⟩ ⟨by omega, by omega⟩ hhi, Option.bind_some, if_pos c]
    by_cases c2 : lo ≤ tx p ∧ tx p ≤ hi
    · rw [if_pos c2, pu_ifF (by decide) (by decide) (by decide)]
    · rw [if_neg c2, pu_ifT (by decide) (by decide) rfl]
  · rw [pu_ifF ⟨by omega, by omega⟩ ⟨by omega, by omega⟩ (by omega), if_neg c, if_neg (by omega)]
theorem pu_takes1 {τ : gSt} {c : Int} (hx : puTxOk tx n) (h : puRX τ tx n p) (hp : p ≤ 1000) (hc : 0 ≤ c ∧ c ≤ 1000) (e : puNt tx n p = c) : DX9_takes τ c = some (1, gUp τ 136 16 ((p + 1 : Nat) : Int)) := by
  unfold DX9_takes DX9_takes_J21
  rw [pu_isAt hx h hp hc ⟨by omega, by omega⟩, Option.bind_some, if_pos (by omega), pu_ifF (by decide) (by decide) (by decide), pu_bo (Or.inr rfl), h.2.1, show ((p : Int) + 1) = ((p + 1 : Nat) : Int) by omega]
theorem pu_takes0 {τ : gSt} {c : Int} (hx : puTxOk tx n) (h : puRX τ tx n p) (hp : p ≤ 1000) (hc : 0 ≤ c ∧ c ≤ 1000) (e : ¬ puNt tx n p = c) : DX9_takes τ c = some (0, gUp τ 136 16 (p : Int)) := by
  unfold DX9_takes DX9_takes_J21
  rw [pu_isAt hx h hp hc ⟨by omega, by omega⟩, Option.bind_some, if_neg (by omega), pu_ifT (by decide) (by decide) rfl, pu_bo (Or.inl rfl), h.2.1, Int.add_zero]
theorem pu_rdR_L {τ0 : gSt} {d : Nat} {r : Nat × Int} (hx : puTxOk tx n) (h0 : τ0 136 16 = (p : Int)) (hp : p ≤ 900) (hd3 : d ≤ 3) {K : gSt → Option (Int × gSt)} {Q : Int × gSt → Prop} (kk : ∀ τ', puRX τ' tx n r.1 → τ' 136 17 = r.2 → puRG τ0 τ' → puP (K τ') Q) : ∀ (f k x : Nat) (v : Int) (τ : gSt), k < f → x + k = p + d → p ≤ x → puDg tx n k x v = r → puRX τ tx n x → τ 136 17 = v → puRG τ0 τ → puP (DX9_isNumber_L10 K τ0 (d : Int) f τ) Q := by
  have hn := hx.1
  intro f
  induction f with
  | zero => intro k x v τ h; omega
  | succ f ih =>
    intro k x v τ hf hk hpx hr hX h4 hF
    have hi := puNt_in hx x
    rw [DX9_isNumber_L10, h0, hX.2.1]
    cases k with
    | zero =>
      rw [pu_ifF ⟨by omega, by omega⟩ ⟨by omega, by omega⟩ (by omega)]
      have hr : (x, v) = r := hr
      rw [← hr] at kk
      exact kk τ hX h4 hF
    | succ k =>
      rw [pu_ifT ⟨by omega, by omega⟩ ⟨by omega, by omega⟩ (by omega), pu_isAt hx hX (by omega) (by decide) (by decide), Option.bind_some]
      unfold puDg at hr
      by_cases c : 48 ≤ puNt tx n x ∧ puNt tx n x ≤ 57
      · have hlt := puNt_lt (tx := tx) (n := n) (p := x) (by omega)
        have htx : puNt tx n x = tx x := by unfold puNt; rw [if_pos hlt]
        rw [if_pos c] at hr
        rw [if_pos c, pu_ifF (by decide) (by decide) (by decide), pu_gat (by omega) (by omega), Int.toNat_natCast, h4, hX.2.2 x hlt, ← htx]
        have e2 : gUp τ 136 17 ((10 * v + puNt tx n x) - 48) 136 16 = (x : Int) := by rw [pu_upI (by decide)]; exact hX.2.1
        rw [e2, show ((x : Int) + 1) = ((x + 1 : Nat) : Int) by omega]
        exact ih k (x + 1) _ _ (by omega) (by omega) (by omega) hr ((hX.up' _).up (x + 1)) (by rw [pu_upI (by decide), pu_upE]) ((hF.trans (puRG.up (Or.inr rfl))).trans (puRG.up (Or.inl rfl)))
      · rw [if_neg c] at hr
        rw [if_neg c, pu_ifT (by decide) (by decide) rfl]
        rw [← hr] at kk
        exact kk τ hX h4 hF
/-- a number, read by the reference -/
theorem pu_rdR {τ : gSt} {d : Nat} {lo hi no : Int} (hx : puTxOk tx n) (h : puRX τ tx n p) (hp : p ≤ 900) (hd3 : d ≤ 3) (hlo : gR lo) (hhi : gR hi) (hno : gR no) : puP (DX9_isWithin τ (d : Int) lo hi no) (fun r => puRG τ r.2 ∧ match puRd tx n d lo hi p with
    | .inl e => r.1 = 0 ∧ r.2 136 16 = (e : Int)
    | .inr q => if q.2 = no then r.1 = 0 ∧ r.2 136 16 = (p : Int) else r.1 = 1 ∧ puRX r.2 tx n q.1 ∧ r.2 136 17 = q.2) := by
  obtain ⟨g1, g2, g3, g4⟩ := puDg_3 (tx := tx) (n := n) hd3 p
  have hi1 := puNt_in hx (puDg tx n d p 0).1
  unfold DX9_isWithin DX9_isNumber
  have hK : ∀ τ', puRX τ' tx n (puDg tx n d p 0).1 → τ' 136 17 = (puDg tx n d p 0).2 → puRG τ τ' → puP (DX9_isNumber_K68 τ τ') (fun r => puRG τ r.2 ∧ r.2 = τ' ∧ ((r.1 = 0 ∧ ((puDg tx n d p 0).1 = p ∨ (48 ≤ puNt tx n (puDg tx n d p 0).1 ∧ puNt tx n (puDg tx n d p 0).1 ≤ 57))) ∨ (r.1 = 1 ∧ ¬ ((puDg tx n d p 0).1 = p ∨ (48 ≤ puNt tx n (puDg tx n d p 0).1 ∧ puNt tx n (puDg tx n d p 0).1 ≤ 57))))) := by
    intro τ' hX h4 hF
    unfold DX9_isNumber_K68
    rw [hX.2.1, h.2.1, pu_isAt hx hX (by omega) (by decide) (by decide), Option.bind_some, pu_bo (Or.inl rfl), pu_bo (Or.inr rfl)]
    refine pu_if ⟨by omega, by omega⟩ ⟨by omega, by omega⟩ (fun c => ?_) (fun c => pu_some ⟨hF, rfl, Or.inl ⟨rfl, Or.inl (by omega)⟩⟩)
    by_cases c2 : 48 ≤ puNt tx n (puDg tx n d p 0).1 ∧ puNt tx n (puDg tx n d p 0).1 ≤ 57
    · rw [if_pos c2, pu_ifF (by decide) (by decide) (by decide)]
      exact pu_some ⟨hF, rfl, Or.inl ⟨rfl, Or.inr c2⟩⟩
    · rw [if_neg c2, pu_ifT (by decide) (by decide) rfl]
      refine pu_some ⟨hF, rfl, Or.inr ⟨rfl, ?_⟩⟩
      rintro (q | q)
      · omega
      · exact c2 q
  have hL : puP (DX9_isNumber_L10 (DX9_isNumber_K68 τ) τ (d : Int) gFuel (gUp τ 136 17 0)) (fun r => puRG τ r.2 ∧ puRX r.2 tx n (puDg tx n d p 0).1 ∧ r.2 136 17 = (puDg tx n d p 0).2 ∧ ((r.1 = 0 ∧ ((puDg tx n d p 0).1 = p ∨ (48 ≤ puNt tx n (puDg tx n d p 0).1 ∧ puNt tx n (puDg tx n d p 0).1 ≤ 57))) ∨ (r.1 = 1 ∧ ¬ ((puDg tx n d p 0).1 = p ∨ (48 ≤ puNt tx n (puDg tx n d p 0).1 ∧ puNt tx n (puDg tx n d p 0).1 ≤ 57))))) := by
    refine pu_rdR_L (τ0 := τ) (p := p) (d := d) (r := puDg tx n d p 0) hx h.2.1 hp hd3 (fun τ' a1 a2 a3 => pu_mono (hK τ' a1 a2 a3) (fun r w => ⟨w.1, ?_, ?_, w.2.2⟩)) gFuel d p 0 _ (by rw [gFuel_eq]; omega) rfl (Nat.le_refl _) rfl (h.up' 0) (pu_upE _ _ _ _) (puRG.up (Or.inr rfl))
    · rw [w.2.1]
      exact a1
    · rw [w.2.1]
      exact a2
  refine pu_b hL (fun r w => ?_)
  obtain ⟨r0, τ1⟩ := r
  obtain ⟨w1, w2, w3, w4⟩ := w
  have w1 : puRG τ τ1 := w1
  have w2 : puRX τ1 tx n (puDg tx n d p 0).1 := w2
  have w3 : τ1 136 17 = (puDg tx n d p 0).2 := w3
  unfold puRd
  rcases w4 with ⟨e1, e2⟩ | ⟨e1, e2⟩
  · have e1 : r0 = 0 := e1
    subst e1
    refine pu_p0 ?_
    rw [if_pos e2, pu_bo (Or.inl rfl)]
    exact pu_some ⟨w1, rfl, w2.2.1⟩
  · have e1 : r0 = 1 := e1
    subst e1
    have w1 : puRG τ τ1 := w1
    have w2 : puRX τ1 tx n (puDg tx n d p 0).1 := w2
    have w3 : τ1 136 17 = (puDg tx n d p 0).2 := w3
    refine pu_p1 ?_
    rw [if_neg e2]
    have hJ41 : puP (DX9_isWithin_J41 τ ((1, τ1) : Int × gSt)) (fun r => puRG τ r.2 ∧ r.1 = 0 ∧ r.2 136 16 = (p : Int)) := by
      unfold DX9_isWithin_J41 DX9_isWithin_J42
      rw [pu_ifT (by decide) (by decide) rfl, pu_bo (Or.inl rfl), h.2.1]
      exact pu_some ⟨w1.trans (puRG.up (Or.inl rfl)), rfl, by show gUp τ1 136 16 (p : Int) 136 16 = _; exact pu_upE _ _ _ _⟩
    rw [show ((1, τ1) : Int × gSt).2 = τ1 from rfl, w3, pu_in ⟨by omega, by omega⟩ hlo hhi, Option.bind_some]
    by_cases c : lo ≤ (puDg tx n d p 0).2 ∧ (puDg tx n d p 0).2 ≤ hi
    · rw [if_pos c, pu_ifF (by decide) (by decide) (by decide), if_neg (by omega)]
      refine pu_if ⟨by omega, by omega⟩ hno (fun c2 => ?_) (fun c2 => ?_)
      · refine pu_mono hJ41 (fun r z => ⟨z.1, ?_⟩)
        show if (puDg tx n d p 0).2 = no then _ else _
        rw [if_pos c2]
        exact z.2
      · unfold DX9_isWithin_J42
        rw [pu_ifF (by decide) (by decide) (by decide), pu_bo (Or.inr rfl), show ((1, τ1) : Int × gSt).2 = τ1 from rfl, w2.2.1]
        refine pu_some ⟨w1.trans (puRG.up (Or.inl rfl)), ?_⟩
        show if (puDg tx n d p 0).2 = no then _ else _
        rw [if_neg c2]
        exact ⟨rfl, w2.up _, by show gUp τ1 136 16 ((puDg tx n d p 0).1 : Int) 136 17 = _; rw [pu_upI (by decide)]; exact w3⟩
    · rw [if_neg c, pu_ifT (by decide) (by decide) rfl, if_pos (by omega)]
      exact pu_mono hJ41 (fun r z => ⟨z.1, z.2⟩)
theorem pu_rdR0 {τ : gSt} {d e : Nat} {lo hi no : Int} (hx : puTxOk tx n) (h : puRX τ tx n p) (hp : p ≤ 900) (hd3 : d ≤ 3) (hlo : gR lo) (hhi : gR hi) (hno : gR no) (he : puRd tx n d lo hi p = .inl e) : ∃ τ', DX9_isWithin τ (d : Int) lo hi no = some (0, τ') ∧ puRG τ τ' ∧ τ' 136 16 = (e : Int) := by
  obtain ⟨⟨r, τ'⟩, e1, e2, e3⟩ := pu_rdR hx h hp hd3 hlo hhi hno
  rw [he] at e3
  have e3 : r = 0 ∧ τ' 136 16 = (e : Int) := e3
  rw [e3.1] at e1
  exact ⟨τ', e1, e2, e3.2⟩
theorem pu_rdR1 {τ : gSt} {d : Nat} {q : Nat × Int} {lo hi no : Int} (hx : puTxOk tx n) (h : puRX τ tx n p) (hp : p ≤ 900) (hd3 : d ≤ 3) (hlo : gR lo) (hhi : gR hi) (hno : gR no) (he : puRd tx n d lo hi p = .inr q) (hq : ¬ q.2 = no) : ∃ τ', DX9_isWithin τ (d : Int) lo hi no = some (1, τ') ∧ puRG τ τ' ∧ puRX τ' tx n q.1 ∧ τ' 136 17 = q.2 := by
  obtain ⟨⟨r, τ'⟩, e1, e2, e3⟩ := pu_rdR hx h hp hd3 hlo hhi hno
  rw [he] at e3
  have e3 : if q.2 = no then r = 0 ∧ τ' 136 16 = (p : Int) else r = 1 ∧ puRX τ' tx n q.1 ∧ τ' 136 17 = q.2 := e3
  rw [if_neg hq] at e3
  rw [e3.1] at e1
  exact ⟨τ', e1, e2, e3.2⟩
theorem pu_rdR2 {τ : gSt} {d : Nat} {q : Nat × Int} {lo hi no : Int} (hx : puTxOk tx n) (h : puRX τ tx n p) (hp : p ≤ 900) (hd3 : d ≤ 3) (hlo : gR lo) (hhi : gR hi) (hno : gR no) (he : puRd tx n d lo hi p = .inr q) (hq : q.2 = no) : ∃ τ', DX9_isWithin τ (d : Int) lo hi no = some (0, τ') ∧ puRG τ τ' ∧ τ' 136 16 = (p : Int) := by
  obtain ⟨⟨r, τ'⟩, e1, e2, e3⟩ := pu_rdR hx h hp hd3 hlo hhi hno
  rw [he] at e3
  have e3 : if q.2 = no then r = 0 ∧ τ' 136 16 = (p : Int) else r = 1 ∧ puRX τ' tx n q.1 ∧ τ' 136 17 = q.2 := e3
  rw [if_pos hq] at e3
  rw [e3.1] at e1
  exact ⟨τ', e1, e2, e3.2⟩
end PUZ
/-- the reference's row while it reads -/
def puRT (s s0 : Nat → Int) (T : List (Int × Int × Int)) (A : List (Int × Int)) : Prop := s 4 = (T.length : Int) ∧ (∀ (i : Nat) (q : Int × Int × Int), T[i]? = some q → s (5 + 3 * i) = q.1 ∧ s (6 + 3 * i) = q.2.1 ∧ s (7 + 3 * i) = q.2.2) ∧ puHA s A ∧ (∀ i : Nat, i < 4 ∨ 138 ≤ i → s i = s0 i)
def puRH (τ τ' : gSt) : Prop := (∀ k, k ≠ 136 → k ≠ 137 → τ' k = τ k) ∧ (∀ i, i ≠ 16 → i ≠ 17 → τ' 136 i = τ 136 i)
theorem puRH.trans {τ τ1 τ2 : gSt} (h1 : puRH τ τ1) (h2 : puRH τ1 τ2) : puRH τ τ2 := ⟨fun k hk hk2 => by rw [h2.1 k hk hk2, h1.1 k hk hk2], fun i i1 i2 => by rw [h2.2 i i1 i2, h1.2 i i1 i2]⟩
theorem puRH.rf {τ : gSt} : puRH τ τ := ⟨fun _ _ _ => rfl, fun _ _ _ => rfl⟩
theorem puRG.h {τ τ' : gSt} (h : puRG τ τ') : puRH τ τ' := ⟨fun k hk _ => h.1 k hk, h.2⟩
theorem puRT_add {s s0 : Nat → Int} {T : List (Int × Int × Int)} {A : List (Int × Int)} (h : puRT s s0 T A) (hT : T.length < 24) (g f l : Int) : puRT (puAddT s T.length g f l) s0 (T ++ [(g, f, l)]) A := by
  obtain ⟨h1, h2, h3, h4⟩ := h
  refine ⟨?_, fun i q hi => ?_, ⟨?_, fun i q hi => ?_⟩, fun i hi => ?_⟩
  · rw [puAddT_4, List.length_append]
    show (T.length : Int) + 1 = ((T.length + 1 : Nat) : Int)
    omega
  · rcases pu_snocT hi with ⟨c, e⟩ | ⟨c, e⟩
    · rw [puAddT_o (j := 5 + 3 * i) (by omega) (by omega), puAddT_o (j := 6 + 3 * i) (by omega) (by omega), puAddT_o (j := 7 + 3 * i) (by omega) (by omega)]
      exact h2 i q e
    · rw [e, c, puAddT_n.1, puAddT_n.2.1, puAddT_n.2.2]
      exact ⟨rfl, rfl, rfl⟩
  · rw [puAddT_o (by decide) (by omega)]
    exact h3.1
  · rw [puAddT_o (j := 78 + 2 * i) (by omega) (by omega), puAddT_o (j := 79 + 2 * i) (by omega) (by omega)]
    exact h3.2 i q hi
  · rw [puAddT_o (by omega) (by omega)]
    exact h4 i hi
theorem pu_comesHi {τ τ' : gSt} {l : List (Int × Int)} (hA : puHA (τ 137) l) (hl : l.length < 30) {u v : Int} (e : DX9_arrowComes τ u v = some τ') : ∀ j, 138 ≤ j → τ' 137 j = τ 137 j := by
  have e77 : τ 137 (Int.toNat (77 : Int)) = (l.length : Int) := hA.1
  unfold DX9_arrowComes at e
  rw [e77, pu_gat (by decide) (by decide), pu_gat (by omega) (by omega), pu_gat (by decide) (by decide), show Int.toNat ((78 : Int) + 2 * (l.length : Int)) = 78 + 2 * l.length by omega, show Int.toNat (77 : Int) = 77 from rfl] at e
  have e7 : gUp τ 137 (78 + 2 * l.length) u 137 77 = (l.length : Int) := by rw [pu_upI (by omega)]; exact hA.1
  rw [e7, pu_gat (by omega) (by omega), pu_gat (by decide) (by decide), pu_gat (by decide) (by decide), show Int.toNat ((78 : Int) + 2 * (l.length : Int) + 1) = 79 + 2 * l.length by omega] at e
  intro j hj
  have e2 := Option.some.inj e
  rw [← e2, pu_upI (by omega), pu_upI (by omega), pu_upI (by omega)]
