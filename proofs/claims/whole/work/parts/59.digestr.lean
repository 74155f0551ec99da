/-! the reference's digest -/
theorem pu_mix (q : gSt) (μ : gLg) (h : Int64) (v : Int) : DX9_mix q (gUl μ 136 h) v = some (gUl μ 136 (puMix h v)) := by
  unfold DX9_mix
  have e : gUl μ 136 h 136 = h := by simp [gUl]
  rw [e, puMix_e]
  congr 1
  funext k
  unfold gUl
  by_cases c : k = 136
  · rw [if_pos c, if_pos c]
  · rw [if_neg c, if_neg c, if_neg c]
theorem puNN {a b B R : Nat} (h1 : a < B) (h2 : B ≤ 24) (h3 : b < R) (h4 : R ≤ 20) : 0 ≤ (20 : Int) * (a : Int) + (b : Int) ∧ (20 : Int) * (a : Int) + (b : Int) < ((480 : Nat) : Int) ∧ Int.toNat ((20 : Int) * (a : Int) + (b : Int)) = 20 * a + b ∧ 20 * a + b < 20 * B := by omega
section PUE
variable {σ τ : gSt} {s : Nat → Int} {μ : gLg}
theorem pu_rV_L (hs : τ 137 = s) {K : gLg → Option (Int64 × gSt × gLg)} {h0 : Int64} : ∀ (f x : Nat), 6 - x < f → x ≤ 6 → DX9_digest_L26 K τ f (x : Int) (gUl μ 136 (puSeq (fun w h => puMix h (puVA s w)) x h0)) = K (gUl μ 136 (puSeq (fun w h => puMix h (puVA s w)) 6 h0)) := by
  intro f
  induction f with
  | zero => intro x h; omega
  | succ f ih =>
    intro x hf hx
    rw [DX9_digest_L26]
    by_cases c : (x : Int) < 6
    · rw [pu_ifT ⟨by omega, by omega⟩ (by decide) c, pu_vA_R hs (by omega), Option.bind_some, pu_mix, Option.bind_some, show ((x : Int) + 1) = ((x + 1 : Nat) : Int) by omega]
      exact ih (x + 1) (by omega) (by omega)
    · rw [pu_ifF ⟨by omega, by omega⟩ (by decide) c, show x = 6 by omega]
theorem pu_rV (hs : τ 137 = s) {K : gLg → Option (Int64 × gSt × gLg)} (h0 : Int64) : DX9_digest_L26 K τ gFuel 0 (gUl μ 136 h0) = K (gUl μ 136 (puSeq (fun w h => puMix h (puVA s w)) 6 h0)) :=
  pu_rV_L hs gFuel 0 (by rw [gFuel_eq]; omega) (Nat.zero_le _)
theorem pu_rT_L61 (ho : puOk s) (hs : τ 137 = s) (hB : puRR τ s (s 0).toNat) {t : Nat} (ht : (t : Int) < s 4) {K : gLg → Option (Int64 × gSt × gLg)} {h0 : Int64} : ∀ (f x : Nat), 7 - x < f → x ≤ 7 → DX9_digest_L61 K τ (t : Int) f (x : Int) (gUl μ 136 (puSeq (fun w h => puMix h (puTA s t w)) x h0)) = K (gUl μ 136 (puSeq (fun w h => puMix h (puTA s t w)) 7 h0)) := by
  intro f
  induction f with
  | zero => intro x h; omega
  | succ f ih =>
    intro x hf hx
    rw [DX9_digest_L61]
    by_cases c : (x : Int) < 7
    · rw [pu_ifT ⟨by omega, by omega⟩ (by decide) c, pu_tA_R ho hs hB ht (by omega), Option.bind_some, pu_mix, Option.bind_some, show ((x : Int) + 1) = ((x + 1 : Nat) : Int) by omega]
      exact ih (x + 1) (by omega) (by omega)
    · rw [pu_ifF ⟨by omega, by omega⟩ (by decide) c, show x = 7 by omega]
theorem pu_rT_in (ho : puOk s) (hs : τ 137 = s) (hB : puRR τ s (s 0).toNat) {t : Nat} (ht : (t : Int) < s 4) {K : gLg → Option (Int64 × gSt × gLg)} (h0 : Int64) : DX9_digest_L61 K τ (t : Int) gFuel 0 (gUl μ 136 h0) = K (gUl μ 136 (puSeq (fun w h => puMix h (puTA s t w)) 7 h0)) :=
  pu_rT_L61 ho hs hB ht gFuel 0 (by rw [gFuel_eq]; omega) (Nat.zero_le _)
theorem pu_rT_L49 (ho : puOk s) (hs : τ 137 = s) (hB : puRR τ s (s 0).toNat) {K : gLg → Option (Int64 × gSt × gLg)} {h0 : Int64} : ∀ (f x : Nat), (s 4).toNat - x < f → (x : Int) ≤ s 4 → DX9_digest_L49 K τ f (x : Int) (gUl μ 136 (puSeq (fun t h => puSeq (fun w h => puMix h (puTA s t w)) 7 h) x h0)) = K (gUl μ 136 (puSeq (fun t h => puSeq (fun w h => puMix h (puTA s t w)) 7 h) (s 4).toNat h0)) := by
  have hn := ho.tasks
  intro f
  induction f with
  | zero => intro x h; omega
  | succ f ih =>
    intro x hf hx
    rw [DX9_digest_L49, pu_gat (by decide) (by decide), pu_r4 hs]
    by_cases c : (x : Int) < s 4
    · have hh := ih (x + 1) (by omega) (by omega)
      rw [pu_ifT ⟨by omega, by omega⟩ ⟨by omega, by omega⟩ c, pu_rT_in ho hs hB c]
      unfold DX9_digest_K83
      rw [show ((x : Int) + 1) = ((x + 1 : Nat) : Int) by omega]
      exact hh
    · rw [pu_ifF ⟨by omega, by omega⟩ ⟨by omega, by omega⟩ c, show x = (s 4).toNat by omega]
theorem pu_rT (ho : puOk s) (hs : τ 137 = s) (hB : puRR τ s (s 0).toNat) {K : gLg → Option (Int64 × gSt × gLg)} (h0 : Int64) : DX9_digest_L49 K τ gFuel 0 (gUl μ 136 h0) = K (gUl μ 136 (puSeq (fun t h => puSeq (fun w h => puMix h (puTA s t w)) 7 h) (s 4).toNat h0)) := by
  have hn := ho.tasks
  exact pu_rT_L49 ho hs hB gFuel 0 (by rw [gFuel_eq]; omega) (by omega)
theorem pu_rB_L99 (ho : puOk s) (hs : τ 137 = s) (hB : puRR τ s (s 0).toNat) {K : gLg → Option (Int64 × gSt × gLg)} {h0 : Int64} : ∀ (f x : Nat), puBands s (s 0).toNat * (s 0).toNat - x < f → x ≤ puBands s (s 0).toNat * (s 0).toNat → DX9_digest_L99 K τ f (x : Int) (gUl μ 136 (puSeq (fun k h => puMix h (puRow s (s 0).toNat (20 * (k / (s 0).toNat) + k % (s 0).toNat))) x h0)) = K (gUl μ 136 (puSeq (fun k h => puMix h (puRow s (s 0).toNat (20 * (k / (s 0).toNat) + k % (s 0).toNat))) (puBands s (s 0).toNat * (s 0).toNat) h0)) := by
  have hR := ho.rows
  have hb24 := puBands_le (R := (s 0).toNat) ho (by omega)
  have eR : s 0 = ((s 0).toNat : Int) := by omega
  have hp : puBands s (s 0).toNat * (s 0).toNat ≤ 24 * 20 := Nat.mul_le_mul hb24 (by omega)
  have eP : (puBands s (s 0).toNat : Int) * s 0 = ((puBands s (s 0).toNat * (s 0).toNat : Nat) : Int) := by
    rw [Int.natCast_mul, ← eR]
  intro f
  induction f with
  | zero => intro x h; omega
  | succ f ih =>
    intro x hf hx
    rw [DX9_digest_L99, pu_gat (by decide) (by decide), pu_r0 hs, hB.1, eP]
    by_cases c : x < puBands s (s 0).toNat * (s 0).toNat
    · have hq : x / (s 0).toNat < puBands s (s 0).toNat := Nat.div_lt_of_lt_mul (by rw [Nat.mul_comm]; exact c)
      have hr : x % (s 0).toNat < (s 0).toNat := Nat.mod_lt _ (by omega)
      have hnn := puNN hq hb24 hr (by omega)
      have e1 : (x : Int) / s 0 = ((x / (s 0).toNat : Nat) : Int) := by rw [Int.natCast_ediv, ← eR]
      have e2 : (x : Int) % s 0 = ((x % (s 0).toNat : Nat) : Int) := by rw [Int.natCast_emod, ← eR]
      rw [pu_ifT ⟨by omega, by omega⟩ ⟨by omega, by omega⟩ (by omega), pu_gat (by decide) (by decide), pu_dv (by omega) (by omega) (by omega) (by omega), pu_gat (by decide) (by decide), pu_dv (by omega) (by omega) (by omega) (by omega), e1, e2, pu_gat hnn.1 hnn.2.1, hnn.2.2.1, hB.2.1 _ hnn.2.2.2, pu_mix, Option.bind_some, show ((x : Int) + 1) = ((x + 1 : Nat) : Int) by omega]
      exact ih (x + 1) (by omega) (by omega)
    · rw [pu_ifF ⟨by omega, by omega⟩ ⟨by omega, by omega⟩ (by omega), show x = puBands s (s 0).toNat * (s 0).toNat by omega]
theorem pu_rB (ho : puOk s) (hs : τ 137 = s) (hB : puRR τ s (s 0).toNat) {K : gLg → Option (Int64 × gSt × gLg)} (h0 : Int64) : DX9_digest_L99 K τ gFuel 0 (gUl μ 136 h0) = K (gUl μ 136 (puSeq (fun b h => puSeq (fun r h => puMix h (puRow s (s 0).toNat (20 * b + r))) (s 0).toNat h) (puBands s (s 0).toNat) h0)) := by
  have hR := ho.rows
  have hb24 := puBands_le (R := (s 0).toNat) ho (by omega)
  have hp : puBands s (s 0).toNat * (s 0).toNat ≤ 24 * 20 := Nat.mul_le_mul hb24 (by omega)
  have e := pu_rB_L99 (μ := μ) ho hs hB (K := K) (h0 := h0) gFuel 0 (by rw [gFuel_eq]; omega) (Nat.zero_le _)
  have e2 : puSeq (fun k h => puMix h (puRow s (s 0).toNat (20 * (k / (s 0).toNat) + k % (s 0).toNat))) (puBands s (s 0).toNat * (s 0).toNat) h0 = puSeq (fun b h => puSeq (fun r h => puMix h (puRow s (s 0).toNat (20 * b + r))) (s 0).toNat h) (puBands s (s 0).toNat) h0 := by
    rw [puSeq_mul]
    refine puSeq_cong _ _ (fun b _ h => puSeq_cong _ _ (fun r hr h => ?_))
    have d1 : (puBands s (s 0).toNat * 0 + (b * (s 0).toNat + r)) / (s 0).toNat = b := by
      rw [Nat.mul_zero, Nat.zero_add, Nat.mul_comm, Nat.mul_add_div (by omega), Nat.div_eq_of_lt hr, Nat.add_zero]
    have d2 : (puBands s (s 0).toNat * 0 + (b * (s 0).toNat + r)) % (s 0).toNat = r := by
      rw [Nat.mul_zero, Nat.zero_add, Nat.mul_comm, Nat.mul_add_mod, Nat.mod_eq_of_lt hr]
    show puMix h (puRow s (s 0).toNat (20 * ((puBands s (s 0).toNat * 0 + (b * (s 0).toNat + r)) / (s 0).toNat) + (puBands s (s 0).toNat * 0 + (b * (s 0).toNat + r)) % (s 0).toNat)) = _
    rw [d1, d2]
  rw [e2] at e
  exact e
theorem pu_rS_L169 (ho : puOk s) (hV : puCV σ s) (h : puRV τ s (s 0).toNat (s 1)) {i : Nat} (hi : i < puSheets s (s 0).toNat (s 1)) {K : gLg → Option (Int64 × gSt × gLg)} {h0 : Int64} : ∀ (f x : Nat), 5 - x < f → x ≤ 5 → DX9_digest_L169 K τ (i : Int) f (x : Int) (gUl μ 136 (puSeq (fun w h => puMix h (puSI σ i w)) x h0)) = K (gUl μ 136 (puSeq (fun w h => puMix h (puSI σ i w)) 5 h0)) := by
  intro f
  induction f with
  | zero => intro x h; omega
  | succ f ih =>
    intro x hf hx
    rw [DX9_digest_L169]
    by_cases c : (x : Int) < 5
    · rw [pu_ifT ⟨by omega, by omega⟩ (by decide) c, puSI_R ho hV h hi (by omega), Option.bind_some, pu_mix, Option.bind_some, show ((x : Int) + 1) = ((x + 1 : Nat) : Int) by omega]
      exact ih (x + 1) (by omega) (by omega)
    · rw [pu_ifF ⟨by omega, by omega⟩ (by decide) c, show x = 5 by omega]
theorem pu_rS_in (ho : puOk s) (hV : puCV σ s) (h : puRV τ s (s 0).toNat (s 1)) {i : Nat} (hi : i < puSheets s (s 0).toNat (s 1)) {K : gLg → Option (Int64 × gSt × gLg)} (h0 : Int64) : DX9_digest_L169 K τ (i : Int) gFuel 0 (gUl μ 136 h0) = K (gUl μ 136 (puSeq (fun w h => puMix h (puSI σ i w)) 5 h0)) :=
  pu_rS_L169 ho hV h hi gFuel 0 (by rw [gFuel_eq]; omega) (Nat.zero_le _)
theorem pu_rS_L159 (ho : puOk s) (hV : puCV σ s) (h : puRV τ s (s 0).toNat (s 1)) {K : gLg → Option (Int64 × gSt × gLg)} {h0 : Int64} : ∀ (f x : Nat), puSheets s (s 0).toNat (s 1) - x < f → x ≤ puSheets s (s 0).toNat (s 1) → DX9_digest_L159 K τ f (x : Int) (gUl μ 136 (puSeq (fun i h => puSeq (fun w h => puMix h (puSI σ i w)) 5 h) x h0)) = K (gUl μ 136 (puSeq (fun i h => puSeq (fun w h => puMix h (puSI σ i w)) 5 h) (puSheets s (s 0).toNat (s 1)) h0)) := by
  have hD := ho.days
  have h312 := puSheets_le (R := (s 0).toNat) ho hD
  intro f
  induction f with
  | zero => intro x h; omega
  | succ f ih =>
    intro x hf hx
    rw [DX9_digest_L159, h.2.2.1]
    by_cases c : x < puSheets s (s 0).toNat (s 1)
    · have hh := ih (x + 1) (by omega) (by omega)
      rw [pu_ifT ⟨by omega, by omega⟩ ⟨by omega, by omega⟩ (by omega), pu_rS_in ho hV h c]
      unfold DX9_digest_K190
      rw [show ((x : Int) + 1) = ((x + 1 : Nat) : Int) by omega]
      exact hh
    · rw [pu_ifF ⟨by omega, by omega⟩ ⟨by omega, by omega⟩ (by omega), show x = puSheets s (s 0).toNat (s 1) by omega]
theorem pu_rS (ho : puOk s) (hV : puCV σ s) (h : puRV τ s (s 0).toNat (s 1)) {K : gLg → Option (Int64 × gSt × gLg)} (h0 : Int64) : DX9_digest_L159 K τ gFuel 0 (gUl μ 136 h0) = K (gUl μ 136 (puSeq (fun i h => puSeq (fun w h => puMix h (puSI σ i w)) 5 h) (puSheets s (s 0).toNat (s 1)) h0)) := by
  have hD := ho.days
  have h312 := puSheets_le (R := (s 0).toNat) ho hD
  exact pu_rS_L159 ho hV h gFuel 0 (by rw [gFuel_eq]; omega) (Nat.zero_le _)
theorem pu_rA_L211 (ho : puOk s) (h : puRV τ s (s 0).toNat (s 1)) {a : Nat} (ha : (a : Int) < s 77) {K : gLg → Option (Int64 × gSt × gLg)} {h0 : Int64} : ∀ (f x : Nat), 6 - x < f → x ≤ 6 → DX9_digest_L211 K τ (a : Int) f (x : Int) (gUl μ 136 (puSeq (fun w h => puMix h (puAA s a w)) x h0)) = K (gUl μ 136 (puSeq (fun w h => puMix h (puAA s a w)) 6 h0)) := by
  intro f
  induction f with
  | zero => intro x h; omega
  | succ f ih =>
    intro x hf hx
    rw [DX9_digest_L211]
    by_cases c : (x : Int) < 6
    · rw [pu_ifT ⟨by omega, by omega⟩ (by decide) c, pu_aA_R ho h ha (by omega), Option.bind_some, pu_mix, Option.bind_some, show ((x : Int) + 1) = ((x + 1 : Nat) : Int) by omega]
      exact ih (x + 1) (by omega) (by omega)
    · rw [pu_ifF ⟨by omega, by omega⟩ (by decide) c, show x = 6 by omega]
theorem pu_rA_in (ho : puOk s) (h : puRV τ s (s 0).toNat (s 1)) {a : Nat} (ha : (a : Int) < s 77) {K : gLg → Option (Int64 × gSt × gLg)} (h0 : Int64) : DX9_digest_L211 K τ (a : Int) gFuel 0 (gUl μ 136 h0) = K (gUl μ 136 (puSeq (fun w h => puMix h (puAA s a w)) 6 h0)) :=
  pu_rA_L211 ho h ha gFuel 0 (by rw [gFuel_eq]; omega) (Nat.zero_le _)
theorem pu_rA_L198 (ho : puOk s) (h : puRV τ s (s 0).toNat (s 1)) {K : gLg → Option (Int64 × gSt × gLg)} {h0 : Int64} : ∀ (f x : Nat), (s 77).toNat - x < f → (x : Int) ≤ s 77 → DX9_digest_L198 K τ f (x : Int) (gUl μ 136 (puSeq (fun a h => puSeq (fun w h => puMix h (puAA s a w)) 6 h) x h0)) = K (gUl μ 136 (puSeq (fun a h => puSeq (fun w h => puMix h (puAA s a w)) 6 h) (s 77).toNat h0)) := by
  have hn := ho.arrows
  intro f
  induction f with
  | zero => intro x h; omega
  | succ f ih =>
    intro x hf hx
    rw [DX9_digest_L198, pu_gat (by decide) (by decide), pu_r77 h.1]
    by_cases c : (x : Int) < s 77
    · have hh := ih (x + 1) (by omega) (by omega)
      rw [pu_ifT ⟨by omega, by omega⟩ ⟨by omega, by omega⟩ c, pu_rA_in ho h c]
      unfold DX9_digest_K233
      rw [show ((x : Int) + 1) = ((x + 1 : Nat) : Int) by omega]
      exact hh
    · rw [pu_ifF ⟨by omega, by omega⟩ ⟨by omega, by omega⟩ c, show x = (s 77).toNat by omega]
theorem pu_rA (ho : puOk s) (h : puRV τ s (s 0).toNat (s 1)) {K : gLg → Option (Int64 × gSt × gLg)} (h0 : Int64) : DX9_digest_L198 K τ gFuel 0 (gUl μ 136 h0) = K (gUl μ 136 (puSeq (fun a h => puSeq (fun w h => puMix h (puAA s a w)) 6 h) (s 77).toNat h0)) := by
  have hn := ho.arrows
  exact pu_rA_L198 ho h gFuel 0 (by rw [gFuel_eq]; omega) (by omega)
theorem pu_digestR (ho : puOk (τ 137)) (hV : puCV σ (τ 137)) : puP (DX9_digest τ μ) (fun r => r.1 = puHsh σ (τ 137) (τ 136 5) (τ 136 3) ∧ ∃ τ1, puPF (gUp τ 136 6 0) τ1 ∧ (∀ q, q ≠ 146 → r.2.1 q = τ1 q)) := by
  have e137 : gUp τ 136 6 0 137 = τ 137 := pu_upK (by decide)
  obtain ⟨τ1, e1, h1, h2⟩ := pu_prints (σ := gUp τ 136 6 0) (by rw [e137]; exact ho)
  rw [e137] at h1
  obtain ⟨⟨v, τ2⟩, e2, h3, h4⟩ := pu_longR (σ := τ1) ho h1.1
  have h3 : v = puLong (τ 137) := h3
  have h4 : ∀ q, q ≠ 146 → τ2 q = τ1 q := h4
  have e5 : τ1 136 5 = τ 136 5 := by rw [h2.2 5 (by decide) (by decide) (by decide), pu_upI (by decide)]
  have e3 : τ2 136 3 = τ 136 3 := by rw [h4 136 (by decide), h2.2 3 (by decide) (by decide) (by decide), pu_upI (by decide)]
  unfold DX9_digest
  rw [e1, Option.bind_some, pu_mix, Option.bind_some, e5, pu_rV h1.1]
  unfold DX9_digest_K47
  rw [pu_rT ho h1.1 h1.2.1]
  unfold DX9_digest_K89
  rw [pu_mix, Option.bind_some, h1.2.1.1, pu_rB ho h1.1 h1.2.1]
  unfold DX9_digest_K149
  rw [pu_mix, Option.bind_some, h1.2.2.1, pu_rS ho hV h1]
  unfold DX9_digest_K196
  rw [pu_rA ho h1]
  unfold DX9_digest_K239
  rw [e2, Option.bind_some, pu_mix, Option.bind_some, pu_mix, Option.bind_some]
  refine pu_some ⟨?_, τ1, h2, h4⟩
  show gUl μ 136 (puMix (puMix _ v) (τ2 136 3)) 136 = _
  have eg : ∀ x : Int64, gUl μ 136 x 136 = x := fun x => by simp [gUl]
  rw [eg, h3, e3]
  unfold puHsh puH4 puH3 puH2 puH1
  rfl
end PUE
theorem pu_26 {σ : gSt} {μ : gLg} (xs : Nat → Int32) (j : Nat) (hI : puInv σ) : puP (DL_c26 xs j σ μ) (fun r => puInv r.1) := by
  have ho := hI.1
  obtain ⟨n, n1, n2, n3, n4⟩ := hI.2.2.2
  obtain ⟨nx, cc, p, hC, hR⟩ := puHis_to hI.2.2.1
  obtain ⟨⟨x, σ1⟩, e1, h1, h2⟩ := pu_digestC ho hI.2.1
  have h1 : x = puHsh σ (σ 137) (σ 81 1) (σ 27 2) := h1
  have h2 : ∀ q, q ≠ 86 → σ1 q = σ q := h2
  have e137 : σ1 137 = σ 137 := h2 137 (by decide)
  have hI1 : puInv σ1 := hI.same (fun k hk => h2 k (by omega)) (by rw [h2 136 (by decide)]) (by rw [h2 136 (by decide)])
  obtain ⟨⟨y, τ2, μ2⟩, e2, h3, τ1, h4, h5⟩ := pu_digestR (σ := σ) (τ := σ1) (μ := μ) (by rw [e137]; exact ho) (by rw [e137]; exact hI.2.1)
  have h3 : y = puHsh σ (σ1 137) (σ1 136 5) (σ1 136 3) := h3
  have h5 : ∀ q, q ≠ 146 → τ2 q = τ1 q := h5
  have exy : x = y := by
    rw [h1, h3, e137, h2 136 (by decide), n2, n3, hC.2.2.2.1, hR.1]
  unfold DL_c26
  rw [e1, Option.bind_some]
  show puP ((DX9_digest σ1 μ).bind fun q1528 => gEq x q1528.1 (some (q1528.2.1, q1528.2.2))) _
  rw [e2, Option.bind_some]
  show puP (gEq x y (some (τ2, μ2))) _
  unfold gEq
  rw [if_pos exy]
  have hfin : puInv τ2 := by
    have hIg : puInv (gUp σ1 136 6 0) := hI1.six 0
    have e3 : τ1 136 3 = gUp σ1 136 6 0 136 3 := h4.2 3 (by decide) (by decide) (by decide)
    have e5 : τ1 136 5 = gUp σ1 136 6 0 136 5 := h4.2 5 (by decide) (by decide) (by decide)
    exact hIg.same (fun k hk => by rw [h5 k (by omega), h4.1 k (by omega) (by omega) (by omega) (by omega) (by omega) (by omega)]) (by rw [h5 136 (by decide), e3]) (by rw [h5 136 (by decide), e5])
  exact pu_some hfin
