/-! the digest -/
def puMix (h : Int64) (v : Int) : Int64 := ((31 : Int64) * h) + ((gI v).toInt64)
def puSeq (f : Nat → Int64 → Int64) : Nat → Int64 → Int64
  | 0, h => h
  | n + 1, h => f n (puSeq f n h)
theorem puSeq_cong {f g : Nat → Int64 → Int64} : ∀ (n : Nat) (h : Int64), (∀ i, i < n → ∀ h, f i h = g i h) → puSeq f n h = puSeq g n h := by
  intro n
  induction n with
  | zero => intro h _; rfl
  | succ n ih =>
    intro h hf
    show f n (puSeq f n h) = g n (puSeq g n h)
    rw [ih h (fun i hi => hf i (by omega)), hf n (by omega)]
theorem puSeq_add {f : Nat → Int64 → Int64} {a : Nat} : ∀ (b : Nat) (h : Int64), puSeq f (a + b) h = puSeq (fun i h => f (a + i) h) b (puSeq f a h) := by
  intro b
  induction b with
  | zero => intro h; rfl
  | succ b ih =>
    intro h
    show f (a + b) (puSeq f (a + b) h) = f (a + b) (puSeq (fun i h => f (a + i) h) b (puSeq f a h))
    rw [ih]
theorem puSeq_mul {f : Nat → Int64 → Int64} {R : Nat} : ∀ (B : Nat) (h : Int64), puSeq f (B * R) h = puSeq (fun b h => puSeq (fun r h => f (B * 0 + (b * R + r)) h) R h) B h := by
  intro B
  induction B with
  | zero => intro h; rw [Nat.zero_mul]; rfl
  | succ B ih =>
    intro h
    rw [Nat.succ_mul, puSeq_add, ih]
    show puSeq (fun i h => f (B * R + i) h) R _ = puSeq (fun r h => f ((B + 1) * 0 + (B * R + r)) h) R (puSeq (fun b h => puSeq (fun r h => f ((B + 1) * 0 + (b * R + r)) h) R h) B h)
    simp
/-! the class -/
section PUD
variable {σ : gSt} {s : Nat → Int}
theorem pu_dT_L20 (ho : puOk s) (hV : puCV σ s) {t : Nat} (ht : (t : Int) < s 4) {K : Int64 → Option Int64} {h0 : Int64} : ∀ (f x : Nat), 7 - x < f → x ≤ 7 → DX8_digestTasks_L20 K σ (t : Int) f (x : Int) (puSeq (fun w h => puMix h (puTA s t w)) x h0) = K (puSeq (fun w h => puMix h (puTA s t w)) 7 h0) := by
  intro f
  induction f with
  | zero => intro x h; omega
  | succ f ih =>
    intro x hf hx
    rw [DX8_digestTasks_L20]
    by_cases c : (x : Int) < 7
    · rw [pu_ifT ⟨by omega, by omega⟩ (by decide) c, pu_tA_C ho hV ht (by omega), Option.bind_some, show ((x : Int) + 1) = ((x + 1 : Nat) : Int) by omega]
      exact ih (x + 1) (by omega) (by omega)
    · rw [pu_ifF ⟨by omega, by omega⟩ (by decide) c, show x = 7 by omega]
theorem pu_dT_L5 (ho : puOk s) (hV : puCV σ s) {h0 : Int64} : ∀ (f x : Nat), (s 4).toNat - x < f → (x : Int) ≤ s 4 → DX8_digestTasks_L5 σ f (x : Int) (puSeq (fun t h => puSeq (fun w h => puMix h (puTA s t w)) 7 h) x h0) = some (puSeq (fun t h => puSeq (fun w h => puMix h (puTA s t w)) 7 h) (s 4).toNat h0) := by
  have hn := ho.tasks
  intro f
  induction f with
  | zero => intro x h; omega
  | succ f ih =>
    intro x hf hx
    rw [DX8_digestTasks_L5, pu_tasks hV.1, Option.bind_some]
    by_cases c : (x : Int) < s 4
    · have hh := ih (x + 1) (by omega) (by omega)
      have hin := pu_dT_L20 ho hV c (K := DX8_digestTasks_K49 (DX8_digestTasks_L5 σ f) (x : Int)) (h0 := puSeq (fun t h => puSeq (fun w h => puMix h (puTA s t w)) 7 h) x h0) gFuel 0 (by rw [gFuel_eq]; omega) (Nat.zero_le _)
      rw [pu_ifT ⟨by omega, by omega⟩ ⟨by omega, by omega⟩ c]
      refine hin.trans ?_
      unfold DX8_digestTasks_K49
      rw [show ((x : Int) + 1) = ((x + 1 : Nat) : Int) by omega]
      exact hh
    · rw [pu_ifF ⟨by omega, by omega⟩ ⟨by omega, by omega⟩ c, show (s 4).toNat = x by omega]
theorem pu_dB_L33 (ho : puOk s) (hV : puCV σ s) {b : Nat} (hb : b < puBands s (s 0).toNat) {K : Int64 → Option Int64} {h0 : Int64} : ∀ (f x : Nat), (s 0).toNat - x < f → (x : Int) ≤ s 0 → DX8_digestBands_L33 K σ (b : Int) f (x : Int) (puSeq (fun r h => puMix h (puRow s (s 0).toNat (20 * b + r))) x h0) = K (puSeq (fun r h => puMix h (puRow s (s 0).toNat (20 * b + r))) (s 0).toNat h0) := by
  have hR := ho.rows
  have hb24 := puBands_le (R := (s 0).toNat) ho (by omega)
  intro f
  induction f with
  | zero => intro x h; omega
  | succ f ih =>
    intro x hf hx
    rw [DX8_digestBands_L33, pu_set0 hV.1, Option.bind_some]
    by_cases c : (x : Int) < s 0
    · rw [pu_ifT ⟨by omega, by omega⟩ ⟨by omega, by omega⟩ c]
      unfold DX0_content
      rw [show ((b : Int) * 20 + (x : Int)) = ((20 * b + x : Nat) : Int) by omega, pu_atN (by omega) (by decide), Option.bind_some, Option.bind_some, show σ (87 + 1 + 1) (20 * b + x) = puRow s (s 0).toNat (20 * b + x) from hV.2.1.2.1 _ (by omega), show ((x : Int) + 1) = ((x + 1 : Nat) : Int) by omega]
      exact ih (x + 1) (by omega) (by omega)
    · rw [pu_ifF ⟨by omega, by omega⟩ ⟨by omega, by omega⟩ c, show x = (s 0).toNat by omega]
theorem pu_dB_L18 (ho : puOk s) (hV : puCV σ s) {h0 : Int64} : ∀ (f x : Nat), puBands s (s 0).toNat - x < f → x ≤ puBands s (s 0).toNat → DX8_digestBands_L18 σ f (x : Int) (puSeq (fun b h => puSeq (fun r h => puMix h (puRow s (s 0).toNat (20 * b + r))) (s 0).toNat h) x h0) = some (puSeq (fun b h => puSeq (fun r h => puMix h (puRow s (s 0).toNat (20 * b + r))) (s 0).toNat h) (puBands s (s 0).toNat) h0) := by
  have hR := ho.rows
  have hb24 := puBands_le (R := (s 0).toNat) ho (by omega)
  intro f
  induction f with
  | zero => intro x h; omega
  | succ f ih =>
    intro x hf hx
    rw [DX8_digestBands_L18]
    unfold DX0_count
    rw [Option.bind_some, hV.2.1.1]
    by_cases c : x < puBands s (s 0).toNat
    · have hh := ih (x + 1) (by omega) (by omega)
      have hin := pu_dB_L33 ho hV c (K := DX8_digestBands_K71 (DX8_digestBands_L18 σ f) (x : Int)) (h0 := puSeq (fun b h => puSeq (fun r h => puMix h (puRow s (s 0).toNat (20 * b + r))) (s 0).toNat h) x h0) gFuel 0 (by rw [gFuel_eq]; omega) (by omega)
      rw [pu_ifT ⟨by omega, by omega⟩ ⟨by omega, by omega⟩ (by omega)]
      refine hin.trans ?_
      unfold DX8_digestBands_K71
      rw [show ((x : Int) + 1) = ((x + 1 : Nat) : Int) by omega]
      exact hh
    · rw [pu_ifF ⟨by omega, by omega⟩ ⟨by omega, by omega⟩ (by omega), show x = puBands s (s 0).toNat by omega]
/-- what a sheet's numbers are, by its own number -/
def puSI (σ : gSt) (i w : Nat) : Int := match DX8_numberOfSheet σ (i : Int) (w : Int) with
  | some v => v
  | none => 0
theorem puSI_C (ho : puOk s) (hV : puCV σ s) {i w : Nat} (hi : i < puSheets s (s 0).toNat (s 1)) (hw : w < 5) : DX8_numberOfSheet σ (i : Int) (w : Int) = some (puSI σ i w) := by
  obtain ⟨j, j1, j2, j3⟩ := puSheet_at hi
  have e := pu_sA_C ho hV j1 j2 hw
  rw [j3] at e
  unfold puSI
  rw [e]
theorem puSI_R {τ : gSt} (ho : puOk s) (hV : puCV σ s) (h : puRV τ s (s 0).toNat (s 1)) {i w : Nat} (hi : i < puSheets s (s 0).toNat (s 1)) (hw : w < 5) : DX9_sheetTold τ (i : Int) (w : Int) = some (puSI σ i w) := by
  obtain ⟨j, j1, j2, j3⟩ := puSheet_at hi
  have e := pu_sA_C ho hV j1 j2 hw
  have e2 := pu_sA_R ho h j1 j2 hw
  rw [j3] at e e2
  unfold puSI
  rw [e, e2]
theorem pu_dS_L33 (ho : puOk s) (hV : puCV σ s) {i : Nat} (hi : i < puSheets s (s 0).toNat (s 1)) {K : Int64 → Option Int64} {h0 : Int64} : ∀ (f x : Nat), 5 - x < f → x ≤ 5 → DX8_digestSheets_L33 K σ (i : Int) f (x : Int) (puSeq (fun w h => puMix h (puSI σ i w)) x h0) = K (puSeq (fun w h => puMix h (puSI σ i w)) 5 h0) := by
  intro f
  induction f with
  | zero => intro x h; omega
  | succ f ih =>
    intro x hf hx
    rw [DX8_digestSheets_L33]
    by_cases c : (x : Int) < 5
    · rw [pu_ifT ⟨by omega, by omega⟩ (by decide) c, puSI_C ho hV hi (by omega), Option.bind_some, show ((x : Int) + 1) = ((x + 1 : Nat) : Int) by omega]
      exact ih (x + 1) (by omega) (by omega)
    · rw [pu_ifF ⟨by omega, by omega⟩ (by decide) c, show x = 5 by omega]
theorem pu_dS_L18 (ho : puOk s) (hV : puCV σ s) {h0 : Int64} : ∀ (f x : Nat), puSheets s (s 0).toNat (s 1) - x < f → x ≤ puSheets s (s 0).toNat (s 1) → DX8_digestSheets_L18 σ f (x : Int) (puSeq (fun i h => puSeq (fun w h => puMix h (puSI σ i w)) 5 h) x h0) = some (puSeq (fun i h => puSeq (fun w h => puMix h (puSI σ i w)) 5 h) (puSheets s (s 0).toNat (s 1)) h0) := by
  have hD := ho.days
  have h312 := puSheets_le (R := (s 0).toNat) ho hD
  intro f
  induction f with
  | zero => intro x h; omega
  | succ f ih =>
    intro x hf hx
    rw [DX8_digestSheets_L18]
    unfold DX6_count
    rw [Option.bind_some, hV.2.2.1.1]
    by_cases c : x < puSheets s (s 0).toNat (s 1)
    · have hh := ih (x + 1) (by omega) (by omega)
      have hin := pu_dS_L33 ho hV c (K := DX8_digestSheets_K61 (DX8_digestSheets_L18 σ f) (x : Int)) (h0 := puSeq (fun i h => puSeq (fun w h => puMix h (puSI σ i w)) 5 h) x h0) gFuel 0 (by rw [gFuel_eq]; omega) (by omega)
      rw [pu_ifT ⟨by omega, by omega⟩ ⟨by omega, by omega⟩ (by omega)]
      refine hin.trans ?_
      unfold DX8_digestSheets_K61
      rw [show ((x : Int) + 1) = ((x + 1 : Nat) : Int) by omega]
      exact hh
    · rw [pu_ifF ⟨by omega, by omega⟩ ⟨by omega, by omega⟩ (by omega), show x = puSheets s (s 0).toNat (s 1) by omega]
theorem pu_dA_L20 (ho : puOk s) (hV : puCV σ s) {a : Nat} (ha : (a : Int) < s 77) {K : Int64 → Option Int64} {h0 : Int64} : ∀ (f x : Nat), 6 - x < f → x ≤ 6 → DX8_digestArrows_L20 K σ (a : Int) f (x : Int) (puSeq (fun w h => puMix h (puAA s a w)) x h0) = K (puSeq (fun w h => puMix h (puAA s a w)) 6 h0) := by
  intro f
  induction f with
  | zero => intro x h; omega
  | succ f ih =>
    intro x hf hx
    rw [DX8_digestArrows_L20]
    by_cases c : (x : Int) < 6
    · rw [pu_ifT ⟨by omega, by omega⟩ (by decide) c, pu_aA_C ho hV ha (by omega), Option.bind_some, show ((x : Int) + 1) = ((x + 1 : Nat) : Int) by omega]
      exact ih (x + 1) (by omega) (by omega)
    · rw [pu_ifF ⟨by omega, by omega⟩ (by decide) c, show x = 6 by omega]
theorem pu_dA_L5 (ho : puOk s) (hV : puCV σ s) {h0 : Int64} : ∀ (f x : Nat), (s 77).toNat - x < f → (x : Int) ≤ s 77 → DX8_digestArrows_L5 σ f (x : Int) (puSeq (fun a h => puSeq (fun w h => puMix h (puAA s a w)) 6 h) x h0) = some (puSeq (fun a h => puSeq (fun w h => puMix h (puAA s a w)) 6 h) (s 77).toNat h0) := by
  have hn := ho.arrows
  intro f
  induction f with
  | zero => intro x h; omega
  | succ f ih =>
    intro x hf hx
    rw [DX8_digestArrows_L5, pu_arrows hV.1, Option.bind_some]
    by_cases c : (x : Int) < s 77
    · have hh := ih (x + 1) (by omega) (by omega)
      have hin := pu_dA_L20 ho hV c (K := DX8_digestArrows_K49 (DX8_digestArrows_L5 σ f) (x : Int)) (h0 := puSeq (fun a h => puSeq (fun w h => puMix h (puAA s a w)) 6 h) x h0) gFuel 0 (by rw [gFuel_eq]; omega) (Nat.zero_le _)
      rw [pu_ifT ⟨by omega, by omega⟩ ⟨by omega, by omega⟩ c]
      refine hin.trans ?_
      unfold DX8_digestArrows_K49
      rw [show ((x : Int) + 1) = ((x + 1 : Nat) : Int) by omega]
      exact hh
    · rw [pu_ifF ⟨by omega, by omega⟩ ⟨by omega, by omega⟩ c, show (s 77).toNat = x by omega]
/-- the hash as one row of steps -/
def puH1 (s : Nat → Int) (h0 : Int64) : Int64 := puSeq (fun t h => puSeq (fun w h => puMix h (puTA s t w)) 7 h) (s 4).toNat (puSeq (fun w h => puMix h (puVA s w)) 6 h0)
def puH2 (s : Nat → Int) (h : Int64) : Int64 := puSeq (fun b h => puSeq (fun r h => puMix h (puRow s (s 0).toNat (20 * b + r))) (s 0).toNat h) (puBands s (s 0).toNat) (puMix h (puBands s (s 0).toNat : Int))
def puH3 (σ : gSt) (s : Nat → Int) (h : Int64) : Int64 := puSeq (fun i h => puSeq (fun w h => puMix h (puSI σ i w)) 5 h) (puSheets s (s 0).toNat (s 1)) (puMix h (puSheets s (s 0).toNat (s 1) : Int))
def puH4 (s : Nat → Int) (h : Int64) : Int64 := puSeq (fun a h => puSeq (fun w h => puMix h (puAA s a w)) 6 h) (s 77).toNat h
def puHsh (σ : gSt) (s : Nat → Int) (n c : Int) : Int64 := puMix (puMix (puH4 s (puH3 σ s (puH2 s (puH1 s (puMix 3259 n))))) (puLong s)) c
theorem pu_dg_L15 (ho : puOk s) (hV : puCV σ s) {K : Int64 → Option (Int64 × gSt)} {h0 : Int64} : ∀ (f x : Nat), 6 - x < f → x ≤ 6 → DX8_digest_L15 K σ f (x : Int) (puSeq (fun w h => puMix h (puVA s w)) x h0) = K (puSeq (fun w h => puMix h (puVA s w)) 6 h0) := by
  intro f
  induction f with
  | zero => intro x h; omega
  | succ f ih =>
    intro x hf hx
    rw [DX8_digest_L15]
    by_cases c : (x : Int) < 6
    · rw [pu_ifT ⟨by omega, by omega⟩ (by decide) c, pu_vA_C ho hV.1 (by omega), Option.bind_some, show ((x : Int) + 1) = ((x + 1 : Nat) : Int) by omega]
      exact ih (x + 1) (by omega) (by omega)
    · rw [pu_ifF ⟨by omega, by omega⟩ (by decide) c, show x = 6 by omega]
theorem puMix_e {h : Int64} {v : Int} : ((31 : Int64) * h) + ((gI v).toInt64) = puMix h v := rfl
theorem pu_dT (ho : puOk s) (hV : puCV σ s) (h0 : Int64) : DX8_digestTasks_L5 σ gFuel 0 h0 = some (puSeq (fun t h => puSeq (fun w h => puMix h (puTA s t w)) 7 h) (s 4).toNat h0) := by
  have hn := ho.tasks
  exact pu_dT_L5 ho hV gFuel 0 (by rw [gFuel_eq]; omega) (by omega)
theorem pu_dB (ho : puOk s) (hV : puCV σ s) (h0 : Int64) : DX8_digestBands_L18 σ gFuel 0 h0 = some (puSeq (fun b h => puSeq (fun r h => puMix h (puRow s (s 0).toNat (20 * b + r))) (s 0).toNat h) (puBands s (s 0).toNat) h0) := by
  have hR := ho.rows
  have hb24 := puBands_le (R := (s 0).toNat) ho (by omega)
  exact pu_dB_L18 ho hV gFuel 0 (by rw [gFuel_eq]; omega) (by omega)
theorem pu_dS (ho : puOk s) (hV : puCV σ s) (h0 : Int64) : DX8_digestSheets_L18 σ gFuel 0 h0 = some (puSeq (fun i h => puSeq (fun w h => puMix h (puSI σ i w)) 5 h) (puSheets s (s 0).toNat (s 1)) h0) := by
  have hD := ho.days
  have h312 := puSheets_le (R := (s 0).toNat) ho hD
  exact pu_dS_L18 ho hV gFuel 0 (by rw [gFuel_eq]; omega) (by omega)
theorem pu_dA (ho : puOk s) (hV : puCV σ s) (h0 : Int64) : DX8_digestArrows_L5 σ gFuel 0 h0 = some (puSeq (fun a h => puSeq (fun w h => puMix h (puAA s a w)) 6 h) (s 77).toNat h0) := by
  have hn := ho.arrows
  exact pu_dA_L5 ho hV gFuel 0 (by rw [gFuel_eq]; omega) (by omega)
theorem pu_dV (ho : puOk s) (hV : puCV σ s) {K : Int64 → Option (Int64 × gSt)} (h0 : Int64) : DX8_digest_L15 K σ gFuel 0 h0 = K (puSeq (fun w h => puMix h (puVA s w)) 6 h0) :=
  pu_dg_L15 ho hV gFuel 0 (by rw [gFuel_eq]; omega) (Nat.zero_le _)
theorem pu_digestC (ho : puOk s) (hV : puCV σ s) : puP (DX8_digest σ) (fun r => r.1 = puHsh σ s (σ 81 1) (σ 27 2) ∧ (∀ q, q ≠ 86 → r.2 q = σ q)) := by
  obtain ⟨⟨v, σ'⟩, e1, h1, h2⟩ := pu_longC ho hV.1
  have h1 : v = puLong s := h1
  have h2 : ∀ q, q ≠ 86 → σ' q = σ q := h2
  unfold DX8_digest DX7_length
  rw [Option.bind_some]
  have e0 : (101029 : Int64) + ((gI (σ 81 1)).toInt64) = puMix 3259 (σ 81 1) := by
    unfold puMix
    rfl
  rw [e0, pu_dV ho hV]
  unfold DX8_digest_K40 DX8_digestTasks DX8_digestBands DX8_digestSheets DX8_digestArrows DX0_count DX6_count DX3_count
  rw [pu_dT ho hV, Option.bind_some, Option.bind_some, hV.2.1.1, puMix_e, pu_dB ho hV, Option.bind_some, Option.bind_some, hV.2.2.1.1, puMix_e, pu_dS ho hV, Option.bind_some, pu_dA ho hV, Option.bind_some, e1, Option.bind_some, Option.bind_some, puMix_e, puMix_e]
  refine pu_some ⟨?_, h2⟩
  show puMix (puMix _ v) (σ' 27 2) = _
  rw [h1, h2 27 (by decide)]
  unfold puHsh puH4 puH3 puH2 puH1
  rfl
end PUD
