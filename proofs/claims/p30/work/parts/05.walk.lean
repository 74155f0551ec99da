/-! ONE ROW AN INSTRUCTION over the system's heap as one function -/
theorem q_st_mmax : Cond.static Lib.Math.max.name ∈ gLW := q_st_J9_max_7cf53
theorem q_st_mmin : Cond.static Lib.Math.min.name ∈ gLW := q_st_J9_min_7cf53
theorem q_in_java_lang_Math : Cond.initialized "java/lang/Math" ∈ gLW := q_in_J9
theorem q_co_mmax : Cond.code Lib.Math.max.name Lib.Math.max.code 2 (some .int) ∈ gLW := q_co_J9_max_7cf53
theorem q_co_mmin : Cond.code Lib.Math.min.name Lib.Math.min.code 2 (some .int) ∈ gLW := q_co_J9_min_7cf53
section GW1
variable {p : Program} {l : Launch} {e : Env} {R : Room} {s : State} {m : MethodId} {args : Array Value} {below : List Frame} {meth : Method} {c : Code} {H : Heap} {locs : List Loc} {cells slots : Nat} {Q : State → Prop}
variable {cc : ByteArray} {pc : Nat} {ls : Array Slot} {rest : List Value} {D : va_G} {G : gAd} {σ : gSt} {μ : gLg}
theorem g_iadd (hexec : p.tables.exec = Jvm.exec) (hb : c.code = cc) {x y : Int} (hdg : decode cc pc = .ok (.iadd, 1)) (k : W p l e R s m args below meth c H locs cells slots Q (F0 m (pc + 1) ls (.int (gI (x + y)) :: rest))) : W p l e R s m args below meth c H locs cells slots Q (F0 m pc ls (.int (gI y) :: .int (gI x) :: rest)) :=
  lv_iadd hexec hb hdg (by rw [gI_add]; exact k)
theorem g_isub (hexec : p.tables.exec = Jvm.exec) (hb : c.code = cc) {x y : Int} (hdg : decode cc pc = .ok (.isub, 1)) (k : W p l e R s m args below meth c H locs cells slots Q (F0 m (pc + 1) ls (.int (gI (x - y)) :: rest))) : W p l e R s m args below meth c H locs cells slots Q (F0 m pc ls (.int (gI y) :: .int (gI x) :: rest)) :=
  lv_isub hexec hb hdg (by rw [gI_sub]; exact k)
theorem g_imul (hexec : p.tables.exec = Jvm.exec) (hb : c.code = cc) {x y : Int} (hdg : decode cc pc = .ok (.imul, 1)) (k : W p l e R s m args below meth c H locs cells slots Q (F0 m (pc + 1) ls (.int (gI (x * y)) :: rest))) : W p l e R s m args below meth c H locs cells slots Q (F0 m pc ls (.int (gI y) :: .int (gI x) :: rest)) :=
  lv_imul hexec hb hdg (by rw [gI_mul]; exact k)
theorem gI_n0 {y : Int} (h : 0 < y ∧ y ≤ 2147483647) : ¬ gI y = 0 := by
  rw [show (0 : Int32) = gI 0 from rfl, gI_eq ⟨by omega, by omega⟩ (by decide)]
  omega
theorem gI_dv {x y : Int} (h : 0 ≤ x ∧ x ≤ 2147483647 ∧ 0 < y ∧ y ≤ 2147483647) : gI x / gI y = gI (x / y) := by
  obtain ⟨a, rfl⟩ := Int.eq_ofNat_of_zero_le h.1
  obtain ⟨d, rfl⟩ := Int.eq_ofNat_of_zero_le (show 0 ≤ y by omega)
  have := pk_div (a := a) (d := d) (by omega) (by omega) (by omega)
  rw [nI, nI, nI, gI_nat, gI_nat, gI_nat] at this
  rw [this, Int.natCast_ediv]
theorem g_idiv {α : Type} {a : Option α} {r : α} (hexec : p.tables.exec = Jvm.exec) (hb : c.code = cc) {x y : Int} (hdg : decode cc pc = .ok (.idiv, 1)) (h : gDv x y a = some r) (k : a = some r → W p l e R s m args below meth c H locs cells slots Q (F0 m (pc + 1) ls (.int (gI (x / y)) :: rest))) : W p l e R s m args below meth c H locs cells slots Q (F0 m pc ls (.int (gI y) :: .int (gI x) :: rest)) := by
  obtain ⟨h1, h2⟩ := gDv_some h
  refine lv_idiv hexec hb hdg (gI_n0 h1.2.2) ?_
  rw [gI_dv h1]
  exact k h2
theorem g_irem {α : Type} {a : Option α} {r : α} (hexec : p.tables.exec = Jvm.exec) (hb : c.code = cc) {x y : Int} (hdg : decode cc pc = .ok (.irem, 1)) (h : gDv x y a = some r) (k : a = some r → W p l e R s m args below meth c H locs cells slots Q (F0 m (pc + 1) ls (.int (gI (x % y)) :: rest))) : W p l e R s m args below meth c H locs cells slots Q (F0 m pc ls (.int (gI y) :: .int (gI x) :: rest)) := by
  obtain ⟨h1, h2⟩ := gDv_some h
  refine lv_irem hexec hb hdg (gI_n0 h1.2.2) ?_
  rw [gI_dv h1, gI_mul, gI_sub, show x - x / y * y = x % y by rw [Int.mul_comm]; have := Int.mul_ediv_add_emod x y; omega]
  exact k h2
theorem g_iinc (hexec : p.tables.exec = Jvm.exec) (hb : c.code = cc) {i nL k : Nat} {n : Int} {x : Int} {lv lv' : List (Nat × Value)} (hdg : decode cc pc = .ok (.iinc i n, 3)) (h : lv_has ls nL lv) (hk : lv[k]? = some (i, .int (gI x))) (hn : i < nL) (hl : (i, Value.int (gI (x + n))) :: lv.filter (fun q => !(q.1 == i) && !(q.1 + 1 == i && q.2.category == 2)) = lv') (kk : ∀ ls', lv_has ls' nL lv' → W p l e R s m args below meth c H locs cells slots Q (F0 m (pc + 3) ls' rest)) : W p l e R s m args below meth c H locs cells slots Q (F0 m pc ls rest) :=
  lv_iinc (v := gI (x + n)) hexec hb hdg h hk (by rw [show Int32.ofInt n = gI n from rfl, gI_add]) hn hl kk
theorem gI_lit : (0 : Int32) = gI 0 := rfl
theorem g_if_eq {α : Type} {a b : Option α} {r : α} (hexec : p.tables.exec = Jvm.exec) (hb : c.code = cc) {x : Int} {off : Int} {tgt : Nat} (hdg : decode cc pc = .ok (.ifCond .eq off, 3)) (ht : (pc : Int) + off = (tgt : Int)) (h : gIf (x = 0) x 0 a b = some r)
    (kt : a = some r → W p l e R s m args below meth c H locs cells slots Q (F0 m tgt ls rest)) (kf : b = some r → W p l e R s m args below meth c H locs cells slots Q (F0 m (pc + 3) ls rest)) : W p l e R s m args below meth c H locs cells slots Q (F0 m pc ls (.int (gI x) :: rest)) := by
  obtain ⟨hx, hy, h⟩ := gIf_some h
  refine lv_if_eq hexec hb hdg ht (fun c1 => ?_) (fun c1 => ?_)
  · rw [gI_lit, gI_eq hx hy] at c1
    rcases h with ⟨-, h⟩ | ⟨h0, -⟩
    · exact kt h
    · exact absurd c1 h0
  · rw [gI_lit, gI_eq hx hy] at c1
    rcases h with ⟨h0, -⟩ | ⟨-, h⟩
    · exact absurd h0 c1
    · exact kf h
theorem g_if_ne {α : Type} {a b : Option α} {r : α} (hexec : p.tables.exec = Jvm.exec) (hb : c.code = cc) {x : Int} {off : Int} {tgt : Nat} (hdg : decode cc pc = .ok (.ifCond .ne off, 3)) (ht : (pc : Int) + off = (tgt : Int)) (h : gIf (x = 0) x 0 b a = some r)
    (kt : a = some r → W p l e R s m args below meth c H locs cells slots Q (F0 m tgt ls rest)) (kf : b = some r → W p l e R s m args below meth c H locs cells slots Q (F0 m (pc + 3) ls rest)) : W p l e R s m args below meth c H locs cells slots Q (F0 m pc ls (.int (gI x) :: rest)) := by
  obtain ⟨hx, hy, h⟩ := gIf_some h
  refine lv_if_ne hexec hb hdg ht (fun c1 => ?_) (fun c1 => ?_)
  · rw [gI_lit, gI_eq hx hy] at c1
    rcases h with ⟨h0, -⟩ | ⟨-, h⟩
    · exact absurd h0 c1
    · exact kt h
  · rw [gI_lit, gI_eq hx hy] at c1
    rcases h with ⟨-, h⟩ | ⟨h0, -⟩
    · exact kf h
    · exact absurd c1 h0
theorem g_icmp_eq {α : Type} {a b : Option α} {r : α} (hexec : p.tables.exec = Jvm.exec) (hb : c.code = cc) {x y : Int} {off : Int} {tgt : Nat} (hdg : decode cc pc = .ok (.if_icmp .eq off, 3)) (ht : (pc : Int) + off = (tgt : Int)) (h : gIf (x = y) x y a b = some r)
    (kt : a = some r → W p l e R s m args below meth c H locs cells slots Q (F0 m tgt ls rest)) (kf : b = some r → W p l e R s m args below meth c H locs cells slots Q (F0 m (pc + 3) ls rest)) : W p l e R s m args below meth c H locs cells slots Q (F0 m pc ls (.int (gI y) :: .int (gI x) :: rest)) := by
  obtain ⟨hx, hy, h⟩ := gIf_some h
  refine lv_icmp_eq hexec hb hdg ht (fun c1 => ?_) (fun c1 => ?_)
  · rw [gI_eq hx hy] at c1
    rcases h with ⟨-, h⟩ | ⟨h0, -⟩
    · exact kt h
    · exact absurd c1 h0
  · rw [gI_eq hx hy] at c1
    rcases h with ⟨h0, -⟩ | ⟨-, h⟩
    · exact absurd h0 c1
    · exact kf h
theorem g_icmp_ne {α : Type} {a b : Option α} {r : α} (hexec : p.tables.exec = Jvm.exec) (hb : c.code = cc) {x y : Int} {off : Int} {tgt : Nat} (hdg : decode cc pc = .ok (.if_icmp .ne off, 3)) (ht : (pc : Int) + off = (tgt : Int)) (h : gIf (x = y) x y b a = some r)
    (kt : a = some r → W p l e R s m args below meth c H locs cells slots Q (F0 m tgt ls rest)) (kf : b = some r → W p l e R s m args below meth c H locs cells slots Q (F0 m (pc + 3) ls rest)) : W p l e R s m args below meth c H locs cells slots Q (F0 m pc ls (.int (gI y) :: .int (gI x) :: rest)) := by
  obtain ⟨hx, hy, h⟩ := gIf_some h
  refine lv_icmp_ne hexec hb hdg ht (fun c1 => ?_) (fun c1 => ?_)
  · rw [gI_eq hx hy] at c1
    rcases h with ⟨h0, -⟩ | ⟨-, h⟩
    · exact absurd h0 c1
    · exact kt h
  · rw [gI_eq hx hy] at c1
    rcases h with ⟨-, h⟩ | ⟨h0, -⟩
    · exact kf h
    · exact absurd c1 h0
theorem g_if_lt {α : Type} {a b : Option α} {r : α} (hexec : p.tables.exec = Jvm.exec) (hb : c.code = cc) {x : Int} {off : Int} {tgt : Nat} (hdg : decode cc pc = .ok (.ifCond .lt off, 3)) (ht : (pc : Int) + off = (tgt : Int)) (h : gIf (x < 0) x 0 a b = some r)
    (kt : a = some r → W p l e R s m args below meth c H locs cells slots Q (F0 m tgt ls rest)) (kf : b = some r → W p l e R s m args below meth c H locs cells slots Q (F0 m (pc + 3) ls rest)) : W p l e R s m args below meth c H locs cells slots Q (F0 m pc ls (.int (gI x) :: rest)) := by
  obtain ⟨hx, hy, h⟩ := gIf_some h
  refine lv_if_lt hexec hb hdg ht (fun c1 => ?_) (fun c1 => ?_)
  · rw [gI_lit, gI_lt hx hy] at c1
    rcases h with ⟨h0, h⟩ | ⟨h0, h⟩
    · exact kt h
    · exact absurd (by omega) h0
  · rw [gI_lit, gI_lt hx hy] at c1
    rcases h with ⟨h0, h⟩ | ⟨h0, h⟩
    · exact absurd h0 (by omega)
    · exact kf h
theorem g_icmp_lt {α : Type} {a b : Option α} {r : α} (hexec : p.tables.exec = Jvm.exec) (hb : c.code = cc) {x y : Int} {off : Int} {tgt : Nat} (hdg : decode cc pc = .ok (.if_icmp .lt off, 3)) (ht : (pc : Int) + off = (tgt : Int)) (h : gIf (x < y) x y a b = some r)
    (kt : a = some r → W p l e R s m args below meth c H locs cells slots Q (F0 m tgt ls rest)) (kf : b = some r → W p l e R s m args below meth c H locs cells slots Q (F0 m (pc + 3) ls rest)) : W p l e R s m args below meth c H locs cells slots Q (F0 m pc ls (.int (gI y) :: .int (gI x) :: rest)) := by
  obtain ⟨hx, hy, h⟩ := gIf_some h
  refine lv_icmp_lt hexec hb hdg ht (fun c1 => ?_) (fun c1 => ?_)
  · rw [gI_lt hx hy] at c1
    rcases h with ⟨h0, h⟩ | ⟨h0, h⟩
    · exact kt h
    · exact absurd (by omega) h0
  · rw [gI_lt hx hy] at c1
    rcases h with ⟨h0, h⟩ | ⟨h0, h⟩
    · exact absurd h0 (by omega)
    · exact kf h
theorem g_if_ge {α : Type} {a b : Option α} {r : α} (hexec : p.tables.exec = Jvm.exec) (hb : c.code = cc) {x : Int} {off : Int} {tgt : Nat} (hdg : decode cc pc = .ok (.ifCond .ge off, 3)) (ht : (pc : Int) + off = (tgt : Int)) (h : gIf (x < 0) x 0 b a = some r)
    (kt : a = some r → W p l e R s m args below meth c H locs cells slots Q (F0 m tgt ls rest)) (kf : b = some r → W p l e R s m args below meth c H locs cells slots Q (F0 m (pc + 3) ls rest)) : W p l e R s m args below meth c H locs cells slots Q (F0 m pc ls (.int (gI x) :: rest)) := by
  obtain ⟨hx, hy, h⟩ := gIf_some h
  refine lv_if_ge hexec hb hdg ht (fun c1 => ?_) (fun c1 => ?_)
  · rw [gI_lit, gI_le hy hx] at c1
    rcases h with ⟨h0, h⟩ | ⟨h0, h⟩
    · exact absurd h0 (by omega)
    · exact kt h
  · rw [gI_lit, gI_le hy hx] at c1
    rcases h with ⟨h0, h⟩ | ⟨h0, h⟩
    · exact kf h
    · exact absurd (by omega) h0
theorem g_icmp_ge {α : Type} {a b : Option α} {r : α} (hexec : p.tables.exec = Jvm.exec) (hb : c.code = cc) {x y : Int} {off : Int} {tgt : Nat} (hdg : decode cc pc = .ok (.if_icmp .ge off, 3)) (ht : (pc : Int) + off = (tgt : Int)) (h : gIf (x < y) x y b a = some r)
    (kt : a = some r → W p l e R s m args below meth c H locs cells slots Q (F0 m tgt ls rest)) (kf : b = some r → W p l e R s m args below meth c H locs cells slots Q (F0 m (pc + 3) ls rest)) : W p l e R s m args below meth c H locs cells slots Q (F0 m pc ls (.int (gI y) :: .int (gI x) :: rest)) := by
  obtain ⟨hx, hy, h⟩ := gIf_some h
  refine lv_icmp_ge hexec hb hdg ht (fun c1 => ?_) (fun c1 => ?_)
  · rw [gI_le hy hx] at c1
    rcases h with ⟨h0, h⟩ | ⟨h0, h⟩
    · exact absurd h0 (by omega)
    · exact kt h
  · rw [gI_le hy hx] at c1
    rcases h with ⟨h0, h⟩ | ⟨h0, h⟩
    · exact kf h
    · exact absurd (by omega) h0
theorem g_if_gt {α : Type} {a b : Option α} {r : α} (hexec : p.tables.exec = Jvm.exec) (hb : c.code = cc) {x : Int} {off : Int} {tgt : Nat} (hdg : decode cc pc = .ok (.ifCond .gt off, 3)) (ht : (pc : Int) + off = (tgt : Int)) (h : gIf (0 < x) x 0 a b = some r)
    (kt : a = some r → W p l e R s m args below meth c H locs cells slots Q (F0 m tgt ls rest)) (kf : b = some r → W p l e R s m args below meth c H locs cells slots Q (F0 m (pc + 3) ls rest)) : W p l e R s m args below meth c H locs cells slots Q (F0 m pc ls (.int (gI x) :: rest)) := by
  obtain ⟨hx, hy, h⟩ := gIf_some h
  refine lv_if_gt hexec hb hdg ht (fun c1 => ?_) (fun c1 => ?_)
  · rw [gI_lit, gI_lt hy hx] at c1
    rcases h with ⟨h0, h⟩ | ⟨h0, h⟩
    · exact kt h
    · exact absurd (by omega) h0
  · rw [gI_lit, gI_lt hy hx] at c1
    rcases h with ⟨h0, h⟩ | ⟨h0, h⟩
    · exact absurd h0 (by omega)
    · exact kf h
theorem g_icmp_gt {α : Type} {a b : Option α} {r : α} (hexec : p.tables.exec = Jvm.exec) (hb : c.code = cc) {x y : Int} {off : Int} {tgt : Nat} (hdg : decode cc pc = .ok (.if_icmp .gt off, 3)) (ht : (pc : Int) + off = (tgt : Int)) (h : gIf (y < x) x y a b = some r)
    (kt : a = some r → W p l e R s m args below meth c H locs cells slots Q (F0 m tgt ls rest)) (kf : b = some r → W p l e R s m args below meth c H locs cells slots Q (F0 m (pc + 3) ls rest)) : W p l e R s m args below meth c H locs cells slots Q (F0 m pc ls (.int (gI y) :: .int (gI x) :: rest)) := by
  obtain ⟨hx, hy, h⟩ := gIf_some h
  refine lv_icmp_gt hexec hb hdg ht (fun c1 => ?_) (fun c1 => ?_)
  · rw [gI_lt hy hx] at c1
    rcases h with ⟨h0, h⟩ | ⟨h0, h⟩
    · exact kt h
    · exact absurd (by omega) h0
  · rw [gI_lt hy hx] at c1
    rcases h with ⟨h0, h⟩ | ⟨h0, h⟩
    · exact absurd h0 (by omega)
    · exact kf h
theorem g_if_le {α : Type} {a b : Option α} {r : α} (hexec : p.tables.exec = Jvm.exec) (hb : c.code = cc) {x : Int} {off : Int} {tgt : Nat} (hdg : decode cc pc = .ok (.ifCond .le off, 3)) (ht : (pc : Int) + off = (tgt : Int)) (h : gIf (0 < x) x 0 b a = some r)
    (kt : a = some r → W p l e R s m args below meth c H locs cells slots Q (F0 m tgt ls rest)) (kf : b = some r → W p l e R s m args below meth c H locs cells slots Q (F0 m (pc + 3) ls rest)) : W p l e R s m args below meth c H locs cells slots Q (F0 m pc ls (.int (gI x) :: rest)) := by
  obtain ⟨hx, hy, h⟩ := gIf_some h
  refine lv_if_le hexec hb hdg ht (fun c1 => ?_) (fun c1 => ?_)
  · rw [gI_lit, gI_le hx hy] at c1
    rcases h with ⟨h0, h⟩ | ⟨h0, h⟩
    · exact absurd h0 (by omega)
    · exact kt h
  · rw [gI_lit, gI_le hx hy] at c1
    rcases h with ⟨h0, h⟩ | ⟨h0, h⟩
    · exact kf h
    · exact absurd (by omega) h0
theorem g_icmp_le {α : Type} {a b : Option α} {r : α} (hexec : p.tables.exec = Jvm.exec) (hb : c.code = cc) {x y : Int} {off : Int} {tgt : Nat} (hdg : decode cc pc = .ok (.if_icmp .le off, 3)) (ht : (pc : Int) + off = (tgt : Int)) (h : gIf (y < x) x y b a = some r)
    (kt : a = some r → W p l e R s m args below meth c H locs cells slots Q (F0 m tgt ls rest)) (kf : b = some r → W p l e R s m args below meth c H locs cells slots Q (F0 m (pc + 3) ls rest)) : W p l e R s m args below meth c H locs cells slots Q (F0 m pc ls (.int (gI y) :: .int (gI x) :: rest)) := by
  obtain ⟨hx, hy, h⟩ := gIf_some h
  refine lv_icmp_le hexec hb hdg ht (fun c1 => ?_) (fun c1 => ?_)
  · rw [gI_le hx hy] at c1
    rcases h with ⟨h0, h⟩ | ⟨h0, h⟩
    · exact absurd h0 (by omega)
    · exact kt h
  · rw [gI_le hx hy] at c1
    rcases h with ⟨h0, h⟩ | ⟨h0, h⟩
    · exact kf h
    · exact absurd (by omega) h0
/-- a switch by a table -/
theorem g_tabIn (hexec : p.tables.exec = Jvm.exec) (hb : c.code = cc) {dflt lo hi : Int} {offs : Array Int} {len : Nat} {x i : Int} {off : Int} {tgt : Nat} (hdg : decode cc pc = .ok (.tableswitch dflt lo hi offs, len)) (hxi : x = i) (hR : gR i) (h1 : ¬ i < lo) (h2 : ¬ hi < i) (ho : offs[(i - lo).toNat]? = some off) (ht : (pc : Int) + off = (tgt : Int))
    (k : W p l e R s m args below meth c H locs cells slots Q (F0 m tgt ls rest)) : W p l e R s m args below meth c H locs cells slots Q (F0 m pc ls (.int (gI x) :: rest)) := by
  subst hxi
  exact lv_tableIn hexec hb hdg (by rw [gI_t hR]; exact h1) (by rw [gI_t hR]; exact h2) (by rw [gI_t hR]; exact ho) ht k
theorem g_tabOut (hexec : p.tables.exec = Jvm.exec) (hb : c.code = cc) {dflt lo hi : Int} {offs : Array Int} {len : Nat} {x : Int} {tgt : Nat} (hdg : decode cc pc = .ok (.tableswitch dflt lo hi offs, len)) (hR : gR x) (h : x < lo ∨ hi < x) (ht : (pc : Int) + dflt = (tgt : Int))
    (k : W p l e R s m args below meth c H locs cells slots Q (F0 m tgt ls rest)) : W p l e R s m args below meth c H locs cells slots Q (F0 m pc ls (.int (gI x) :: rest)) :=
  lv_tableOut hexec hb hdg (by rw [gI_t hR]; exact h) ht k
/-- fields -/
theorem g_getR (hexec : p.tables.exec = Jvm.exec) (hb : c.code = cc) {own ref C : String} {T : u_T} {N ci index : Nat} {Ts : List Cond} (hts : ∀ w ∈ Ts, w.before args s = true) (hin : ∀ w ∈ u_ws C T N, w ∈ Ts) (hown : s.vm.findClass own = some m.cls) (hX : gX D G s) (hH : gH D G s H locs σ μ) {k i j : Nat} {sl : List (Nat ⊕ Bool)} (hk : gKinds[k]? = some (.inr (.inl (ci, sl)))) (hc : vwCl[ci]? = some (C, T, N)) (hi : i < N) (hlink : (Cond.fieldLink own index ref (T i).2.1 (T i).2.2.1).before args s = true) (hsame : ref = (T i).1) (hsl : sl[i]? = some (.inl j)) (hdg : decode cc pc = .ok (.getfield index, 3))
    (kk : W p l e R s m args below meth c H locs cells slots Q (F0 m (pc + 3) ls (.ref (G.1 j) :: rest))) : W p l e R s m args below meth c H locs cells slots Q (F0 m pc ls (.ref (G.1 k) :: rest)) := by
  subst hsame
  refine va_get (D := D) (cl := vwCl) (tys := gTys G) (v := .ref (G.1 j)) hexec hb hts hin hown hX.1 hH.1 k (gW_get hk) hc i hi hlink (fun x h => h) ?_ hdg kk
  rw [List.getElem?_mapIdx, hsl]
  rfl
theorem g_getI (hexec : p.tables.exec = Jvm.exec) (hb : c.code = cc) {own ref C : String} {T : u_T} {N ci index : Nat} {Ts : List Cond} (hts : ∀ w ∈ Ts, w.before args s = true) (hin : ∀ w ∈ u_ws C T N, w ∈ Ts) (hown : s.vm.findClass own = some m.cls) (hX : gX D G s) (hH : gH D G s H locs σ μ) {k i : Nat} {sl : List (Nat ⊕ Bool)} (hk : gKinds[k]? = some (.inr (.inl (ci, sl)))) (hc : vwCl[ci]? = some (C, T, N)) (hi : i < N) (hlink : (Cond.fieldLink own index ref (T i).2.1 (T i).2.2.1).before args s = true) (hsame : ref = (T i).1) (hsl : sl[i]? = some (.inr false)) (hdg : decode cc pc = .ok (.getfield index, 3))
    (kk : W p l e R s m args below meth c H locs cells slots Q (F0 m (pc + 3) ls (.int (gI (σ k i)) :: rest))) : W p l e R s m args below meth c H locs cells slots Q (F0 m pc ls (.ref (G.1 k) :: rest)) := by
  subst hsame
  refine va_get (D := D) (cl := vwCl) (tys := gTys G) (v := .int (gI (σ k i))) hexec hb hts hin hown hX.1 hH.1 k (gW_get hk) hc i hi hlink (fun x h => h) ?_ hdg kk
  rw [List.getElem?_mapIdx, hsl]
  rfl
theorem g_getL (hexec : p.tables.exec = Jvm.exec) (hb : c.code = cc) {own ref C : String} {T : u_T} {N ci index : Nat} {Ts : List Cond} (hts : ∀ w ∈ Ts, w.before args s = true) (hin : ∀ w ∈ u_ws C T N, w ∈ Ts) (hown : s.vm.findClass own = some m.cls) (hX : gX D G s) (hH : gH D G s H locs σ μ) {k i : Nat} {sl : List (Nat ⊕ Bool)} (hk : gKinds[k]? = some (.inr (.inl (ci, sl)))) (hc : vwCl[ci]? = some (C, T, N)) (hi : i < N) (hlink : (Cond.fieldLink own index ref (T i).2.1 (T i).2.2.1).before args s = true) (hsame : ref = (T i).1) (hsl : sl[i]? = some (.inr true)) (hdg : decode cc pc = .ok (.getfield index, 3))
    (kk : W p l e R s m args below meth c H locs cells slots Q (F0 m (pc + 3) ls (.long (μ k) :: rest))) : W p l e R s m args below meth c H locs cells slots Q (F0 m pc ls (.ref (G.1 k) :: rest)) := by
  subst hsame
  refine va_get (D := D) (cl := vwCl) (tys := gTys G) (v := .long (μ k)) hexec hb hts hin hown hX.1 hH.1 k (gW_get hk) hc i hi hlink (fun x h => h) ?_ hdg kk
  rw [List.getElem?_mapIdx, hsl]
  rfl
theorem g_putI (hexec : p.tables.exec = Jvm.exec) (hb : c.code = cc) {own ref C : String} {T : u_T} {N ci index : Nat} {Ts : List Cond} (hts : ∀ w ∈ Ts, w.before args s = true) (hin : ∀ w ∈ u_ws C T N, w ∈ Ts) (ty0 : Nat → FieldType) (hty : ∀ k, k < N → parseFieldDescriptor (T k).2.2.1 = some (ty0 k)) (hnm : ∀ a, a < N → ∀ b, b < N → a ≠ b → (T a).2.1 ≠ (T b).2.1) (hown : s.vm.findClass own = some m.cls) (hX : gX D G s) (hH : gH D G s H locs σ μ) {k i : Nat} {sl : List (Nat ⊕ Bool)} (hk : gKinds[k]? = some (.inr (.inl (ci, sl)))) (hc : vwCl[ci]? = some (C, T, N)) (hi : i < N) (hlink : (Cond.fieldLink own index ref (T i).2.1 (T i).2.2.1).before args s = true) (hsame : ref = (T i).1) (hfin : (T i).2.2.2 = false) (hI : ty0 i = .int) (hsl : sl[i]? = some (.inr false)) {v : Int} (hdg : decode cc pc = .ok (.putfield index, 3))
    (kk : ∀ (H1 : Heap) (locs1 : List Loc), gH D G s H1 locs1 (gUp σ k i v) μ → W p l e R s m args below meth c H1 locs1 cells slots Q (F0 m (pc + 3) ls rest)) : W p l e R s m args below meth c H locs cells slots Q (F0 m pc ls (.int (gI v) :: .ref (G.1 k) :: rest)) := by
  subst hsame
  refine va_put (D := D) (cl := vwCl) (tys := gTys G) (A := gA G) (H0 := s.heap) (v := .int (gI v)) (ty := .int) hexec hb hts hin ty0 hty hnm hown hX.1 hH.1 (hX.d σ μ) hH.2 k (gW_get hk) hc i hi hlink (fun x h => h) hfin (by rw [hty i hi, hI]) rfl rfl ?_ hdg (fun H1 locs1 hP1 hD1 hS1 => ?_)
  · rw [List.length_mapIdx]
    exact (List.getElem?_eq_some_iff.mp hsl).1
  · refine kk H1 locs1 ⟨?_, hS1⟩
    rw [gW_set hk (gO_up hsl) (fun j t' h => gE_up j t' h)] at hP1
    exact hP1
theorem g_putL (hexec : p.tables.exec = Jvm.exec) (hb : c.code = cc) {own ref C : String} {T : u_T} {N ci index : Nat} {Ts : List Cond} (hts : ∀ w ∈ Ts, w.before args s = true) (hin : ∀ w ∈ u_ws C T N, w ∈ Ts) (ty0 : Nat → FieldType) (hty : ∀ k, k < N → parseFieldDescriptor (T k).2.2.1 = some (ty0 k)) (hnm : ∀ a, a < N → ∀ b, b < N → a ≠ b → (T a).2.1 ≠ (T b).2.1) (hown : s.vm.findClass own = some m.cls) (hX : gX D G s) (hH : gH D G s H locs σ μ) {k i : Nat} {sl : List (Nat ⊕ Bool)} (hk : gKinds[k]? = some (.inr (.inl (ci, sl)))) (hc : vwCl[ci]? = some (C, T, N)) (hi : i < N) (hlink : (Cond.fieldLink own index ref (T i).2.1 (T i).2.2.1).before args s = true) (hsame : ref = (T i).1) (hfin : (T i).2.2.2 = false) (hI : ty0 i = .long) (hsl : sl[i]? = some (.inr true)) (hu : ∀ j, sl[j]? = some (.inr true) → j = i) {v : Int64} (hdg : decode cc pc = .ok (.putfield index, 3))
    (kk : ∀ (H1 : Heap) (locs1 : List Loc), gH D G s H1 locs1 σ (gUl μ k v) → W p l e R s m args below meth c H1 locs1 cells slots Q (F0 m (pc + 3) ls rest)) : W p l e R s m args below meth c H locs cells slots Q (F0 m pc ls (.long v :: .ref (G.1 k) :: rest)) := by
  subst hsame
  refine va_put (D := D) (cl := vwCl) (tys := gTys G) (A := gA G) (H0 := s.heap) (v := .long v) (ty := .long) hexec hb hts hin ty0 hty hnm hown hX.1 hH.1 (hX.d σ μ) hH.2 k (gW_get hk) hc i hi hlink (fun x h => h) hfin (by rw [hty i hi, hI]) rfl rfl ?_ hdg (fun H1 locs1 hP1 hD1 hS1 => ?_)
  · rw [List.length_mapIdx]
    exact (List.getElem?_eq_some_iff.mp hsl).1
  · refine kk H1 locs1 ⟨?_, hS1⟩
    rw [gW_set hk (gO_ul hsl hu) (fun j t' h => gE_ul j t' h)] at hP1
    exact hP1
/-- arrays -/
theorem g_iald {α : Type} {a : Option α} {r : α} (hexec : p.tables.exec = Jvm.exec) (hb : c.code = cc) (hX : gX D G s) (hH : gH D G s H locs σ μ) {k n : Nat} {i : Int} (hk : gKinds[k]? = some (.inl n)) (hn : n ≤ 2147483647) (hdg : decode cc pc = .ok (.iaload, 1)) (h : gAt i n a = some r)
    (kk : a = some r → W p l e R s m args below meth c H locs cells slots Q (F0 m (pc + 1) ls (.int (gI (σ k i.toNat)) :: rest))) : W p l e R s m args below meth c H locs cells slots Q (F0 m pc ls (.int (gI i) :: .ref (G.1 k) :: rest)) := by
  obtain ⟨h1, h2⟩ := gAt_some h
  refine va_iald (D := D) (cl := vwCl) (tys := gTys G) hexec hb hX.1 hH.1 k 0 (gW_get hk) rfl (gI_in h1.1 h1.2 hn) hdg ?_
  rw [gI_c h1.1 ⟨by omega, by omega⟩]
  exact kk h2
theorem g_iast {α : Type} {a : Option α} {r : α} (hexec : p.tables.exec = Jvm.exec) (hb : c.code = cc) (hX : gX D G s) (hH : gH D G s H locs σ μ) {k n : Nat} {i v : Int} (hk : gKinds[k]? = some (.inl n)) (hn : n ≤ 2147483647) (hdg : decode cc pc = .ok (.iastore, 1)) (h : gAt i n a = some r)
    (kk : a = some r → ∀ (H1 : Heap) (locs1 : List Loc), gH D G s H1 locs1 (gUp σ k i.toNat v) μ → W p l e R s m args below meth c H1 locs1 cells slots Q (F0 m (pc + 1) ls rest)) : W p l e R s m args below meth c H locs cells slots Q (F0 m pc ls (.int (gI v) :: .int (gI i) :: .ref (G.1 k) :: rest)) := by
  obtain ⟨h1, h2⟩ := gAt_some h
  refine va_iast (D := D) (cl := vwCl) (tys := gTys G) (A := gA G) (H0 := s.heap) hexec hb hX.1 hH.1 (hX.d σ μ) hH.2 k 0 (gW_get hk) rfl (gI_in h1.1 h1.2 hn) hdg (fun H1 locs1 hP1 hD1 hS1 => ?_)
  refine kk h2 H1 locs1 ⟨?_, hS1⟩
  rw [gI_c h1.1 ⟨by omega, by omega⟩, gW_set hk gA_up (fun j t' h => gE_up j t' h)] at hP1
  exact hP1
theorem g_alen (hexec : p.tables.exec = Jvm.exec) (hb : c.code = cc) (hX : gX D G s) (hH : gH D G s H locs σ μ) {k n : Nat} (hk : gKinds[k]? = some (.inl n)) (hdg : decode cc pc = .ok (.arraylength, 1))
    (kk : W p l e R s m args below meth c H locs cells slots Q (F0 m (pc + 1) ls (.int (gI n) :: rest))) : W p l e R s m args below meth c H locs cells slots Q (F0 m pc ls (.ref (G.1 k) :: rest)) :=
  va_alen (D := D) (cl := vwCl) (tys := gTys G) (v := gI n) hexec hb hX.1 hH.1 k 0 (gW_get hk) rfl (gI_nat n) hdg kk
theorem g_alenq (hexec : p.tables.exec = Jvm.exec) (hb : c.code = cc) (hX : gX D G s) (hH : gH D G s H locs σ μ) {k : Nat} {rs : List Nat} (hk : gKinds[k]? = some (.inr (.inr (.inl rs)))) (hdg : decode cc pc = .ok (.arraylength, 1))
    (kk : W p l e R s m args below meth c H locs cells slots Q (F0 m (pc + 1) ls (.int (gI rs.length) :: rest))) : W p l e R s m args below meth c H locs cells slots Q (F0 m pc ls (.ref (G.1 k) :: rest)) :=
  va_alen (D := D) (cl := vwCl) (tys := gTys G) (v := gI rs.length) hexec hb hX.1 hH.1 k 1 (gW_get hk) rfl (gI_nat _) hdg kk
theorem g_aald {α : Type} {a : Option α} {r : α} (hexec : p.tables.exec = Jvm.exec) (hb : c.code = cc) (hX : gX D G s) (hH : gH D G s H locs σ μ) {k n : Nat} {rs : List Nat} {i : Int} (hk : gKinds[k]? = some (.inr (.inr (.inl rs)))) (hn : rs.length = n) (hn2 : n ≤ 2147483647) (hdg : decode cc pc = .ok (.aaload, 1)) (h : gAt i n a = some r)
    (kk : a = some r → W p l e R s m args below meth c H locs cells slots Q (F0 m (pc + 1) ls (.ref (G.1 (rs.getD i.toNat 0)) :: rest))) : W p l e R s m args below meth c H locs cells slots Q (F0 m pc ls (.int (gI i) :: .ref (G.1 k) :: rest)) := by
  obtain ⟨h1, h2⟩ := gAt_some h
  subst hn
  refine va_aldq (D := D) (cl := vwCl) (tys := gTys G) hexec hb hX.1 hH.1 k 1 (gW_get hk) rfl (gI_in h1.1 h1.2 hn2) hdg ?_
  rw [gI_c h1.1 ⟨by omega, by omega⟩]
  have hl : i.toNat < rs.length := by omega
  have e1 : va_rf ((rs[i.toNat]?).map G.1) = .ref (G.1 (rs.getD i.toNat 0)) := by
    rw [List.getElem?_eq_getElem hl, List.getD_eq_getElem?_getD, List.getElem?_eq_getElem hl]
    rfl
  show W p l e R s m args below meth c H locs cells slots Q (F0 m (pc + 1) ls (va_rf ((rs[i.toNat]?).map G.1) :: rest))
  rw [e1]
  exact kk h2
/-- the ends -/
theorem g_iret (hexec : p.tables.exec = Jvm.exec) (hb : c.code = cc) (hr : meth.sig.returnType = some .int) (hH : gH D G s H locs σ μ) (hlocks : meth.locks = false) {v : Int} (hdg : decode cc pc = .ok (.ireturn, 1)) : W p l e R s m args below meth c H locs cells slots (MQ below (gQi D G v σ μ) args s cells slots (gA G)) (F0 m pc ls [.int (gI v)]) :=
  W.iret hexec hb hr (fun t ht hW => ⟨⟨_, (), rfl, rfl, by show va_P D vwCl (gW G σ μ) t.heap; rw [ht]; exact hH.1⟩, hH.2.F ht⟩) hH.2.2.2 hdg hlocks
theorem g_zret (hexec : p.tables.exec = Jvm.exec) (hb : c.code = cc) (hr : meth.sig.returnType = some .boolean) (hH : gH D G s H locs σ μ) (hlocks : meth.locks = false) {v : Int} (hv : v = 0 ∨ v = 1) (hdg : decode cc pc = .ok (.ireturn, 1)) : W p l e R s m args below meth c H locs cells slots (MQ below (gQi D G v σ μ) args s cells slots (gA G)) (F0 m pc ls [.int (gI v)]) :=
  W.zret hexec hb hr (by rcases hv with rfl | rfl <;> rfl) (fun t ht hW => ⟨⟨_, (), rfl, rfl, by show va_P D vwCl (gW G σ μ) t.heap; rw [ht]; exact hH.1⟩, hH.2.F ht⟩) hH.2.2.2 hdg hlocks
theorem g_lret (hexec : p.tables.exec = Jvm.exec) (hb : c.code = cc) (hr : meth.sig.returnType = some .long) (hH : gH D G s H locs σ μ) (hlocks : meth.locks = false) {v : Int64} (hdg : decode cc pc = .ok (.lreturn, 1)) : W p l e R s m args below meth c H locs cells slots (MQ below (gQl D G v σ μ) args s cells slots (gA G)) (F0 m pc ls [.long v]) :=
  W.lret hexec hb hr (fun t ht hW => ⟨⟨_, (), rfl, rfl, by show va_P D vwCl (gW G σ μ) t.heap; rw [ht]; exact hH.1⟩, hH.2.F ht⟩) hH.2.2.2 hdg hlocks
theorem g_vret (hexec : p.tables.exec = Jvm.exec) (hb : c.code = cc) (hr : meth.sig.returnType = none) (hH : gH D G s H locs σ μ) (hlocks : meth.locks = false) (hdg : decode cc pc = .ok (.return_, 1)) : W p l e R s m args below meth c H locs cells slots (MQ below (gQv D G σ μ) args s cells slots (gA G)) (F0 m pc ls []) :=
  W.vret hexec hb hr (fun t ht hW => ⟨⟨(), rfl, trivial, by show va_P D vwCl (gW G σ μ) t.heap; rw [ht]; exact hH.1⟩, hH.2.F ht⟩) hH.2.2.2 hdg hlocks
theorem g_aret (hexec : p.tables.exec = Jvm.exec) (hb : c.code = cc) {n : String} (hr : meth.sig.returnType = some (.object n)) (hH : gH D G s H locs σ μ) (hlocks : meth.locks = false) {v : Value} {o : Option Nat} (hv : v = va_rf (o.map G.1)) (hdg : decode cc pc = .ok (.areturn, 1)) : W p l e R s m args below meth c H locs cells slots (MQ below (gQq D G o σ μ) args s cells slots (gA G)) (F0 m pc ls [v]) :=
  W.aret hexec hb hr (Or.inl ⟨n, rfl⟩) (by rw [hv]; cases o <;> first | exact Or.inl rfl | exact Or.inr ⟨_, rfl⟩) (fun t ht hW => ⟨⟨_, (), by rw [hv], rfl, by show va_P D vwCl (gW G σ μ) t.heap; rw [ht]; exact hH.1⟩, hH.2.F ht⟩) hH.2.2.2 hdg hlocks
theorem g_iretP (hexec : p.tables.exec = Jvm.exec) (hb : c.code = cc) (hr : meth.sig.returnType = some .int) (hH : gH D G s H locs σ μ) (hlocks : meth.locks = false) {v r : Int} (hdg : decode cc pc = .ok (.ireturn, 1)) (h : some v = some r) : W p l e R s m args below meth c H locs cells slots (MQ below (gQi D G r σ μ) args s cells slots (gA G)) (F0 m pc ls [.int (gI v)]) := by
  cases h
  exact g_iret hexec hb hr hH hlocks hdg
theorem g_iretS (hexec : p.tables.exec = Jvm.exec) (hb : c.code = cc) (hr : meth.sig.returnType = some .int) {σ' : gSt} (hH : gH D G s H locs σ μ) (hlocks : meth.locks = false) {v r : Int} (hdg : decode cc pc = .ok (.ireturn, 1)) (h : some (v, σ) = some (r, σ')) : W p l e R s m args below meth c H locs cells slots (MQ below (gQi D G r σ' μ) args s cells slots (gA G)) (F0 m pc ls [.int (gI v)]) := by
  cases h
  exact g_iret hexec hb hr hH hlocks hdg
theorem g_zretP (hexec : p.tables.exec = Jvm.exec) (hb : c.code = cc) (hr : meth.sig.returnType = some .boolean) (hH : gH D G s H locs σ μ) (hlocks : meth.locks = false) {v r : Int} (hdg : decode cc pc = .ok (.ireturn, 1)) (h : gBo v (some v) = some r) : W p l e R s m args below meth c H locs cells slots (MQ below (gQi D G r σ μ) args s cells slots (gA G)) (F0 m pc ls [.int (gI v)]) := by
  obtain ⟨h1, h2⟩ := gBo_some h
  cases h2
  exact g_zret hexec hb hr hH hlocks h1 hdg
theorem g_zretS (hexec : p.tables.exec = Jvm.exec) (hb : c.code = cc) (hr : meth.sig.returnType = some .boolean) {σ' : gSt} (hH : gH D G s H locs σ μ) (hlocks : meth.locks = false) {v r : Int} (hdg : decode cc pc = .ok (.ireturn, 1)) (h : gBo v (some (v, σ)) = some (r, σ')) : W p l e R s m args below meth c H locs cells slots (MQ below (gQi D G r σ' μ) args s cells slots (gA G)) (F0 m pc ls [.int (gI v)]) := by
  obtain ⟨h1, h2⟩ := gBo_some h
  cases h2
  exact g_zret hexec hb hr hH hlocks h1 hdg
theorem g_vretS (hexec : p.tables.exec = Jvm.exec) (hb : c.code = cc) (hr : meth.sig.returnType = none) {σ' : gSt} (hH : gH D G s H locs σ μ) (hlocks : meth.locks = false) (hdg : decode cc pc = .ok (.return_, 1)) (h : some σ = some σ') : W p l e R s m args below meth c H locs cells slots (MQ below (gQv D G σ' μ) args s cells slots (gA G)) (F0 m pc ls []) := by
  cases h
  exact g_vret hexec hb hr hH hlocks hdg
theorem g_vretM (hexec : p.tables.exec = Jvm.exec) (hb : c.code = cc) (hr : meth.sig.returnType = none) {μ' : gLg} (hH : gH D G s H locs σ μ) (hlocks : meth.locks = false) (hdg : decode cc pc = .ok (.return_, 1)) (h : some μ = some μ') : W p l e R s m args below meth c H locs cells slots (MQ below (gQv D G σ μ') args s cells slots (gA G)) (F0 m pc ls []) := by
  cases h
  exact g_vret hexec hb hr hH hlocks hdg
theorem g_lretP (hexec : p.tables.exec = Jvm.exec) (hb : c.code = cc) (hr : meth.sig.returnType = some .long) (hH : gH D G s H locs σ μ) (hlocks : meth.locks = false) {v r : Int64} (hdg : decode cc pc = .ok (.lreturn, 1)) (h : some v = some r) : W p l e R s m args below meth c H locs cells slots (MQ below (gQl D G r σ μ) args s cells slots (gA G)) (F0 m pc ls [.long v]) := by
  cases h
  exact g_lret hexec hb hr hH hlocks hdg
theorem g_lretSM (hexec : p.tables.exec = Jvm.exec) (hb : c.code = cc) (hr : meth.sig.returnType = some .long) {σ' : gSt} {μ' : gLg} (hH : gH D G s H locs σ μ) (hlocks : meth.locks = false) {v r : Int64} (hdg : decode cc pc = .ok (.lreturn, 1)) (h : some (v, σ, μ) = some (r, σ', μ')) : W p l e R s m args below meth c H locs cells slots (MQ below (gQl D G r σ' μ') args s cells slots (gA G)) (F0 m pc ls [.long v]) := by
  cases h
  exact g_lret hexec hb hr hH hlocks hdg
theorem g_mmax {α : Type} {a : Option α} {r : α} (hexec : p.tables.exec = Jvm.exec) (hb : c.code = cc) (hml : c.maxLocals = ls.size) {own : String} {index : Nat} (hts : ∀ w ∈ gLW, w.before args s = true) (hown : s.vm.findClass own = some m.cls) (hlink : Cond.methodLink own index Lib.Math.max.name ∈ gLW) (hR : (1 ≤ R.frames ∧ (rest.map fun v => v.category).sum + 13 ≤ R.locals) ∧ cells ≤ R.cells ∧ slots ≤ R.slots) {x y : Int} (hdg : decode cc pc = .ok (.invokestatic index, 3)) (h : gRr x y a = some r)
    (kk : a = some r → W p l e R s m args below meth c H locs cells slots Q (F0 m (pc + 3) ls (.int (gI (max x y)) :: rest))) : W p l e R s m args below meth c H locs cells slots Q (F0 m pc ls (.int (gI y) :: .int (gI x) :: rest)) := by
  obtain ⟨h1, h2⟩ := gRr_some h
  refine va_mmax hexec hb hml hown (hts _ hlink) (hts _ q_st_mmax) (hts _ q_in_java_lang_Math) (hts _ q_co_mmax) hR.1.1 hR.1.2 hR.2.1 hR.2.2 hdg ?_
  have e1 : (if gI x < gI y then gI y else gI x) = gI (max x y) := by
    by_cases hc : x < y
    · rw [if_pos ((gI_lt h1.1 h1.2).mpr hc), Int.max_eq_right (by omega)]
    · rw [if_neg (fun q => hc ((gI_lt h1.1 h1.2).mp q)), Int.max_eq_left (by omega)]
  rw [e1]
  exact kk h2
theorem g_mmin {α : Type} {a : Option α} {r : α} (hexec : p.tables.exec = Jvm.exec) (hb : c.code = cc) (hml : c.maxLocals = ls.size) {own : String} {index : Nat} (hts : ∀ w ∈ gLW, w.before args s = true) (hown : s.vm.findClass own = some m.cls) (hlink : Cond.methodLink own index Lib.Math.min.name ∈ gLW) (hR : (1 ≤ R.frames ∧ (rest.map fun v => v.category).sum + 13 ≤ R.locals) ∧ cells ≤ R.cells ∧ slots ≤ R.slots) {x y : Int} (hdg : decode cc pc = .ok (.invokestatic index, 3)) (h : gRr x y a = some r)
    (kk : a = some r → W p l e R s m args below meth c H locs cells slots Q (F0 m (pc + 3) ls (.int (gI (min x y)) :: rest))) : W p l e R s m args below meth c H locs cells slots Q (F0 m pc ls (.int (gI y) :: .int (gI x) :: rest)) := by
  obtain ⟨h1, h2⟩ := gRr_some h
  refine va_mmin hexec hb hml hown (hts _ hlink) (hts _ q_st_mmin) (hts _ q_in_java_lang_Math) (hts _ q_co_mmin) hR.1.1 hR.1.2 hR.2.1 hR.2.2 hdg ?_
  have e1 : (if gI y < gI x then gI y else gI x) = gI (min x y) := by
    by_cases hc : y < x
    · rw [if_pos ((gI_lt h1.2 h1.1).mpr hc), Int.min_eq_right (by omega)]
    · rw [if_neg (fun q => hc ((gI_lt h1.2 h1.1).mp q)), Int.min_eq_left (by omega)]
  rw [e1]
  exact kk h2
theorem g_callVi {y : MethodName} {bytes : ByteArray} {maxL nL n index : Nat} {ret : Option FieldType} {rm : Room} {Ts : List Cond} {own C : String} {As st0 : List Value} {σ' : gSt} {μ' : gLg} {k ci : Nat} {sl : List (Nat ⊕ Bool)} {T : u_T} {N : Nat} {r : Int} (S : CallFix p m c cc nL s args Ts own) (hM : Met l y (gWs y bytes maxL ret) rm (gPc D G (.ref (G.1 k) :: As) σ μ) (gQi D G r σ' μ') 0 0 (gA G)) (cw : CallW R s args own C index y bytes maxL ret (gWs y bytes maxL ret) rm 0 0 n) (hX : gX D G s) (hH : gH D G s H locs σ μ) (hk : gKinds[k]? = some (.inr (.inl (ci, sl)))) (hc : vwCl[ci]? = some (C, T, N)) (hn : As.length = n) (hsize : ls.size = nL) (hst : st0 = As.reverse ++ .ref (G.1 k) :: rest) (hW : (rest.map fun v => v.category).sum ≤ 8) (hdg : decode cc pc = .ok (.invokevirtual index, 3)) (hf : cells ≤ R.cells ∧ slots ≤ R.slots)
    (kk : ∀ (H1 : Heap) (locs1 : List Loc), gH D G s H1 locs1 σ' μ' → W p l e R s m args below meth c H1 locs1 cells slots Q (F0 m (pc + 3) ls (.int (gI r) :: rest))) : W p l e R s m args below meth c H locs cells slots Q (F0 m pc ls st0) := by
  refine va_calli (mc := 0) (ms := 0) (free := gA G) (A0 := gA G) (A1 := gA G) (va_runV (As := As) (rest := rest) S hM cw ⟨gPc_blind, va_recv hX.1 hH.1 hc (gW_get hk), fun U hU hW2 => ⟨rfl, by rw [hU]; exact hH.1, hX.go hH.2 hU hW2⟩⟩ rfl hn hsize hst (lv_room hW) hdg hf) hH.2 (fun q _ h => h) (fun q h => h) (fun r0 u t H1 locs1 ht hvm hp hB hz hq hS => ?_)
  have hB2 : va_P D vwCl (gW G σ' μ') t.heap := hB
  rw [ht] at hB2
  subst hp
  exact kk H1 locs1 ⟨hB2, hS⟩
theorem g_callVv {y : MethodName} {bytes : ByteArray} {maxL nL n index : Nat} {ret : Option FieldType} {rm : Room} {Ts : List Cond} {own C : String} {As st0 : List Value} {σ' : gSt} {μ' : gLg} {k ci : Nat} {sl : List (Nat ⊕ Bool)} {T : u_T} {N : Nat} (S : CallFix p m c cc nL s args Ts own) (hM : Met l y (gWs y bytes maxL ret) rm (gPc D G (.ref (G.1 k) :: As) σ μ) (gQv D G σ' μ') 0 0 (gA G)) (cw : CallW R s args own C index y bytes maxL ret (gWs y bytes maxL ret) rm 0 0 n) (hX : gX D G s) (hH : gH D G s H locs σ μ) (hk : gKinds[k]? = some (.inr (.inl (ci, sl)))) (hc : vwCl[ci]? = some (C, T, N)) (hn : As.length = n) (hsize : ls.size = nL) (hst : st0 = As.reverse ++ .ref (G.1 k) :: rest) (hW : (rest.map fun v => v.category).sum ≤ 8) (hdg : decode cc pc = .ok (.invokevirtual index, 3)) (hf : cells ≤ R.cells ∧ slots ≤ R.slots)
    (kk : ∀ (H1 : Heap) (locs1 : List Loc), gH D G s H1 locs1 σ' μ' → W p l e R s m args below meth c H1 locs1 cells slots Q (F0 m (pc + 3) ls (rest))) : W p l e R s m args below meth c H locs cells slots Q (F0 m pc ls st0) := by
  refine va_callv (mc := 0) (ms := 0) (free := gA G) (A0 := gA G) (A1 := gA G) (va_runV (As := As) (rest := rest) S hM cw ⟨gPc_blind, va_recv hX.1 hH.1 hc (gW_get hk), fun U hU hW2 => ⟨rfl, by rw [hU]; exact hH.1, hX.go hH.2 hU hW2⟩⟩ rfl hn hsize hst (lv_room hW) hdg hf) hH.2 (fun q _ h => h) (fun q h => h) (fun u t H1 locs1 ht hvm hp hB hz hq hS => ?_)
  have hB2 : va_P D vwCl (gW G σ' μ') t.heap := hB
  rw [ht] at hB2
  exact kk H1 locs1 ⟨hB2, hS⟩
theorem g_callVl {y : MethodName} {bytes : ByteArray} {maxL nL n index : Nat} {ret : Option FieldType} {rm : Room} {Ts : List Cond} {own C : String} {As st0 : List Value} {σ' : gSt} {μ' : gLg} {k ci : Nat} {sl : List (Nat ⊕ Bool)} {T : u_T} {N : Nat} {r : Int64} (S : CallFix p m c cc nL s args Ts own) (hM : Met l y (gWs y bytes maxL ret) rm (gPc D G (.ref (G.1 k) :: As) σ μ) (gQl D G r σ' μ') 0 0 (gA G)) (cw : CallW R s args own C index y bytes maxL ret (gWs y bytes maxL ret) rm 0 0 n) (hX : gX D G s) (hH : gH D G s H locs σ μ) (hk : gKinds[k]? = some (.inr (.inl (ci, sl)))) (hc : vwCl[ci]? = some (C, T, N)) (hn : As.length = n) (hsize : ls.size = nL) (hst : st0 = As.reverse ++ .ref (G.1 k) :: rest) (hW : (rest.map fun v => v.category).sum ≤ 8) (hdg : decode cc pc = .ok (.invokevirtual index, 3)) (hf : cells ≤ R.cells ∧ slots ≤ R.slots)
    (kk : ∀ (H1 : Heap) (locs1 : List Loc), gH D G s H1 locs1 σ' μ' → W p l e R s m args below meth c H1 locs1 cells slots Q (F0 m (pc + 3) ls (.long r :: rest))) : W p l e R s m args below meth c H locs cells slots Q (F0 m pc ls st0) := by
  refine va_calll (mc := 0) (ms := 0) (free := gA G) (A0 := gA G) (A1 := gA G) (va_runV (As := As) (rest := rest) S hM cw ⟨gPc_blind, va_recv hX.1 hH.1 hc (gW_get hk), fun U hU hW2 => ⟨rfl, by rw [hU]; exact hH.1, hX.go hH.2 hU hW2⟩⟩ rfl hn hsize hst (lv_room hW) hdg hf) hH.2 (fun q _ h => h) (fun q h => h) (fun r0 u t H1 locs1 ht hvm hp hB hz hq hS => ?_)
  have hB2 : va_P D vwCl (gW G σ' μ') t.heap := hB
  rw [ht] at hB2
  subst hp
  exact kk H1 locs1 ⟨hB2, hS⟩
theorem g_callVq {y : MethodName} {bytes : ByteArray} {maxL nL n index : Nat} {ret : Option FieldType} {rm : Room} {Ts : List Cond} {own C : String} {As st0 : List Value} {σ' : gSt} {μ' : gLg} {k ci : Nat} {sl : List (Nat ⊕ Bool)} {T : u_T} {N : Nat} {r : Option Nat} (S : CallFix p m c cc nL s args Ts own) (hM : Met l y (gWs y bytes maxL ret) rm (gPc D G (.ref (G.1 k) :: As) σ μ) (gQq D G r σ' μ') 0 0 (gA G)) (cw : CallW R s args own C index y bytes maxL ret (gWs y bytes maxL ret) rm 0 0 n) (hX : gX D G s) (hH : gH D G s H locs σ μ) (hk : gKinds[k]? = some (.inr (.inl (ci, sl)))) (hc : vwCl[ci]? = some (C, T, N)) (hn : As.length = n) (hsize : ls.size = nL) (hst : st0 = As.reverse ++ .ref (G.1 k) :: rest) (hW : (rest.map fun v => v.category).sum ≤ 8) (hdg : decode cc pc = .ok (.invokevirtual index, 3)) (hf : cells ≤ R.cells ∧ slots ≤ R.slots)
    (kk : ∀ (H1 : Heap) (locs1 : List Loc), gH D G s H1 locs1 σ' μ' → W p l e R s m args below meth c H1 locs1 cells slots Q (F0 m (pc + 3) ls (va_rf (r.map G.1) :: rest))) : W p l e R s m args below meth c H locs cells slots Q (F0 m pc ls st0) := by
  refine va_callq (mc := 0) (ms := 0) (free := gA G) (A0 := gA G) (A1 := gA G) (va_runV (As := As) (rest := rest) S hM cw ⟨gPc_blind, va_recv hX.1 hH.1 hc (gW_get hk), fun U hU hW2 => ⟨rfl, by rw [hU]; exact hH.1, hX.go hH.2 hU hW2⟩⟩ rfl hn hsize hst (lv_room hW) hdg hf) hH.2 (fun q _ h => h) (fun q h => h) (fun r0 u t H1 locs1 ht hvm hp hB hz hq hS => ?_)
  have hB2 : va_P D vwCl (gW G σ' μ') t.heap := hB
  rw [ht] at hB2
  subst hp
  exact kk H1 locs1 ⟨hB2, hS⟩
theorem g_callSi {y : MethodName} {bytes : ByteArray} {maxL nL n index : Nat} {ret : Option FieldType} {rm : Room} {Ts : List Cond} {own : String} {As st0 : List Value} {σ' : gSt} {μ' : gLg} {r : Int} (S : CallFix p m c cc nL s args Ts own) (hM : Met l y (gWs y bytes maxL ret) rm (gPc D G (As) σ μ) (gQi D G r σ' μ') 0 0 (gA G)) (cw : CallB R s args own index y bytes maxL ret (gWs y bytes maxL ret) rm 0 0 n ∧ (Cond.static y).before args s = true) (hX : gX D G s) (hH : gH D G s H locs σ μ) (hn : As.length = n) (hsize : ls.size = nL) (hst : st0 = As.reverse ++ rest) (hW : (rest.map fun v => v.category).sum ≤ 8) (hdg : decode cc pc = .ok (.invokestatic index, 3)) (hf : cells ≤ R.cells ∧ slots ≤ R.slots)
    (kk : ∀ (H1 : Heap) (locs1 : List Loc), gH D G s H1 locs1 σ' μ' → W p l e R s m args below meth c H1 locs1 cells slots Q (F0 m (pc + 3) ls (.int (gI r) :: rest))) : W p l e R s m args below meth c H locs cells slots Q (F0 m pc ls st0) := by
  refine va_calli (mc := 0) (ms := 0) (free := gA G) (A0 := gA G) (A1 := gA G) (va_runS (As := As) (rest := rest) S hM cw ⟨gPc_blind, fun U hU hW2 => ⟨rfl, by rw [hU]; exact hH.1, hX.go hH.2 hU hW2⟩⟩ rfl hn hsize hst (lv_room hW) hdg hf) hH.2 (fun q _ h => h) (fun q h => h) (fun r0 u t H1 locs1 ht hvm hp hB hz hq hS => ?_)
  have hB2 : va_P D vwCl (gW G σ' μ') t.heap := hB
  rw [ht] at hB2
  subst hp
  exact kk H1 locs1 ⟨hB2, hS⟩
theorem g_callSv {y : MethodName} {bytes : ByteArray} {maxL nL n index : Nat} {ret : Option FieldType} {rm : Room} {Ts : List Cond} {own : String} {As st0 : List Value} {σ' : gSt} {μ' : gLg} (S : CallFix p m c cc nL s args Ts own) (hM : Met l y (gWs y bytes maxL ret) rm (gPc D G (As) σ μ) (gQv D G σ' μ') 0 0 (gA G)) (cw : CallB R s args own index y bytes maxL ret (gWs y bytes maxL ret) rm 0 0 n ∧ (Cond.static y).before args s = true) (hX : gX D G s) (hH : gH D G s H locs σ μ) (hn : As.length = n) (hsize : ls.size = nL) (hst : st0 = As.reverse ++ rest) (hW : (rest.map fun v => v.category).sum ≤ 8) (hdg : decode cc pc = .ok (.invokestatic index, 3)) (hf : cells ≤ R.cells ∧ slots ≤ R.slots)
    (kk : ∀ (H1 : Heap) (locs1 : List Loc), gH D G s H1 locs1 σ' μ' → W p l e R s m args below meth c H1 locs1 cells slots Q (F0 m (pc + 3) ls (rest))) : W p l e R s m args below meth c H locs cells slots Q (F0 m pc ls st0) := by
  refine va_callv (mc := 0) (ms := 0) (free := gA G) (A0 := gA G) (A1 := gA G) (va_runS (As := As) (rest := rest) S hM cw ⟨gPc_blind, fun U hU hW2 => ⟨rfl, by rw [hU]; exact hH.1, hX.go hH.2 hU hW2⟩⟩ rfl hn hsize hst (lv_room hW) hdg hf) hH.2 (fun q _ h => h) (fun q h => h) (fun u t H1 locs1 ht hvm hp hB hz hq hS => ?_)
  have hB2 : va_P D vwCl (gW G σ' μ') t.heap := hB
  rw [ht] at hB2
  exact kk H1 locs1 ⟨hB2, hS⟩
theorem g_callNi {y : MethodName} {bytes : ByteArray} {maxL nL n index : Nat} {ret : Option FieldType} {rm : Room} {Ts : List Cond} {own host : String} {As st0 : List Value} {σ' : gSt} {μ' : gLg} {r : Int} (S : CallFix p m c cc nL s args Ts own) (hM : Met l y (gWs y bytes maxL ret) rm (gPc D G (As) σ μ) (gQi D G r σ' μ') 0 0 (gA G)) (cw : va_CN R s args own index y host bytes maxL ret (gWs y bytes maxL ret) rm 0 0 n ∧ (Cond.static y).before args s = true ∧ True) (hX : gX D G s) (hH : gH D G s H locs σ μ) (hn : As.length = n) (hsize : ls.size = nL) (hst : st0 = As.reverse ++ rest) (hW : (rest.map fun v => v.category).sum ≤ 8) (hdg : decode cc pc = .ok (.invokestatic index, 3)) (hf : cells ≤ R.cells ∧ slots ≤ R.slots)
    (kk : ∀ (H1 : Heap) (locs1 : List Loc), gH D G s H1 locs1 σ' μ' → W p l e R s m args below meth c H1 locs1 cells slots Q (F0 m (pc + 3) ls (.int (gI r) :: rest))) : W p l e R s m args below meth c H locs cells slots Q (F0 m pc ls st0) := by
  refine va_calli (mc := 0) (ms := 0) (free := gA G) (A0 := gA G) (A1 := gA G) (va_runSN (As := As) (rest := rest) S hM cw ⟨gPc_blind, fun U hU hW2 => ⟨rfl, by rw [hU]; exact hH.1, hX.go hH.2 hU hW2⟩⟩ rfl hn hsize hst (lv_room hW) hdg hf) hH.2 (fun q _ h => h) (fun q h => h) (fun r0 u t H1 locs1 ht hvm hp hB hz hq hS => ?_)
  have hB2 : va_P D vwCl (gW G σ' μ') t.heap := hB
  rw [ht] at hB2
  subst hp
  exact kk H1 locs1 ⟨hB2, hS⟩
end GW1
theorem g_cwV {R : Room} {s : State} {args : Array Value} {own C : String} {idx maxL : Nat} {y : MethodName} {bytes : ByteArray} {ret : Option FieldType} {rm : Room} (n : Nat) (hts : ∀ w ∈ gLW, w.before args s = true) (h1 : Cond.methodLink own idx y ∈ gLW) (h2 : Cond.instanceMethod y ∈ gLW) (h3 : Cond.selects C y y ∈ gLW) (h4 : Cond.initialized C ∈ gLW) (h5 : Cond.code y bytes maxL ret ∈ gLW) (hz : rm.cells = 0 ∧ rm.slots = 0) (hd : y.cls = C ∧ y.cls ≠ "java/lang/invoke/MethodHandle" ∧ y.cls ≠ "java/lang/invoke/VarHandle" ∧ (parseMethodDescriptor y.desc).map (fun d => d.parameters.length) = some n) (hR : rm.frames + 1 ≤ R.frames ∧ 8 + (maxL + 11) + rm.locals ≤ R.locals) : CallW R s args own C idx y bytes maxL ret (gWs y bytes maxL ret) rm 0 0 n := by
  have ht2 : ∀ w ∈ gWs y bytes maxL ret, w.before args s = true := fun w hw => by
    rcases List.mem_cons.mp hw with rfl | hw
    · exact hts _ h5
    · exact hts _ hw
  exact cwV n ht2 (gGoodV (n := maxL) (r := ret) h1 h2 h3 h4 h5) rfl hz.1 hz.2 hd hR
theorem g_cwS {R : Room} {s : State} {args : Array Value} {own : String} {idx maxL : Nat} {y : MethodName} {bytes : ByteArray} {ret : Option FieldType} {rm : Room} (n : Nat) (hts : ∀ w ∈ gLW, w.before args s = true) (h1 : Cond.methodLink own idx y ∈ gLW) (h2 : Cond.static y ∈ gLW) (h4 : Cond.initialized y.cls ∈ gLW) (h5 : Cond.code y bytes maxL ret ∈ gLW) (hz : rm.cells = 0 ∧ rm.slots = 0) (hd : y.cls ≠ "java/lang/invoke/MethodHandle" ∧ y.cls ≠ "java/lang/invoke/VarHandle" ∧ (parseMethodDescriptor y.desc).map (fun d => d.parameters.length) = some n) (hR : rm.frames + 1 ≤ R.frames ∧ 8 + (maxL + 11) + rm.locals ≤ R.locals) : CallB R s args own idx y bytes maxL ret (gWs y bytes maxL ret) rm 0 0 n ∧ (Cond.static y).before args s = true := by
  have ht2 : ∀ w ∈ gWs y bytes maxL ret, w.before args s = true := fun w hw => by
    rcases List.mem_cons.mp hw with rfl | hw
    · exact hts _ h5
    · exact hts _ hw
  exact va_cwS n ht2 (gGoodS (n := maxL) (r := ret) h1 h2 h4 h5) rfl hz.1 hz.2 hd hR
theorem g_cwN {R : Room} {s : State} {args : Array Value} {own host : String} {idx maxL : Nat} {y : MethodName} {bytes : ByteArray} {ret : Option FieldType} {rm : Room} {D : va_G} {G : gAd} (n : Nat) (hts : ∀ w ∈ gLW, w.before args s = true) (hX : gX D G s) (h1 : (own, idx, y, host) ∈ gNestM) (h2 : Cond.static y ∈ gLW) (h4 : Cond.initialized y.cls ∈ gLW) (h5 : Cond.code y bytes maxL ret ∈ gLW) (hz : rm.cells = 0 ∧ rm.slots = 0) (hd : y.cls ≠ "java/lang/invoke/MethodHandle" ∧ y.cls ≠ "java/lang/invoke/VarHandle" ∧ (parseMethodDescriptor y.desc).map (fun d => d.parameters.length) = some n) (hR : rm.frames + 1 ≤ R.frames ∧ 8 + (maxL + 11) + rm.locals ≤ R.locals) : va_CN R s args own idx y host bytes maxL ret (gWs y bytes maxL ret) rm 0 0 n ∧ (Cond.static y).before args s = true ∧ True := by
  have ht2 : ∀ w ∈ gWs y bytes maxL ret, w.before args s = true := fun w hw => by
    rcases List.mem_cons.mp hw with rfl | hw
    · exact hts _ h5
    · exact hts _ hw
  exact ⟨va_cnB n ht2 (gGood (n := maxL) (r := ret) h5) rfl hz.1 hz.2 (hX.2.2.2.2.2.2.1 _ h1) (hts _ h4) hd hR, hts _ h2, trivial⟩
