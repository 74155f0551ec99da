def DL_chainB_K171 (R14 : Int → Int → gSt → Option (Int × gSt)) (x6_14 : Int) (x5_171 : Int) (σ171 : gSt) : Option (Int × gSt) :=
  (R14 (x6_14 + (-1 : Int)) x5_171 σ171)
def DL_chainB_J165 (R22 : Int → Int → gSt → Option (Int × gSt)) (x7_22 : Int) (x5_165 : Int) (σ165 : gSt) : Option (Int × gSt) :=
  (R22 (x7_22 + (1 : Int)) x5_165 σ165)
def DL_chainB_J163 (R22 : Int → Int → gSt → Option (Int × gSt)) (x7_22 : Int) (σ22 : gSt) (x8_134 : Int) (t0_163 : Int) : Option (Int × gSt) :=
  (DL_chainB_J165 R22 x7_22 t0_163 (gUp σ22 124 (Int.toNat x7_22) (x8_134 + (1 : Int))))
def DL_chainB_K134 (R22 : Int → Int → gSt → Option (Int × gSt)) (x7_22 : Int) (x5_22 : Int) (σ22 : gSt) (x8_134 : Int) : Option (Int × gSt) :=
  gAt x7_22 24 (gAt x7_22 24 (gIf (x5_22 < ((gUp σ22 124 (Int.toNat x7_22) (x8_134 + (1 : Int))) 124 (Int.toNat x7_22))) ((gUp σ22 124 (Int.toNat x7_22) (x8_134 + (1 : Int))) 124 (Int.toNat x7_22)) x5_22 (gAt x7_22 24 ((DL_chainB_J163 R22 x7_22 σ22 x8_134 ((gUp σ22 124 (Int.toNat x7_22) (x8_134 + (1 : Int))) 124 (Int.toNat x7_22))))) ((DL_chainB_J163 R22 x7_22 σ22 x8_134 x5_22))))
def DL_chainB_J126 (R45 : Int → Int → Option (Int × gSt)) (x9_45 : Int) (t0_126 : Int) : Option (Int × gSt) :=
  (R45 (x9_45 + (1 : Int)) t0_126)
def DL_chainB_J124 (R45 : Int → Int → Option (Int × gSt)) (x9_45 : Int) (x8_45 : Int) : Option (Int × gSt) :=
  (DL_chainB_J126 R45 x9_45 x8_45)
def DL_chainB_J89 (σ22 : gSt) (R45 : Int → Int → Option (Int × gSt)) (x9_45 : Int) (x8_45 : Int) (t0_89 : Int) : Option (Int × gSt) :=
  gIf (t0_89 = (0 : Int)) t0_89 (0 : Int) ((DL_chainB_J124 R45 x9_45 x8_45)) (gAt x9_45 31 (gDv (σ22 140 (Int.toNat x9_45)) (32 : Int) (gAt ((σ22 140 (Int.toNat x9_45)) % (32 : Int)) 24 (gIf (x8_45 < (σ22 124 (Int.toNat ((σ22 140 (Int.toNat x9_45)) % (32 : Int))))) (σ22 124 (Int.toNat ((σ22 140 (Int.toNat x9_45)) % (32 : Int)))) x8_45 (gAt x9_45 31 (gDv (σ22 140 (Int.toNat x9_45)) (32 : Int) (gAt ((σ22 140 (Int.toNat x9_45)) % (32 : Int)) 24 ((DL_chainB_J126 R45 x9_45 (σ22 124 (Int.toNat ((σ22 140 (Int.toNat x9_45)) % (32 : Int))))))))) ((DL_chainB_J124 R45 x9_45 x8_45))))))
def DL_chainB_J88 (σ22 : gSt) (R45 : Int → Int → Option (Int × gSt)) (x9_45 : Int) (x8_45 : Int) : Option (Int × gSt) :=
  (DL_chainB_J89 σ22 R45 x9_45 x8_45 (0 : Int))
def DL_chainB_L45 (K134 : Int → Option (Int × gSt)) (x7_22 : Int) (σ22 : gSt) : Nat → Int → Int → Option (Int × gSt)
  | 0, _, _ => none
  | f45 + 1, x9_45, x8_45 => gAt (5 : Int) 6 (gIf (x9_45 < (σ22 136 (Int.toNat (5 : Int)))) x9_45 (σ22 136 (Int.toNat (5 : Int))) (gAt x9_45 31 (gDv (σ22 140 (Int.toNat x9_45)) (32 : Int) (gIf (((σ22 140 (Int.toNat x9_45)) / (32 : Int)) = x7_22) ((σ22 140 (Int.toNat x9_45)) / (32 : Int)) x7_22 (gAt x9_45 31 (gDv (σ22 140 (Int.toNat x9_45)) (32 : Int) (gAt ((σ22 140 (Int.toNat x9_45)) % (32 : Int)) 24 ((DL_last σ22 x7_22).bind fun q78 => gIf (q78 < (σ22 138 (Int.toNat ((σ22 140 (Int.toNat x9_45)) % (32 : Int))))) (σ22 138 (Int.toNat ((σ22 140 (Int.toNat x9_45)) % (32 : Int)))) q78 ((DL_chainB_J89 σ22 (DL_chainB_L45 K134 x7_22 σ22 f45) x9_45 x8_45 (1 : Int))) ((DL_chainB_J88 σ22 (DL_chainB_L45 K134 x7_22 σ22 f45) x9_45 x8_45)))))) ((DL_chainB_J88 σ22 (DL_chainB_L45 K134 x7_22 σ22 f45) x9_45 x8_45))))) ((K134 x8_45)))
def DL_chainB_L22 (K171 : Int → gSt → Option (Int × gSt)) (x6_14 : Int) : Nat → Int → Int → gSt → Option (Int × gSt)
  | 0, _, _, _ => none
  | f22 + 1, x7_22, x5_22, σ22 => gAt (4 : Int) 6 (gIf (x7_22 < (σ22 136 (Int.toNat (4 : Int)))) x7_22 (σ22 136 (Int.toNat (4 : Int))) (gAt x7_22 24 (gIf ((σ22 138 (Int.toNat x7_22)) = x6_14) (σ22 138 (Int.toNat x7_22)) x6_14 ((DL_chainB_L45 (DL_chainB_K134 (DL_chainB_L22 K171 x6_14 f22) x7_22 x5_22 σ22) x7_22 σ22 gFuel (0 : Int) (0 : Int))) ((DL_chainB_J165 (DL_chainB_L22 K171 x6_14 f22) x7_22 x5_22 σ22)))) ((K171 x5_22 σ22)))
def DL_chainB_L14 : Nat → Int → Int → gSt → Option (Int × gSt)
  | 0, _, _, _ => none
  | f14 + 1, x6_14, x5_14, σ14 => gIf (x6_14 < (0 : Int)) x6_14 (0 : Int) (some (x5_14, σ14)) ((DL_chainB_L22 (DL_chainB_K171 (DL_chainB_L14 f14) x6_14) x6_14 gFuel (0 : Int) x5_14 σ14))
def DL_chainB (σ : gSt) : Option (Int × gSt) :=
  (DL_chainB_L14 gFuel (258 : Int) (0 : Int) σ)
set_option maxHeartbeats 8000000 in
set_option maxRecDepth 100000 in
theorem bodL_chain {p : Program} {l : Launch} {e : Env} {s : State} {m : MethodId} {args : Array Value} {below : List Frame} {meth : Method} {c : Code} {D : va_G} {G : gAd} {Q : State → Prop} (hlt : l.stackTraces = false) (hx : p.tables.exec = Jvm.exec) (hb0 : c.code = cL_chain) (hml : c.maxLocals = 11) (hown : s.vm.findClass RL = some m.cls) (hts : ∀ w ∈ gLW, w.before args s = true) (hX : gX D G s) {H : Heap} {locs : List Loc} {ls : Array Slot} {σ σ' : gSt} {μ : gLg} {r : Int} (hH : gH D G s H locs σ μ) (hl : lv_has ls 11 [(0, .ref (G.1 136)), (1, .ref (G.1 138)), (2, .ref (G.1 139)), (3, .ref (G.1 140)), (4, .ref (G.1 124))]) (h : DL_chainB σ = some (r, σ')) (kk : ∀ (H : Heap) (locs : List Loc) (ls : Array Slot), gH D G s H locs σ' μ → W p l e (headSpec (gWs yL_chain cL_chain 11 (some (Jvm.ClassFile.FieldType.int))) ({ frames := 1, cells := 1, slots := 24, locals := 22 } : Room)).room s m args below meth c H locs 1 24 Q (F0 m 179 ls [.int (gI r)])) : W p l e (headSpec (gWs yL_chain cL_chain 11 (some (Jvm.ClassFile.FieldType.int))) ({ frames := 1, cells := 1, slots := 24, locals := 22 } : Room)).room s m args below meth c H locs (0 + 1) (6 * 0 + 24) Q (F0 m 6 ls []) := by
  unfold DL_chainB at h
  refine lv_iconst (v := gI (0 : Int)) hx hb0 dL_chain_6 (by decide) ?_
  refine lv_istore (lv' := [(5, .int (gI (0 : Int))), (0, .ref (G.1 136)), (1, .ref (G.1 138)), (2, .ref (G.1 139)), (3, .ref (G.1 140)), (4, .ref (G.1 124))]) hx hb0 dL_chain_7 hl (by decide) rfl (fun ls hl => ?_)
  refine lv_sipush (v := gI (258 : Int)) hx hb0 dL_chain_9 (by decide) ?_
  refine lv_istore (lv' := [(6, .int (gI (258 : Int))), (5, .int (gI (0 : Int))), (0, .ref (G.1 136)), (1, .ref (G.1 138)), (2, .ref (G.1 139)), (3, .ref (G.1 140)), (4, .ref (G.1 124))]) hx hb0 dL_chain_12 hl (by decide) rfl (fun ls hl => ?_)
  have hL14 : ∀ (f14 : Nat) (x6_14 : Int) (x5_14 : Int) (σ14 : gSt) (H : Heap) (locs : List Loc) (ls : Array Slot), gH D G s H locs σ14 μ → lv_has ls 11 [(6, .int (gI x6_14)), (5, .int (gI x5_14)), (0, .ref (G.1 136)), (1, .ref (G.1 138)), (2, .ref (G.1 139)), (3, .ref (G.1 140)), (4, .ref (G.1 124))] → (DL_chainB_L14 f14 x6_14 x5_14 σ14) = some (r, σ') → W p l e (headSpec (gWs yL_chain cL_chain 11 (some (Jvm.ClassFile.FieldType.int))) ({ frames := 1, cells := 1, slots := 24, locals := 22 } : Room)).room s m args below meth c H locs (0 + 1) (6 * 0 + 24) Q (F0 m 14 ls []) := by
    intro f14
    induction f14 with
    | zero => intro x6_14 x5_14 σ14 H locs ls hH hl h; cases h
    | succ f14 ih14 =>
      intro x6_14 x5_14 σ14 H locs ls hH hl h
      unfold DL_chainB_L14 at h
      refine lv_iload hx hb0 dL_chain_14 (lv_at hl 0 rfl) ?_
      refine g_if_lt (tgt := 177) hx hb0 dL_chain_16 (by decide) h (fun h => ?_) (fun h => ?_)
      · refine lv_iload hx hb0 dL_chain_177 (lv_at hl 1 rfl) ?_
        cases h
        refine W.widen (k := 1) (n := 24) (by omega) (by omega) ?_
        exact kk _ _ _ hH
      · refine lv_iconst (v := gI (0 : Int)) hx hb0 dL_chain_19 (by decide) ?_
        refine lv_istore (lv' := [(7, .int (gI (0 : Int))), (6, .int (gI x6_14)), (5, .int (gI x5_14)), (0, .ref (G.1 136)), (1, .ref (G.1 138)), (2, .ref (G.1 139)), (3, .ref (G.1 140)), (4, .ref (G.1 124))]) hx hb0 dL_chain_20 hl (by decide) rfl (fun ls hl => ?_)
        have hK171 : ∀ (x5_171 : Int) (σ171 : gSt) (H : Heap) (locs : List Loc) (ls : Array Slot), gH D G s H locs σ171 μ → lv_has ls 11 [(6, .int (gI x6_14)), (5, .int (gI x5_171)), (0, .ref (G.1 136)), (1, .ref (G.1 138)), (2, .ref (G.1 139)), (3, .ref (G.1 140)), (4, .ref (G.1 124))] → (DL_chainB_K171 (DL_chainB_L14 f14) x6_14 x5_171 σ171) = some (r, σ') → W p l e (headSpec (gWs yL_chain cL_chain 11 (some (Jvm.ClassFile.FieldType.int))) ({ frames := 1, cells := 1, slots := 24, locals := 22 } : Room)).room s m args below meth c H locs (0 + 1) (6 * 0 + 24) Q (F0 m 171 ls []) := by
          intro x5_171 σ171 H locs ls hH hl h
          unfold DL_chainB_K171 at h
          refine g_iinc (k := 0) (n := (-1 : Int)) (lv' := [(6, .int (gI (x6_14 + (-1 : Int)))), (5, .int (gI x5_171)), (0, .ref (G.1 136)), (1, .ref (G.1 138)), (2, .ref (G.1 139)), (3, .ref (G.1 140)), (4, .ref (G.1 124))]) hx hb0 dL_chain_171 hl rfl (by decide) rfl (fun ls hl => ?_)
          refine lv_goto (tgt := 14) hx hb0 dL_chain_174 (by decide) ?_
          exact ih14 _ _ _ _ _ _ hH (lv_sub hl [0, 1, 2, 3, 4, 5, 6] rfl) h
        have hL22 : ∀ (f22 : Nat) (x7_22 : Int) (x5_22 : Int) (σ22 : gSt) (H : Heap) (locs : List Loc) (ls : Array Slot), gH D G s H locs σ22 μ → lv_has ls 11 [(7, .int (gI x7_22)), (6, .int (gI x6_14)), (5, .int (gI x5_22)), (0, .ref (G.1 136)), (1, .ref (G.1 138)), (2, .ref (G.1 139)), (3, .ref (G.1 140)), (4, .ref (G.1 124))] → (DL_chainB_L22 (DL_chainB_K171 (DL_chainB_L14 f14) x6_14) x6_14 f22 x7_22 x5_22 σ22) = some (r, σ') → W p l e (headSpec (gWs yL_chain cL_chain 11 (some (Jvm.ClassFile.FieldType.int))) ({ frames := 1, cells := 1, slots := 24, locals := 22 } : Room)).room s m args below meth c H locs (0 + 1) (6 * 0 + 24) Q (F0 m 22 ls []) := by
          intro f22
          induction f22 with
          | zero => intro x7_22 x5_22 σ22 H locs ls hH hl h; cases h
          | succ f22 ih22 =>
            intro x7_22 x5_22 σ22 H locs ls hH hl h
            unfold DL_chainB_L22 at h
            refine lv_iload hx hb0 dL_chain_22 (lv_at hl 0 rfl) ?_
            refine lv_aload_n hx hb0 dL_chain_24 rfl (lv_at hl 3 rfl) ?_
            refine lv_iconst (v := gI (4 : Int)) hx hb0 dL_chain_25 (by decide) ?_
            refine g_iald hx hb0 hX hH (k := 136) (rfl : gKinds[136]? = _) (by decide) dL_chain_26 h (fun h => ?_)
            refine g_icmp_ge (tgt := 171) hx hb0 dL_chain_27 (by decide) h (fun h => ?_) (fun h => ?_)
            · exact hK171 _ _ _ _ _ hH (lv_sub hl [1, 2, 3, 4, 5, 6, 7] rfl) h
            · refine lv_aload_n hx hb0 dL_chain_30 rfl (lv_at hl 4 rfl) ?_
              refine lv_iload hx hb0 dL_chain_31 (lv_at hl 0 rfl) ?_
              refine g_iald hx hb0 hX hH (k := 138) (rfl : gKinds[138]? = _) (by decide) dL_chain_33 h (fun h => ?_)
              refine lv_iload hx hb0 dL_chain_34 (lv_at hl 1 rfl) ?_
              have hJ165 : ∀ (x5_165 : Int) (σ165 : gSt) (H : Heap) (locs : List Loc) (ls : Array Slot), gH D G s H locs σ165 μ → lv_has ls 11 [(7, .int (gI x7_22)), (6, .int (gI x6_14)), (5, .int (gI x5_165)), (0, .ref (G.1 136)), (1, .ref (G.1 138)), (2, .ref (G.1 139)), (3, .ref (G.1 140)), (4, .ref (G.1 124))] → (DL_chainB_J165 (DL_chainB_L22 (DL_chainB_K171 (DL_chainB_L14 f14) x6_14) x6_14 f22) x7_22 x5_165 σ165) = some (r, σ') → W p l e (headSpec (gWs yL_chain cL_chain 11 (some (Jvm.ClassFile.FieldType.int))) ({ frames := 1, cells := 1, slots := 24, locals := 22 } : Room)).room s m args below meth c H locs (0 + 1) (6 * 0 + 24) Q (F0 m 165 ls []) := by
                intro x5_165 σ165 H locs ls hH hl h
                unfold DL_chainB_J165 at h
                refine g_iinc (k := 0) (n := (1 : Int)) (lv' := [(7, .int (gI (x7_22 + (1 : Int)))), (6, .int (gI x6_14)), (5, .int (gI x5_165)), (0, .ref (G.1 136)), (1, .ref (G.1 138)), (2, .ref (G.1 139)), (3, .ref (G.1 140)), (4, .ref (G.1 124))]) hx hb0 dL_chain_165 hl rfl (by decide) rfl (fun ls hl => ?_)
                refine lv_goto (tgt := 22) hx hb0 dL_chain_168 (by decide) ?_
                exact ih22 _ _ _ _ _ _ hH (lv_sub hl [0, 1, 2, 3, 4, 5, 6, 7] rfl) h
              refine g_icmp_ne (tgt := 165) hx hb0 dL_chain_36 (by decide) h (fun h => ?_) (fun h => ?_)
              · exact hJ165 _ _ _ _ _ hH (lv_sub hl [0, 1, 2, 3, 4, 5, 6, 7] rfl) h
              · refine lv_iconst (v := gI (0 : Int)) hx hb0 dL_chain_39 (by decide) ?_
                refine lv_istore (lv' := [(8, .int (gI (0 : Int))), (7, .int (gI x7_22)), (6, .int (gI x6_14)), (5, .int (gI x5_22)), (0, .ref (G.1 136)), (1, .ref (G.1 138)), (2, .ref (G.1 139)), (3, .ref (G.1 140)), (4, .ref (G.1 124))]) hx hb0 dL_chain_40 hl (by decide) rfl (fun ls hl => ?_)
                refine lv_iconst (v := gI (0 : Int)) hx hb0 dL_chain_42 (by decide) ?_
                refine lv_istore (lv' := [(9, .int (gI (0 : Int))), (8, .int (gI (0 : Int))), (7, .int (gI x7_22)), (6, .int (gI x6_14)), (5, .int (gI x5_22)), (0, .ref (G.1 136)), (1, .ref (G.1 138)), (2, .ref (G.1 139)), (3, .ref (G.1 140)), (4, .ref (G.1 124))]) hx hb0 dL_chain_43 hl (by decide) rfl (fun ls hl => ?_)
                have hK134 : ∀ (x8_134 : Int) (H : Heap) (locs : List Loc) (ls : Array Slot), gH D G s H locs σ22 μ → lv_has ls 11 [(8, .int (gI x8_134)), (7, .int (gI x7_22)), (6, .int (gI x6_14)), (5, .int (gI x5_22)), (0, .ref (G.1 136)), (1, .ref (G.1 138)), (2, .ref (G.1 139)), (3, .ref (G.1 140)), (4, .ref (G.1 124))] → (DL_chainB_K134 (DL_chainB_L22 (DL_chainB_K171 (DL_chainB_L14 f14) x6_14) x6_14 f22) x7_22 x5_22 σ22 x8_134) = some (r, σ') → W p l e (headSpec (gWs yL_chain cL_chain 11 (some (Jvm.ClassFile.FieldType.int))) ({ frames := 1, cells := 1, slots := 24, locals := 22 } : Room)).room s m args below meth c H locs (0 + 1) (6 * 0 + 24) Q (F0 m 134 ls []) := by
                  intro x8_134 H locs ls hH hl h
                  unfold DL_chainB_K134 at h
                  refine lv_aload hx hb0 dL_chain_134 (lv_at hl 8 rfl) ?_
                  refine lv_iload hx hb0 dL_chain_136 (lv_at hl 1 rfl) ?_
                  refine lv_iload hx hb0 dL_chain_138 (lv_at hl 0 rfl) ?_
                  refine lv_iconst (v := gI (1 : Int)) hx hb0 dL_chain_140 (by decide) ?_
                  refine g_iadd hx hb0 dL_chain_141 ?_
                  refine g_iast hx hb0 hX hH (k := 124) (rfl : gKinds[124]? = _) (by decide) dL_chain_142 h (fun h H locs hH => ?_)
                  refine lv_aload hx hb0 dL_chain_143 (lv_at hl 8 rfl) ?_
                  refine lv_iload hx hb0 dL_chain_145 (lv_at hl 1 rfl) ?_
                  refine g_iald hx hb0 hX hH (k := 124) (rfl : gKinds[124]? = _) (by decide) dL_chain_147 h (fun h => ?_)
                  refine lv_iload hx hb0 dL_chain_148 (lv_at hl 3 rfl) ?_
                  have hJ163 : ∀ (t0_163 : Int) (H : Heap) (locs : List Loc) (ls : Array Slot), gH D G s H locs (gUp σ22 124 (Int.toNat x7_22) (x8_134 + (1 : Int))) μ → lv_has ls 11 [(7, .int (gI x7_22)), (6, .int (gI x6_14)), (0, .ref (G.1 136)), (1, .ref (G.1 138)), (2, .ref (G.1 139)), (3, .ref (G.1 140)), (4, .ref (G.1 124))] → (DL_chainB_J163 (DL_chainB_L22 (DL_chainB_K171 (DL_chainB_L14 f14) x6_14) x6_14 f22) x7_22 σ22 x8_134 t0_163) = some (r, σ') → W p l e (headSpec (gWs yL_chain cL_chain 11 (some (Jvm.ClassFile.FieldType.int))) ({ frames := 1, cells := 1, slots := 24, locals := 22 } : Room)).room s m args below meth c H locs (0 + 1) (6 * 0 + 24) Q (F0 m 163 ls [.int (gI t0_163)]) := by
                    intro t0_163 H locs ls hH hl h
                    unfold DL_chainB_J163 at h
                    refine lv_istore (lv' := [(5, .int (gI t0_163)), (7, .int (gI x7_22)), (6, .int (gI x6_14)), (0, .ref (G.1 136)), (1, .ref (G.1 138)), (2, .ref (G.1 139)), (3, .ref (G.1 140)), (4, .ref (G.1 124))]) hx hb0 dL_chain_163 hl (by decide) rfl (fun ls hl => ?_)
                    exact hJ165 _ _ _ _ _ hH (lv_sub hl [1, 2, 0, 3, 4, 5, 6, 7] rfl) h
                  refine g_icmp_le (tgt := 161) hx hb0 dL_chain_150 (by decide) h (fun h => ?_) (fun h => ?_)
                  · refine lv_iload hx hb0 dL_chain_161 (lv_at hl 3 rfl) ?_
                    exact hJ163 _ _ _ _ hH (lv_sub hl [1, 2, 4, 5, 6, 7, 8] rfl) h
                  · refine lv_aload hx hb0 dL_chain_153 (lv_at hl 8 rfl) ?_
                    refine lv_iload hx hb0 dL_chain_155 (lv_at hl 1 rfl) ?_
                    refine g_iald hx hb0 hX hH (k := 124) (rfl : gKinds[124]? = _) (by decide) dL_chain_157 h (fun h => ?_)
                    refine lv_goto (tgt := 163) hx hb0 dL_chain_158 (by decide) ?_
                    exact hJ163 _ _ _ _ hH (lv_sub hl [1, 2, 4, 5, 6, 7, 8] rfl) h
                have hL45 : ∀ (f45 : Nat) (x9_45 : Int) (x8_45 : Int) (H : Heap) (locs : List Loc) (ls : Array Slot), gH D G s H locs σ22 μ → lv_has ls 11 [(9, .int (gI x9_45)), (8, .int (gI x8_45)), (7, .int (gI x7_22)), (6, .int (gI x6_14)), (5, .int (gI x5_22)), (0, .ref (G.1 136)), (1, .ref (G.1 138)), (2, .ref (G.1 139)), (3, .ref (G.1 140)), (4, .ref (G.1 124))] → (DL_chainB_L45 (DL_chainB_K134 (DL_chainB_L22 (DL_chainB_K171 (DL_chainB_L14 f14) x6_14) x6_14 f22) x7_22 x5_22 σ22) x7_22 σ22 f45 x9_45 x8_45) = some (r, σ') → W p l e (headSpec (gWs yL_chain cL_chain 11 (some (Jvm.ClassFile.FieldType.int))) ({ frames := 1, cells := 1, slots := 24, locals := 22 } : Room)).room s m args below meth c H locs (0 + 1) (6 * 0 + 24) Q (F0 m 45 ls []) := by
                  intro f45
                  induction f45 with
                  | zero => intro x9_45 x8_45 H locs ls hH hl h; cases h
                  | succ f45 ih45 =>
                    intro x9_45 x8_45 H locs ls hH hl h
                    unfold DL_chainB_L45 at h
                    refine lv_iload hx hb0 dL_chain_45 (lv_at hl 0 rfl) ?_
                    refine lv_aload_n hx hb0 dL_chain_47 rfl (lv_at hl 5 rfl) ?_
                    refine lv_iconst (v := gI (5 : Int)) hx hb0 dL_chain_48 (by decide) ?_
                    refine g_iald hx hb0 hX hH (k := 136) (rfl : gKinds[136]? = _) (by decide) dL_chain_49 h (fun h => ?_)
                    refine g_icmp_ge (tgt := 134) hx hb0 dL_chain_50 (by decide) h (fun h => ?_) (fun h => ?_)
                    · exact hK134 _ _ _ _ hH (lv_sub hl [1, 2, 3, 4, 5, 6, 7, 8, 9] rfl) h
                    · refine lv_aload_n hx hb0 dL_chain_53 rfl (lv_at hl 8 rfl) ?_
                      refine lv_iload hx hb0 dL_chain_54 (lv_at hl 0 rfl) ?_
                      refine g_iald hx hb0 hX hH (k := 140) (rfl : gKinds[140]? = _) (by decide) dL_chain_56 h (fun h => ?_)
                      refine lv_bipush (v := gI (32 : Int)) hx hb0 dL_chain_57 (by decide) ?_
                      refine g_idiv hx hb0 dL_chain_59 h (fun h => ?_)
                      refine lv_iload hx hb0 dL_chain_60 (lv_at hl 2 rfl) ?_
                      have hJ89 : ∀ (t0_89 : Int) (H : Heap) (locs : List Loc) (ls : Array Slot), gH D G s H locs σ22 μ → lv_has ls 11 [(9, .int (gI x9_45)), (8, .int (gI x8_45)), (7, .int (gI x7_22)), (6, .int (gI x6_14)), (5, .int (gI x5_22)), (0, .ref (G.1 136)), (1, .ref (G.1 138)), (2, .ref (G.1 139)), (3, .ref (G.1 140)), (4, .ref (G.1 124))] → (DL_chainB_J89 σ22 (DL_chainB_L45 (DL_chainB_K134 (DL_chainB_L22 (DL_chainB_K171 (DL_chainB_L14 f14) x6_14) x6_14 f22) x7_22 x5_22 σ22) x7_22 σ22 f45) x9_45 x8_45 t0_89) = some (r, σ') → W p l e (headSpec (gWs yL_chain cL_chain 11 (some (Jvm.ClassFile.FieldType.int))) ({ frames := 1, cells := 1, slots := 24, locals := 22 } : Room)).room s m args below meth c H locs (0 + 1) (6 * 0 + 24) Q (F0 m 89 ls [.int (gI t0_89)]) := by
                        intro t0_89 H locs ls hH hl h
                        unfold DL_chainB_J89 at h
                        refine lv_istore (lv' := [(10, .int (gI t0_89)), (9, .int (gI x9_45)), (8, .int (gI x8_45)), (7, .int (gI x7_22)), (6, .int (gI x6_14)), (5, .int (gI x5_22)), (0, .ref (G.1 136)), (1, .ref (G.1 138)), (2, .ref (G.1 139)), (3, .ref (G.1 140)), (4, .ref (G.1 124))]) hx hb0 dL_chain_89 hl (by decide) rfl (fun ls hl => ?_)
                        refine lv_iload hx hb0 dL_chain_91 (lv_at hl 0 rfl) ?_
                        have hJ126 : ∀ (t0_126 : Int) (H : Heap) (locs : List Loc) (ls : Array Slot), gH D G s H locs σ22 μ → lv_has ls 11 [(9, .int (gI x9_45)), (7, .int (gI x7_22)), (6, .int (gI x6_14)), (5, .int (gI x5_22)), (0, .ref (G.1 136)), (1, .ref (G.1 138)), (2, .ref (G.1 139)), (3, .ref (G.1 140)), (4, .ref (G.1 124))] → (DL_chainB_J126 (DL_chainB_L45 (DL_chainB_K134 (DL_chainB_L22 (DL_chainB_K171 (DL_chainB_L14 f14) x6_14) x6_14 f22) x7_22 x5_22 σ22) x7_22 σ22 f45) x9_45 t0_126) = some (r, σ') → W p l e (headSpec (gWs yL_chain cL_chain 11 (some (Jvm.ClassFile.FieldType.int))) ({ frames := 1, cells := 1, slots := 24, locals := 22 } : Room)).room s m args below meth c H locs (0 + 1) (6 * 0 + 24) Q (F0 m 126 ls [.int (gI t0_126)]) := by
                          intro t0_126 H locs ls hH hl h
                          unfold DL_chainB_J126 at h
                          refine lv_istore (lv' := [(8, .int (gI t0_126)), (9, .int (gI x9_45)), (7, .int (gI x7_22)), (6, .int (gI x6_14)), (5, .int (gI x5_22)), (0, .ref (G.1 136)), (1, .ref (G.1 138)), (2, .ref (G.1 139)), (3, .ref (G.1 140)), (4, .ref (G.1 124))]) hx hb0 dL_chain_126 hl (by decide) rfl (fun ls hl => ?_)
                          refine g_iinc (k := 1) (n := (1 : Int)) (lv' := [(9, .int (gI (x9_45 + (1 : Int)))), (8, .int (gI t0_126)), (7, .int (gI x7_22)), (6, .int (gI x6_14)), (5, .int (gI x5_22)), (0, .ref (G.1 136)), (1, .ref (G.1 138)), (2, .ref (G.1 139)), (3, .ref (G.1 140)), (4, .ref (G.1 124))]) hx hb0 dL_chain_128 hl rfl (by decide) rfl (fun ls hl => ?_)
                          refine lv_goto (tgt := 45) hx hb0 dL_chain_131 (by decide) ?_
                          exact ih45 _ _ _ _ _ hH (lv_sub hl [0, 1, 2, 3, 4, 5, 6, 7, 8, 9] rfl) h
                        have hJ124 : ∀  (H : Heap) (locs : List Loc) (ls : Array Slot), gH D G s H locs σ22 μ → lv_has ls 11 [(9, .int (gI x9_45)), (8, .int (gI x8_45)), (7, .int (gI x7_22)), (6, .int (gI x6_14)), (5, .int (gI x5_22)), (0, .ref (G.1 136)), (1, .ref (G.1 138)), (2, .ref (G.1 139)), (3, .ref (G.1 140)), (4, .ref (G.1 124))] → (DL_chainB_J124 (DL_chainB_L45 (DL_chainB_K134 (DL_chainB_L22 (DL_chainB_K171 (DL_chainB_L14 f14) x6_14) x6_14 f22) x7_22 x5_22 σ22) x7_22 σ22 f45) x9_45 x8_45) = some (r, σ') → W p l e (headSpec (gWs yL_chain cL_chain 11 (some (Jvm.ClassFile.FieldType.int))) ({ frames := 1, cells := 1, slots := 24, locals := 22 } : Room)).room s m args below meth c H locs (0 + 1) (6 * 0 + 24) Q (F0 m 124 ls []) := by
                          intro H locs ls hH hl h
                          unfold DL_chainB_J124 at h
                          refine lv_iload hx hb0 dL_chain_124 (lv_at hl 1 rfl) ?_
                          exact hJ126 _ _ _ _ hH (lv_sub hl [0, 2, 3, 4, 5, 6, 7, 8, 9] rfl) h
                        refine g_if_eq (tgt := 124) hx hb0 dL_chain_93 (by decide) h (fun h => ?_) (fun h => ?_)
                        · exact hJ124  _ _ _ hH (lv_sub hl [1, 2, 3, 4, 5, 6, 7, 8, 9, 10] rfl) h
                        · refine lv_aload hx hb0 dL_chain_96 (lv_at hl 10 rfl) ?_
                          refine lv_aload_n hx hb0 dL_chain_98 rfl (lv_at hl 9 rfl) ?_
                          refine lv_iload hx hb0 dL_chain_99 (lv_at hl 1 rfl) ?_
                          refine g_iald hx hb0 hX hH (k := 140) (rfl : gKinds[140]? = _) (by decide) dL_chain_101 h (fun h => ?_)
                          refine lv_bipush (v := gI (32 : Int)) hx hb0 dL_chain_102 (by decide) ?_
                          refine g_irem hx hb0 dL_chain_104 h (fun h => ?_)
                          refine g_iald hx hb0 hX hH (k := 124) (rfl : gKinds[124]? = _) (by decide) dL_chain_105 h (fun h => ?_)
                          refine lv_iload hx hb0 dL_chain_106 (lv_at hl 2 rfl) ?_
                          refine g_icmp_le (tgt := 124) hx hb0 dL_chain_108 (by decide) h (fun h => ?_) (fun h => ?_)
                          · exact hJ124  _ _ _ hH (lv_sub hl [1, 2, 3, 4, 5, 6, 7, 8, 9, 10] rfl) h
                          · refine lv_aload hx hb0 dL_chain_111 (lv_at hl 10 rfl) ?_
                            refine lv_aload_n hx hb0 dL_chain_113 rfl (lv_at hl 9 rfl) ?_
                            refine lv_iload hx hb0 dL_chain_114 (lv_at hl 1 rfl) ?_
                            refine g_iald hx hb0 hX hH (k := 140) (rfl : gKinds[140]? = _) (by decide) dL_chain_116 h (fun h => ?_)
                            refine lv_bipush (v := gI (32 : Int)) hx hb0 dL_chain_117 (by decide) ?_
                            refine g_irem hx hb0 dL_chain_119 h (fun h => ?_)
                            refine g_iald hx hb0 hX hH (k := 124) (rfl : gKinds[124]? = _) (by decide) dL_chain_120 h (fun h => ?_)
                            refine lv_goto (tgt := 126) hx hb0 dL_chain_121 (by decide) ?_
                            exact hJ126 _ _ _ _ hH (lv_sub hl [1, 3, 4, 5, 6, 7, 8, 9, 10] rfl) h
                      have hJ88 : ∀  (H : Heap) (locs : List Loc) (ls : Array Slot), gH D G s H locs σ22 μ → lv_has ls 11 [(9, .int (gI x9_45)), (8, .int (gI x8_45)), (7, .int (gI x7_22)), (6, .int (gI x6_14)), (5, .int (gI x5_22)), (0, .ref (G.1 136)), (1, .ref (G.1 138)), (2, .ref (G.1 139)), (3, .ref (G.1 140)), (4, .ref (G.1 124))] → (DL_chainB_J88 σ22 (DL_chainB_L45 (DL_chainB_K134 (DL_chainB_L22 (DL_chainB_K171 (DL_chainB_L14 f14) x6_14) x6_14 f22) x7_22 x5_22 σ22) x7_22 σ22 f45) x9_45 x8_45) = some (r, σ') → W p l e (headSpec (gWs yL_chain cL_chain 11 (some (Jvm.ClassFile.FieldType.int))) ({ frames := 1, cells := 1, slots := 24, locals := 22 } : Room)).room s m args below meth c H locs (0 + 1) (6 * 0 + 24) Q (F0 m 88 ls []) := by
                        intro H locs ls hH hl h
                        unfold DL_chainB_J88 at h
                        refine lv_iconst (v := gI (0 : Int)) hx hb0 dL_chain_88 (by decide) ?_
                        exact hJ89 _ _ _ _ hH (lv_sub hl [0, 1, 2, 3, 4, 5, 6, 7, 8, 9] rfl) h
                      refine g_icmp_ne (tgt := 88) hx hb0 dL_chain_62 (by decide) h (fun h => ?_) (fun h => ?_)
                      · exact hJ88  _ _ _ hH (lv_sub hl [0, 1, 2, 3, 4, 5, 6, 7, 8, 9] rfl) h
                      · refine lv_aload_n hx hb0 dL_chain_65 rfl (lv_at hl 6 rfl) ?_
                        refine lv_aload_n hx hb0 dL_chain_66 rfl (lv_at hl 8 rfl) ?_
                        refine lv_iload hx hb0 dL_chain_67 (lv_at hl 0 rfl) ?_
                        refine g_iald hx hb0 hX hH (k := 140) (rfl : gKinds[140]? = _) (by decide) dL_chain_69 h (fun h => ?_)
                        refine lv_bipush (v := gI (32 : Int)) hx hb0 dL_chain_70 (by decide) ?_
                        refine g_irem hx hb0 dL_chain_72 h (fun h => ?_)
                        refine g_iald hx hb0 hX hH (k := 138) (rfl : gKinds[138]? = _) (by decide) dL_chain_73 h (fun h => ?_)
                        refine lv_aload_n hx hb0 dL_chain_74 rfl (lv_at hl 6 rfl) ?_
                        refine lv_aload_n hx hb0 dL_chain_75 rfl (lv_at hl 7 rfl) ?_
                        refine lv_iload hx hb0 dL_chain_76 (lv_at hl 2 rfl) ?_
                        obtain ⟨q78, e78, h⟩ := gBind_some h
                        refine g_callSi (As := [.ref (G.1 138), .ref (G.1 139), .int (gI x7_22)]) (rest := [.int (gI (σ22 138 (Int.toNat ((σ22 140 (Int.toNat x9_45)) % (32 : Int)))))]) ⟨hx, hb0, hml, hown, hts⟩ (metL_last l D G σ22 μ x7_22 q78 e78) (g_cwS 3 hts q_ml_L_22 q_st_L_last q_in_L q_co_L_last ⟨rfl, rfl⟩ (by decide +kernel) ⟨Nat.le_of_ble_eq_true rfl, Nat.le_of_ble_eq_true rfl⟩) hX hH rfl hl.1 rfl (Nat.le_of_ble_eq_true rfl) dL_chain_78 ⟨by show _ ≤ 1; omega, by show _ ≤ 24; omega⟩ (fun H locs hH => ?_)
                        refine g_icmp_le (tgt := 88) hx hb0 dL_chain_81 (by decide) h (fun h => ?_) (fun h => ?_)
                        · exact hJ88  _ _ _ hH (lv_sub hl [0, 1, 2, 3, 4, 5, 6, 7, 8, 9] rfl) h
                        · refine lv_iconst (v := gI (1 : Int)) hx hb0 dL_chain_84 (by decide) ?_
                          refine lv_goto (tgt := 89) hx hb0 dL_chain_85 (by decide) ?_
                          exact hJ89 _ _ _ _ hH (lv_sub hl [0, 1, 2, 3, 4, 5, 6, 7, 8, 9] rfl) h
                exact hL45 gFuel _ _ _ _ _ hH (lv_sub hl [0, 1, 2, 3, 4, 5, 6, 7, 8, 9] rfl) h
        exact hL22 gFuel _ _ _ _ _ _ hH (lv_sub hl [0, 1, 2, 3, 4, 5, 6, 7] rfl) h
  exact hL14 gFuel _ _ _ _ _ _ hH (lv_sub hl [0, 1, 2, 3, 4, 5, 6] rfl) h
def DL_chain (σ : gSt) : Option (Int × gSt) := (DL_chainB (gPut σ 124 (fun _ => 0))).map fun q => (q.1, gPut q.2 124 (σ 124))
set_option maxHeartbeats 4000000 in
set_option maxRecDepth 100000 in
theorem metL_chain (l : Launch) (hlt : l.stackTraces = false) (D : va_G) (G : gAd) (σ : gSt) (μ : gLg) (r : Int) (σ' : gSt) (h : DL_chain σ = some (r, σ')) : Met l yL_chain (gWs yL_chain cL_chain 11 (some (Jvm.ClassFile.FieldType.int))) ({ frames := 1, cells := 1, slots := 24, locals := 22 } : Room) (gPc D G [.ref (G.1 136), .ref (G.1 138), .ref (G.1 139), .ref (G.1 140)] σ μ) (gQi D G r σ' μ) 1 24 (gA G) := by
  refine Met.ofW (cc := cL_chain) (maxL := 11) (ret := (some (Jvm.ClassFile.FieldType.int))) (by decide) rfl ?_
  intro p e s m args below meth c s₁ B hml hv
  obtain ⟨rfl, hP, hX⟩ := hv
  have hx := B.exec
  have hb0 := B.bytes
  have hr := B.returns
  have hts0 := atoms_spec (ws := (gWs yL_chain cL_chain 11 (some (Jvm.ClassFile.FieldType.int)))) B.pre
  have hts : ∀ w ∈ gLW, w.before _ s = true := fun w hw => hts0 w (List.mem_cons_of_mem _ hw)
  have hown : s.vm.findClass RL = some m.cls := findClass_of_methodNamed B.named
  have hlocks := B.notSynchronized
  have hl := lv_entry ([.ref (G.1 136), .ref (G.1 138), .ref (G.1 139), .ref (G.1 140)]) (n := 11) (Nat.le_of_ble_eq_true rfl)
  rw [lg_entry_eq]
  generalize (lg_sl ([.ref (G.1 136), .ref (G.1 138), .ref (G.1 139), .ref (G.1 140)]) ++ List.replicate (11 - (lg_sl ([.ref (G.1 136), .ref (G.1 138), .ref (G.1 139), .ref (G.1 140)])).length) Slot.unset).toArray = ls at hl ⊢
  have hl : lv_has ls 11 [(0, .ref (G.1 136)), (1, .ref (G.1 138)), (2, .ref (G.1 139)), (3, .ref (G.1 140))] := hl
  unfold DL_chain at h
  cases hd : DL_chainB (gPut σ 124 (fun _ => 0)) with
  | none => rw [hd] at h; cases h
  | some q0 =>
    rw [hd] at h
    obtain ⟨r0, σ0⟩ := q0
    cases h
    refine lv_bipush (v := gI (24 : Int)) hx hb0 dL_chain_0 (by decide) ?_
    refine g_newB (k := 124) (rfl : gKinds[124]? = _) gNoK_124 hx hb0 hts hX hP ⟨Nat.le_of_ble_eq_true rfl, Nat.le_of_ble_eq_true rfl⟩ dL_chain_2 (fun q H hq hX1 hH => ?_)
    refine lv_astore (lv' := [(4, .ref q), (0, .ref (G.1 136)), (1, .ref (G.1 138)), (2, .ref (G.1 139)), (3, .ref (G.1 140))]) hx hb0 dL_chain_4 hl (by decide) rfl (fun ls hl => ?_)
    obtain ⟨G1, hG⟩ : ∃ G1 : gAd, G1 = gMv G 124 q := ⟨_, rfl⟩
    have hl : lv_has ls 11 [(0, .ref (G1.1 136)), (1, .ref (G1.1 138)), (2, .ref (G1.1 139)), (3, .ref (G1.1 140)), (4, .ref (G1.1 124))] := by
      rw [hG]
      exact lv_sub hl [1, 2, 3, 4, 0] rfl
    rw [← hG] at hX1 hH
    refine bodL_chain hlt hx hb0 hml hown hts hX1 hH hl hd (fun H locs ls hH => ?_)
    rw [hG] at hH
    exact g_retM (k := 124) (q := q) (rfl : gKinds[124]? = _) gNoK_124 hx hb0 hr hX hP hq hH hlocks dL_chain_179
