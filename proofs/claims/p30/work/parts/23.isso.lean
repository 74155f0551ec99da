def DL_isSoB_K696 (q14 : Int × gSt) : Option (Int × gSt) :=
  (gWqP (DX8_row q14.2 q14.1 (0 : Int)) [(3, (-100001 : Int))]).bind fun q705 => gIf (q705 = (-100001 : Int)) q705 (-100001 : Int) ((DX8_longestChain q14.2).bind fun q714 => (DL_chain q714.2).bind fun q723 => gIf (q714.1 = q723.1) q714.1 q723.1 (gBo (1 : Int) (some ((1 : Int), q723.2))) (none)) (none)
def DL_isSoB_J660 (q14 : Int × gSt) (R483 : Int → Option (Int × gSt)) (x9_483 : Int) (t0_660 : Int) : Option (Int × gSt) :=
  gAt (0 : Int) 6 (gDv x9_483 (q14.2 136 (Int.toNat (0 : Int))) (gAt (0 : Int) 6 (gDv x9_483 (q14.2 136 (Int.toNat (0 : Int))) ((gWqP (DX8_row q14.2 (x9_483 / (q14.2 136 (Int.toNat (0 : Int)))) (x9_483 % (q14.2 136 (Int.toNat (0 : Int))))) [(3, (-100001 : Int))]).bind fun q675 => gIf (q675 = t0_660) q675 t0_660 ((R483 (x9_483 + (1 : Int)))) (none)))))
def DL_isSoB_J655 (q14 : Int × gSt) (R483 : Int → Option (Int × gSt)) (x9_483 : Int) (x11_590 : Int) (t0_655 : Int) : Option (Int × gSt) :=
  gAt x11_590 24 ((DL_isSoB_J660 q14 R483 x9_483 (t0_655 + (q14.2 137 (Int.toNat x11_590)))))
def DL_isSoB_J621 (q14 : Int × gSt) (R483 : Int → Option (Int × gSt)) (x9_483 : Int) (x11_590 : Int) (x10_590 : Int) (t0_621 : Int) : Option (Int × gSt) :=
  gIf (x10_590 < (0 : Int)) x10_590 (0 : Int) (gIf (x11_590 < (0 : Int)) x11_590 (0 : Int) ((DL_isSoB_J660 q14 R483 x9_483 (-1 : Int))) (gIf (t0_621 = (0 : Int)) t0_621 (0 : Int) ((DL_isSoB_J655 q14 R483 x9_483 x11_590 (200 : Int))) ((DL_isSoB_J655 q14 R483 x9_483 x11_590 (100 : Int))))) ((DL_isSoB_J660 q14 R483 x9_483 x10_590))
def DL_isSoB_J620 (q14 : Int × gSt) (R483 : Int → Option (Int × gSt)) (x9_483 : Int) (x11_590 : Int) (x10_590 : Int) : Option (Int × gSt) :=
  (DL_isSoB_J621 q14 R483 x9_483 x11_590 x10_590 (0 : Int))
def DL_isSoB_K590 (q14 : Int × gSt) (R483 : Int → Option (Int × gSt)) (x9_483 : Int) (x11_590 : Int) (x10_590 : Int) : Option (Int × gSt) :=
  gIf (x11_590 < (0 : Int)) x11_590 (0 : Int) ((DL_isSoB_J620 q14 R483 x9_483 x11_590 x10_590)) (gAt x11_590 24 ((DL_next q14.2 (((q14.2 137 (Int.toNat x11_590)) * (6400 : Int)) - (1 : Int))).bind fun q608 => gIf (q608 = x11_590) q608 x11_590 ((DL_isSoB_J621 q14 R483 x9_483 x11_590 x10_590 (1 : Int))) ((DL_isSoB_J620 q14 R483 x9_483 x11_590 x10_590))))
def DL_isSoB_J582 (R508 : Int → Int → Int → Option (Int × gSt)) (x12_508 : Int) (t0_547 : Int) (t0_582 : Int) : Option (Int × gSt) :=
  (R508 (x12_508 + (1 : Int)) t0_582 t0_547)
def DL_isSoB_J547 (q14 : Int × gSt) (x9_483 : Int) (R508 : Int → Int → Int → Option (Int × gSt)) (x12_508 : Int) (x11_508 : Int) (t0_547 : Int) : Option (Int × gSt) :=
  gAt x12_508 24 (gAt (0 : Int) 6 (gDv x9_483 (q14.2 136 (Int.toNat (0 : Int))) (gAt (0 : Int) 6 (gDv x9_483 (q14.2 136 (Int.toNat (0 : Int))) (gIf ((q14.2 122 (Int.toNat x12_508)) = ((((32 : Int) * (x9_483 / (q14.2 136 (Int.toNat (0 : Int))))) + (x9_483 % (q14.2 136 (Int.toNat (0 : Int))))) + (1 : Int))) (q14.2 122 (Int.toNat x12_508)) ((((32 : Int) * (x9_483 / (q14.2 136 (Int.toNat (0 : Int))))) + (x9_483 % (q14.2 136 (Int.toNat (0 : Int))))) + (1 : Int)) ((DL_isSoB_J582 R508 x12_508 t0_547 x12_508)) ((DL_isSoB_J582 R508 x12_508 t0_547 x11_508)))))))
def DL_isSoB_L508 (K590 : Int → Int → Option (Int × gSt)) (q14 : Int × gSt) (x9_483 : Int) : Nat → Int → Int → Int → Option (Int × gSt)
  | 0, _, _, _ => none
  | f508 + 1, x12_508, x11_508, x10_508 => gAt (4 : Int) 6 (gIf (x12_508 < (q14.2 136 (Int.toNat (4 : Int)))) x12_508 (q14.2 136 (Int.toNat (4 : Int))) (gAt x12_508 24 (gAt (0 : Int) 6 (gDv x9_483 (q14.2 136 (Int.toNat (0 : Int))) (gAt (0 : Int) 6 (gDv x9_483 (q14.2 136 (Int.toNat (0 : Int))) (gIf ((q14.2 122 (Int.toNat x12_508)) = (((32 : Int) * (x9_483 / (q14.2 136 (Int.toNat (0 : Int))))) + (x9_483 % (q14.2 136 (Int.toNat (0 : Int)))))) (q14.2 122 (Int.toNat x12_508)) (((32 : Int) * (x9_483 / (q14.2 136 (Int.toNat (0 : Int))))) + (x9_483 % (q14.2 136 (Int.toNat (0 : Int))))) ((DL_isSoB_J547 q14 x9_483 (DL_isSoB_L508 K590 q14 x9_483 f508) x12_508 x11_508 x12_508)) ((DL_isSoB_J547 q14 x9_483 (DL_isSoB_L508 K590 q14 x9_483 f508) x12_508 x11_508 x10_508)))))))) ((K590 x11_508 x10_508)))
def DL_isSoB_L483 (K696 : Option (Int × gSt)) (q14 : Int × gSt) : Nat → Int → Option (Int × gSt)
  | 0, _ => none
  | f483 + 1, x9_483 => gAt (0 : Int) 6 (gIf (x9_483 < (q14.1 * (q14.2 136 (Int.toNat (0 : Int))))) x9_483 (q14.1 * (q14.2 136 (Int.toNat (0 : Int)))) ((DL_isSoB_L508 (DL_isSoB_K590 q14 (DL_isSoB_L483 K696 q14 f483) x9_483) q14 x9_483 gFuel (0 : Int) (-1 : Int) (-1 : Int))) ((K696)))
def DL_isSoB_K480 (q14 : Int × gSt) : Option (Int × gSt) :=
  (DL_isSoB_L483 (DL_isSoB_K696 q14) q14 481 (0 : Int))
def DL_isSoB_K438 (q14 : Int × gSt) (R79 : Int → Option (Int × gSt)) (x9_79 : Int) (q97 : Int) (x12_438 : Int) : Option (Int × gSt) :=
  gAt x9_79 24 (gIf (x12_438 = (q14.2 139 (Int.toNat x9_79))) x12_438 (q14.2 139 (Int.toNat x9_79)) ((gWqP (DX8_part q14.2 x9_79 (((q97 / (q14.2 136 (Int.toNat (1 : Int)))) - ((q14.2 138 (Int.toNat x9_79)) / (q14.2 136 (Int.toNat (1 : Int))))) + (1 : Int)) (0 : Int)) [(3, (-100001 : Int)), (1, (-100002 : Int))]).bind fun q459 => gIf (q459 = (-100001 : Int)) q459 (-100001 : Int) ((R79 (x9_79 + (1 : Int)))) (none)) (none))
def DL_isSoB_J388 (q14 : Int × gSt) (x9_79 : Int) (R323 : Int → Int → Option (Int × gSt)) (x13_323 : Int) (x12_323 : Int) (t0_352 : Int) (t0_388 : Int) : Option (Int × gSt) :=
  (gWqP (DX8_part q14.2 x9_79 x13_323 (1 : Int)) [(3, (-100001 : Int)), (1, (-100002 : Int))]).bind fun q396 => gIf (q396 = t0_352) q396 t0_352 ((gWqP (DX8_part q14.2 x9_79 x13_323 (2 : Int)) [(3, (-100001 : Int)), (1, (-100002 : Int))]).bind fun q410 => gIf (q410 = t0_388) q410 t0_388 ((R323 (x13_323 + (1 : Int)) (x12_323 + t0_388))) (none)) (none)
def DL_isSoB_J352 (q14 : Int × gSt) (x9_79 : Int) (R323 : Int → Int → Option (Int × gSt)) (x13_323 : Int) (x12_323 : Int) (t0_352 : Int) : Option (Int × gSt) :=
  gAt (1 : Int) 6 (gAt x9_79 24 (gIf (((q14.2 136 (Int.toNat (1 : Int))) - t0_352) < ((q14.2 139 (Int.toNat x9_79)) - x12_323)) ((q14.2 136 (Int.toNat (1 : Int))) - t0_352) ((q14.2 139 (Int.toNat x9_79)) - x12_323) (gAt (1 : Int) 6 ((DL_isSoB_J388 q14 x9_79 R323 x13_323 x12_323 t0_352 ((q14.2 136 (Int.toNat (1 : Int))) - t0_352)))) (gAt x9_79 24 ((DL_isSoB_J388 q14 x9_79 R323 x13_323 x12_323 t0_352 ((q14.2 139 (Int.toNat x9_79)) - x12_323))))))
def DL_isSoB_L323 (K438 : Int → Option (Int × gSt)) (q14 : Int × gSt) (x9_79 : Int) (q97 : Int) : Nat → Int → Int → Option (Int × gSt)
  | 0, _, _ => none
  | f323 + 1, x13_323, x12_323 => gIf (x13_323 < (((q97 / (q14.2 136 (Int.toNat (1 : Int)))) - ((q14.2 138 (Int.toNat x9_79)) / (q14.2 136 (Int.toNat (1 : Int))))) + (1 : Int))) x13_323 (((q97 / (q14.2 136 (Int.toNat (1 : Int)))) - ((q14.2 138 (Int.toNat x9_79)) / (q14.2 136 (Int.toNat (1 : Int))))) + (1 : Int)) (gIf (x13_323 = (0 : Int)) x13_323 (0 : Int) (gAt x9_79 24 (gAt (1 : Int) 6 (gDv (q14.2 138 (Int.toNat x9_79)) (q14.2 136 (Int.toNat (1 : Int))) ((DL_isSoB_J352 q14 x9_79 (DL_isSoB_L323 K438 q14 x9_79 q97 f323) x13_323 x12_323 ((q14.2 138 (Int.toNat x9_79)) % (q14.2 136 (Int.toNat (1 : Int))))))))) ((DL_isSoB_J352 q14 x9_79 (DL_isSoB_L323 K438 q14 x9_79 q97 f323) x13_323 x12_323 (0 : Int)))) ((K438 x12_323))
def DL_isSoB_K189 (q14 : Int × gSt) (R79 : Int → Option (Int × gSt)) (x9_79 : Int) (q97 : Int) (x11_189 : Int) : Option (Int × gSt) :=
  (gWqP (DX8_task q14.2 x9_79 (0 : Int)) [(3, (-100001 : Int)), (1, (-100002 : Int))]).bind fun q193 => gAt x9_79 24 (gIf (q193 = (q14.2 137 (Int.toNat x9_79))) q193 (q14.2 137 (Int.toNat x9_79)) ((gWqP (DX8_task q14.2 x9_79 (1 : Int)) [(3, (-100001 : Int)), (1, (-100002 : Int))]).bind fun q207 => gAt x9_79 24 (gIf (q207 = (q14.2 138 (Int.toNat x9_79))) q207 (q14.2 138 (Int.toNat x9_79)) ((gWqP (DX8_task q14.2 x9_79 (2 : Int)) [(3, (-100001 : Int)), (1, (-100002 : Int))]).bind fun q221 => gAt x9_79 24 (gIf (q221 = (q14.2 139 (Int.toNat x9_79))) q221 (q14.2 139 (Int.toNat x9_79)) ((gWqP (DX8_task q14.2 x9_79 (3 : Int)) [(3, (-100001 : Int)), (1, (-100002 : Int))]).bind fun q236 => (DL_last q14.2 x9_79).bind fun q244 => gIf (q236 = q244) q236 q244 ((gWqP (DX8_task q14.2 x9_79 (4 : Int)) [(3, (-100001 : Int)), (1, (-100002 : Int))]).bind fun q254 => gAt x9_79 24 (gDv (q14.2 122 (Int.toNat x9_79)) (32 : Int) (gIf (q254 = ((q14.2 122 (Int.toNat x9_79)) / (32 : Int))) q254 ((q14.2 122 (Int.toNat x9_79)) / (32 : Int)) ((gWqP (DX8_task q14.2 x9_79 (5 : Int)) [(3, (-100001 : Int)), (1, (-100002 : Int))]).bind fun q272 => gAt x9_79 24 (gDv (q14.2 122 (Int.toNat x9_79)) (32 : Int) (gIf (q272 = ((q14.2 122 (Int.toNat x9_79)) % (32 : Int))) q272 ((q14.2 122 (Int.toNat x9_79)) % (32 : Int)) ((gWqP (DX8_task q14.2 x9_79 (6 : Int)) [(3, (-100001 : Int)), (1, (-100002 : Int))]).bind fun q291 => gIf (q291 = (((q97 / (q14.2 136 (Int.toNat (1 : Int)))) - ((q14.2 138 (Int.toNat x9_79)) / (q14.2 136 (Int.toNat (1 : Int))))) + (1 : Int))) q291 (((q97 / (q14.2 136 (Int.toNat (1 : Int)))) - ((q14.2 138 (Int.toNat x9_79)) / (q14.2 136 (Int.toNat (1 : Int))))) + (1 : Int)) ((gWqP (DX8_delay q14.2 x9_79) [(3, (-100001 : Int))]).bind fun q302 => gIf (q302 = x11_189) q302 x11_189 ((DL_isSoB_L323 (DL_isSoB_K438 q14 R79 x9_79 q97) q14 x9_79 q97 14 (0 : Int) (0 : Int))) (none)) (none)) (none)))) (none)))) (none)) (none))) (none))) (none))
def DL_isSoB_J181 (R123 : Int → Int → Option (Int × gSt)) (x12_123 : Int) (t0_181 : Int) : Option (Int × gSt) :=
  (R123 (x12_123 + (1 : Int)) t0_181)
def DL_isSoB_J179 (R123 : Int → Int → Option (Int × gSt)) (x12_123 : Int) (x11_123 : Int) : Option (Int × gSt) :=
  (DL_isSoB_J181 R123 x12_123 x11_123)
def DL_isSoB_L123 (K189 : Int → Option (Int × gSt)) (q14 : Int × gSt) (x9_79 : Int) : Nat → Int → Int → Option (Int × gSt)
  | 0, _, _ => none
  | f123 + 1, x12_123, x11_123 => gAt (5 : Int) 6 (gIf (x12_123 < (q14.2 136 (Int.toNat (5 : Int)))) x12_123 (q14.2 136 (Int.toNat (5 : Int))) (gAt x12_123 31 (gDv (q14.2 140 (Int.toNat x12_123)) (32 : Int) ((DL_last q14.2 ((q14.2 140 (Int.toNat x12_123)) / (32 : Int))).bind fun q142 => gAt x9_79 24 (gAt x12_123 31 (gDv (q14.2 140 (Int.toNat x12_123)) (32 : Int) (gIf (((q14.2 140 (Int.toNat x12_123)) % (32 : Int)) = x9_79) ((q14.2 140 (Int.toNat x12_123)) % (32 : Int)) x9_79 (gIf (x11_123 < ((q142 + (1 : Int)) - (q14.2 138 (Int.toNat x9_79)))) ((q142 + (1 : Int)) - (q14.2 138 (Int.toNat x9_79))) x11_123 ((DL_isSoB_J181 (DL_isSoB_L123 K189 q14 x9_79 f123) x12_123 ((q142 + (1 : Int)) - (q14.2 138 (Int.toNat x9_79))))) ((DL_isSoB_J179 (DL_isSoB_L123 K189 q14 x9_79 f123) x12_123 x11_123))) ((DL_isSoB_J179 (DL_isSoB_L123 K189 q14 x9_79 f123) x12_123 x11_123)))))))) ((K189 x11_123)))
def DL_isSoB_L79 (K480 : Option (Int × gSt)) (q14 : Int × gSt) : Nat → Int → Option (Int × gSt)
  | 0, _ => none
  | f79 + 1, x9_79 => gAt (4 : Int) 6 (gIf (x9_79 < (q14.2 136 (Int.toNat (4 : Int)))) x9_79 (q14.2 136 (Int.toNat (4 : Int))) ((DL_last q14.2 x9_79).bind fun q97 => gAt (1 : Int) 6 (gDv q97 (q14.2 136 (Int.toNat (1 : Int))) (gAt x9_79 24 (gAt (1 : Int) 6 (gDv (q14.2 138 (Int.toNat x9_79)) (q14.2 136 (Int.toNat (1 : Int))) ((DL_isSoB_L123 (DL_isSoB_K189 q14 (DL_isSoB_L79 K480 q14 f79) x9_79 q97) q14 x9_79 gFuel (0 : Int) (0 : Int)))))))) ((K480)))
def DL_isSoB_K76 (q14 : Int × gSt) : Option (Int × gSt) :=
  (DL_isSoB_L79 (DL_isSoB_K480 q14) q14 25 (0 : Int))
def DL_isSoB_L38 (K76 : Option (Int × gSt)) (q14 : Int × gSt) : Nat → Int → Option (Int × gSt)
  | 0, _ => none
  | f38 + 1, x9_38 => gIf (x9_38 < (6 : Int)) x9_38 (6 : Int) ((gWqP (DX8_value q14.2 x9_38) [(1, (-100002 : Int))]).bind fun q53 => gAt x9_38 6 (gIf (q53 = (q14.2 136 (Int.toNat x9_38))) q53 (q14.2 136 (Int.toNat x9_38)) (((DL_isSoB_L38 K76 q14 f38) (x9_38 + (1 : Int)))) (none))) ((K76))
def DL_isSoB (σ : gSt) : Option (Int × gSt) :=
  gAt (0 : Int) 6 ((DL_bands σ (σ 136 (Int.toNat (0 : Int)))).bind fun q14 => (DX8_bands q14.2).bind fun q20 => gIf (q20 = q14.1) q20 q14.1 ((DL_isSoB_L38 (DL_isSoB_K76 q14) q14 7 (0 : Int))) (none))
set_option maxHeartbeats 8000000 in
set_option maxRecDepth 100000 in
theorem bodL_isSo {p : Program} {l : Launch} {e : Env} {s : State} {m : MethodId} {args : Array Value} {below : List Frame} {meth : Method} {c : Code} {D : va_G} {G : gAd} {Q : State → Prop} (hlt : l.stackTraces = false) (hx : p.tables.exec = Jvm.exec) (hb0 : c.code = cL_isSo) (hml : c.maxLocals = 16) (hown : s.vm.findClass RL = some m.cls) (hts : ∀ w ∈ gLW, w.before args s = true) (hX : gX D G s) {H : Heap} {locs : List Loc} {ls : Array Slot} {σ σ' : gSt} {μ : gLg} {r : Int} (hH : gH D G s H locs σ μ) (hl : lv_has ls 16 [(0, .ref (G.1 0)), (1, .ref (G.1 136)), (2, .ref (G.1 137)), (3, .ref (G.1 138)), (4, .ref (G.1 139)), (5, .ref (G.1 140)), (6, .ref (G.1 122))]) (h : DL_isSoB σ = some (r, σ')) (kk : ∀ (H : Heap) (locs : List Loc) (ls : Array Slot), r = 0 ∨ r = 1 → gH D G s H locs σ' μ → W p l e (headSpec (gWs yL_isSo cL_isSo 16 (some (Jvm.ClassFile.FieldType.boolean))) ({ frames := 9, cells := 2801, slots := 16824, locals := 150 } : Room)).room s m args below meth c H locs 2801 16824 Q (F0 m 734 ls [.int (gI r)])) : W p l e (headSpec (gWs yL_isSo cL_isSo 16 (some (Jvm.ClassFile.FieldType.boolean))) ({ frames := 9, cells := 2801, slots := 16824, locals := 150 } : Room)).room s m args below meth c H locs (0 + 1) (6 * 0 + 24) Q (F0 m 6 ls []) := by
  unfold DL_isSoB at h
  refine lv_aload_n hx hb0 dL_isSo_6 rfl (lv_at hl 1 rfl) ?_
  refine lv_aload_n hx hb0 dL_isSo_7 rfl (lv_at hl 2 rfl) ?_
  refine lv_aload_n hx hb0 dL_isSo_8 rfl (lv_at hl 3 rfl) ?_
  refine lv_aload hx hb0 dL_isSo_9 (lv_at hl 6 rfl) ?_
  refine lv_aload_n hx hb0 dL_isSo_11 rfl (lv_at hl 1 rfl) ?_
  refine lv_iconst (v := gI (0 : Int)) hx hb0 dL_isSo_12 (by decide) ?_
  refine g_iald hx hb0 hX hH (k := 136) (rfl : gKinds[136]? = _) (by decide) dL_isSo_13 h (fun h => ?_)
  obtain ⟨q14, e14, h⟩ := gBind_some h
  refine g_callSi (As := [.ref (G.1 136), .ref (G.1 137), .ref (G.1 138), .ref (G.1 122), .int (gI (σ 136 (Int.toNat (0 : Int))))]) (rest := []) ⟨hx, hb0, hml, hown, hts⟩ (metL_bands l D G σ μ (σ 136 (Int.toNat (0 : Int))) q14.1 q14.2 e14) (g_cwS 5 hts q_ml_L_112 q_st_L_bands q_in_L q_co_L_bands ⟨rfl, rfl⟩ (by decide +kernel) ⟨Nat.le_of_ble_eq_true rfl, Nat.le_of_ble_eq_true rfl⟩) hX hH rfl hl.1 rfl (Nat.le_of_ble_eq_true rfl) dL_isSo_14 ⟨by show _ ≤ 2801; omega, by show _ ≤ 16824; omega⟩ (fun H locs hH => ?_)
  refine lv_istore (lv' := [(7, .int (gI q14.1)), (0, .ref (G.1 0)), (1, .ref (G.1 136)), (2, .ref (G.1 137)), (3, .ref (G.1 138)), (4, .ref (G.1 139)), (5, .ref (G.1 140)), (6, .ref (G.1 122))]) hx hb0 dL_isSo_17 hl (by decide) rfl (fun ls hl => ?_)
  refine lv_aload_n hx hb0 dL_isSo_19 rfl (lv_at hl 1 rfl) ?_
  obtain ⟨q20, e20, h⟩ := gBind_some h
  refine g_callVi (k := 0) (T := TX8) (N := 10) (As := []) (rest := []) ⟨hx, hb0, hml, hown, hts⟩ (metX8_bands l D G q14.2 μ q20 e20) (g_cwV (C := RX8) 0 hts q_ml_L_116 q_im_X8_bands q_se_X8_bands q_in_X8 q_co_X8_bands ⟨rfl, rfl⟩ (by decide +kernel) ⟨Nat.le_of_ble_eq_true rfl, Nat.le_of_ble_eq_true rfl⟩) hX hH (rfl : gKinds[0]? = _) rfl rfl hl.1 rfl (Nat.le_of_ble_eq_true rfl) dL_isSo_20 ⟨by show _ ≤ 2801; omega, by show _ ≤ 16824; omega⟩ (fun H locs hH => ?_)
  refine lv_iload hx hb0 dL_isSo_23 (lv_at hl 0 rfl) ?_
  refine g_icmp_ne (tgt := 32) hx hb0 dL_isSo_25 (by decide) h (fun h => ?_) (fun h => ?_)
  · cases h
  · refine lv_iconst (v := gI (1 : Int)) hx hb0 dL_isSo_28 (by decide) ?_
    refine lv_goto (tgt := 33) hx hb0 dL_isSo_29 (by decide) ?_
    refine lv_istore (lv' := [(8, .int (gI (1 : Int))), (7, .int (gI q14.1)), (0, .ref (G.1 0)), (1, .ref (G.1 136)), (2, .ref (G.1 137)), (3, .ref (G.1 138)), (4, .ref (G.1 139)), (5, .ref (G.1 140)), (6, .ref (G.1 122))]) hx hb0 dL_isSo_33 hl (by decide) rfl (fun ls hl => ?_)
    refine lv_iconst (v := gI (0 : Int)) hx hb0 dL_isSo_35 (by decide) ?_
    refine lv_istore (lv' := [(9, .int (gI (0 : Int))), (8, .int (gI (1 : Int))), (7, .int (gI q14.1)), (0, .ref (G.1 0)), (1, .ref (G.1 136)), (2, .ref (G.1 137)), (3, .ref (G.1 138)), (4, .ref (G.1 139)), (5, .ref (G.1 140)), (6, .ref (G.1 122))]) hx hb0 dL_isSo_36 hl (by decide) rfl (fun ls hl => ?_)
    have hK76 : ∀  (cs76 : Nat) (H : Heap) (locs : List Loc) (ls : Array Slot), cs76 ≤ 0 + 7 → gH D G s H locs q14.2 μ → lv_has ls 16 [(8, .int (gI (1 : Int))), (7, .int (gI q14.1)), (0, .ref (G.1 0)), (1, .ref (G.1 136)), (2, .ref (G.1 137)), (3, .ref (G.1 138)), (4, .ref (G.1 139)), (5, .ref (G.1 140)), (6, .ref (G.1 122))] → (DL_isSoB_K76 q14) = some (r, σ') → W p l e (headSpec (gWs yL_isSo cL_isSo 16 (some (Jvm.ClassFile.FieldType.boolean))) ({ frames := 9, cells := 2801, slots := 16824, locals := 150 } : Room)).room s m args below meth c H locs (cs76 + 1) (6 * cs76 + 24) Q (F0 m 76 ls []) := by
      intro cs76 H locs ls hb76 hH hl h
      unfold DL_isSoB_K76 at h
      refine lv_iconst (v := gI (0 : Int)) hx hb0 dL_isSo_76 (by decide) ?_
      refine lv_istore (lv' := [(9, .int (gI (0 : Int))), (8, .int (gI (1 : Int))), (7, .int (gI q14.1)), (0, .ref (G.1 0)), (1, .ref (G.1 136)), (2, .ref (G.1 137)), (3, .ref (G.1 138)), (4, .ref (G.1 139)), (5, .ref (G.1 140)), (6, .ref (G.1 122))]) hx hb0 dL_isSo_77 hl (by decide) rfl (fun ls hl => ?_)
      have hK480 : ∀  (cs480 : Nat) (H : Heap) (locs : List Loc) (ls : Array Slot), cs480 ≤ cs76 + 1825 → gH D G s H locs q14.2 μ → lv_has ls 16 [(8, .int (gI (1 : Int))), (7, .int (gI q14.1)), (0, .ref (G.1 0)), (1, .ref (G.1 136)), (2, .ref (G.1 137)), (3, .ref (G.1 138)), (4, .ref (G.1 139)), (5, .ref (G.1 140)), (6, .ref (G.1 122))] → (DL_isSoB_K480 q14) = some (r, σ') → W p l e (headSpec (gWs yL_isSo cL_isSo 16 (some (Jvm.ClassFile.FieldType.boolean))) ({ frames := 9, cells := 2801, slots := 16824, locals := 150 } : Room)).room s m args below meth c H locs (cs480 + 1) (6 * cs480 + 24) Q (F0 m 480 ls []) := by
        intro cs480 H locs ls hb480 hH hl h
        unfold DL_isSoB_K480 at h
        refine lv_iconst (v := gI (0 : Int)) hx hb0 dL_isSo_480 (by decide) ?_
        refine lv_istore (lv' := [(9, .int (gI (0 : Int))), (8, .int (gI (1 : Int))), (7, .int (gI q14.1)), (0, .ref (G.1 0)), (1, .ref (G.1 136)), (2, .ref (G.1 137)), (3, .ref (G.1 138)), (4, .ref (G.1 139)), (5, .ref (G.1 140)), (6, .ref (G.1 122))]) hx hb0 dL_isSo_481 hl (by decide) rfl (fun ls hl => ?_)
        have hK696 : ∀  (cs696 : Nat) (H : Heap) (locs : List Loc) (ls : Array Slot), cs696 ≤ cs480 + 962 → gH D G s H locs q14.2 μ → lv_has ls 16 [(8, .int (gI (1 : Int))), (7, .int (gI q14.1)), (0, .ref (G.1 0)), (1, .ref (G.1 136)), (3, .ref (G.1 138)), (4, .ref (G.1 139)), (5, .ref (G.1 140))] → (DL_isSoB_K696 q14) = some (r, σ') → W p l e (headSpec (gWs yL_isSo cL_isSo 16 (some (Jvm.ClassFile.FieldType.boolean))) ({ frames := 9, cells := 2801, slots := 16824, locals := 150 } : Room)).room s m args below meth c H locs (cs696 + 1) (6 * cs696 + 24) Q (F0 m 696 ls []) := by
          intro cs696 H locs ls hb696 hH hl h
          unfold DL_isSoB_K696 at h
          refine lv_iload hx hb0 dL_isSo_696 (lv_at hl 0 rfl) ?_
          refine lv_if_eq (tgt := 733) hx hb0 dL_isSo_698 (by decide) (fun c1 => absurd c1 (by decide +kernel)) (fun _ => ?_)
          refine lv_aload_n hx hb0 dL_isSo_701 rfl (lv_at hl 2 rfl) ?_
          refine lv_iload hx hb0 dL_isSo_702 (lv_at hl 1 rfl) ?_
          refine lv_iconst (v := gI (0 : Int)) hx hb0 dL_isSo_704 (by decide) ?_
          obtain ⟨q705, e705, h⟩ := gBind_some h
          refine g_callWi (As := [.ref (G.1 0), .int (gI q14.1), .int (gI (0 : Int))]) (rest := []) ⟨hx, hb0, hml, hown, hts⟩ (metL_rowOf l hlt D G q14.2 μ q14.1 (0 : Int) q705 e705) (g_cwW 3 hts q_ml_L_131 q_st_L_rowOf q_in_L q_cw_L_rowOf ⟨rfl, rfl⟩ (by decide +kernel) ⟨Nat.le_of_ble_eq_true rfl, Nat.le_of_ble_eq_true rfl⟩) hX hH rfl hl.1 rfl (Nat.le_of_ble_eq_true rfl) dL_isSo_705 ⟨by show _ ≤ 2801; omega, by show _ ≤ 16824; omega⟩ (fun H locs hH => ?_)
          refine W.widen (k := (cs696 + 2) + 1) (n := 6 * (cs696 + 2) + 24) (by omega) (by omega) ?_
          refine lv_ldc (v := gI (-100001 : Int)) hx hb0 hown (hts _ q_ki_L_46) dL_isSo_708 ?_
          refine g_icmp_ne (tgt := 733) hx hb0 dL_isSo_710 (by decide) h (fun h => ?_) (fun h => ?_)
          · cases h
          · refine lv_aload_n hx hb0 dL_isSo_713 rfl (lv_at hl 2 rfl) ?_
            obtain ⟨q714, e714, h⟩ := gBind_some h
            refine g_callVi (k := 0) (T := TX8) (N := 10) (As := []) (rest := []) ⟨hx, hb0, hml, hown, hts⟩ (metX8_longestChain l D G q14.2 μ q714.1 q714.2 e714) (g_cwV (C := RX8) 0 hts q_ml_L_134 q_im_X8_longestChain q_se_X8_longestChain q_in_X8 q_co_X8_longestChain ⟨rfl, rfl⟩ (by decide +kernel) ⟨Nat.le_of_ble_eq_true rfl, Nat.le_of_ble_eq_true rfl⟩) hX hH (rfl : gKinds[0]? = _) rfl rfl hl.1 rfl (Nat.le_of_ble_eq_true rfl) dL_isSo_714 ⟨by show _ ≤ 2801; omega, by show _ ≤ 16824; omega⟩ (fun H locs hH => ?_)
            refine lv_aload_n hx hb0 dL_isSo_717 rfl (lv_at hl 3 rfl) ?_
            refine lv_aload_n hx hb0 dL_isSo_718 rfl (lv_at hl 4 rfl) ?_
            refine lv_aload hx hb0 dL_isSo_719 (lv_at hl 5 rfl) ?_
            refine lv_aload hx hb0 dL_isSo_721 (lv_at hl 6 rfl) ?_
            obtain ⟨q723, e723, h⟩ := gBind_some h
            refine g_callAi (As := [.ref (G.1 136), .ref (G.1 138), .ref (G.1 139), .ref (G.1 140)]) (rest := [.int (gI q714.1)]) ⟨hx, hb0, hml, hown, hts⟩ (metL_chain l hlt D G q714.2 μ q723.1 q723.2 e723) (g_cwA 4 hts q_ml_L_137 q_st_L_chain q_in_L q_co_L_chain ⟨rfl, rfl⟩ (by decide +kernel) ⟨Nat.le_of_ble_eq_true rfl, Nat.le_of_ble_eq_true rfl⟩) hX hH rfl hl.1 rfl (Nat.le_of_ble_eq_true rfl) dL_isSo_723 ⟨by show _ ≤ 2801; omega, by show _ ≤ 16824; omega⟩ (fun H locs hH => ?_)
            refine W.widen (k := ((cs696 + 2) + 4) + 1) (n := 6 * ((cs696 + 2) + 4) + 24) (by omega) (by omega) ?_
            refine g_icmp_ne (tgt := 733) hx hb0 dL_isSo_726 (by decide) h (fun h => ?_) (fun h => ?_)
            · cases h
            · refine lv_iconst (v := gI (1 : Int)) hx hb0 dL_isSo_729 (by decide) ?_
              refine lv_goto (tgt := 734) hx hb0 dL_isSo_730 (by decide) ?_
              obtain ⟨hv9, h⟩ := gBo_some h
              cases h
              refine W.widen (k := 2801) (n := 16824) (by omega) (by omega) ?_
              exact kk _ _ _ hv9 hH
        have hL483 : ∀ (f483 : Nat) (x9_483 : Int) (cs483 : Nat) (H : Heap) (locs : List Loc) (ls : Array Slot), cs483 + 2 * f483 ≤ cs480 + 962 → gH D G s H locs q14.2 μ → lv_has ls 16 [(9, .int (gI x9_483)), (8, .int (gI (1 : Int))), (7, .int (gI q14.1)), (0, .ref (G.1 0)), (1, .ref (G.1 136)), (2, .ref (G.1 137)), (3, .ref (G.1 138)), (4, .ref (G.1 139)), (5, .ref (G.1 140)), (6, .ref (G.1 122))] → (DL_isSoB_L483 (DL_isSoB_K696 q14) q14 f483 x9_483) = some (r, σ') → W p l e (headSpec (gWs yL_isSo cL_isSo 16 (some (Jvm.ClassFile.FieldType.boolean))) ({ frames := 9, cells := 2801, slots := 16824, locals := 150 } : Room)).room s m args below meth c H locs (cs483 + 1) (6 * cs483 + 24) Q (F0 m 483 ls []) := by
          intro f483
          induction f483 with
          | zero => intro x9_483 cs483 H locs ls hb483 hH hl h; cases h
          | succ f483 ih483 =>
            intro x9_483 cs483 H locs ls hb483 hH hl h
            unfold DL_isSoB_L483 at h
            refine lv_iload hx hb0 dL_isSo_483 (lv_at hl 0 rfl) ?_
            refine lv_iload hx hb0 dL_isSo_485 (lv_at hl 2 rfl) ?_
            refine lv_aload_n hx hb0 dL_isSo_487 rfl (lv_at hl 4 rfl) ?_
            refine lv_iconst (v := gI (0 : Int)) hx hb0 dL_isSo_488 (by decide) ?_
            refine g_iald hx hb0 hX hH (k := 136) (rfl : gKinds[136]? = _) (by decide) dL_isSo_489 h (fun h => ?_)
            refine g_imul hx hb0 dL_isSo_490 ?_
            refine g_icmp_ge (tgt := 696) hx hb0 dL_isSo_491 (by decide) h (fun h => ?_) (fun h => ?_)
            · exact hK696  (cs483) _ _ _ (by omega) hH (lv_sub hl [1, 2, 3, 4, 6, 7, 8] rfl) h
            · refine lv_iload hx hb0 dL_isSo_494 (lv_at hl 1 rfl) ?_
              refine lv_if_eq (tgt := 696) hx hb0 dL_isSo_496 (by decide) (fun c1 => absurd c1 (by decide +kernel)) (fun _ => ?_)
              refine lv_iconst (v := gI (-1 : Int)) hx hb0 dL_isSo_499 (by decide) ?_
              refine lv_istore (lv' := [(10, .int (gI (-1 : Int))), (9, .int (gI x9_483)), (8, .int (gI (1 : Int))), (7, .int (gI q14.1)), (0, .ref (G.1 0)), (1, .ref (G.1 136)), (2, .ref (G.1 137)), (3, .ref (G.1 138)), (4, .ref (G.1 139)), (5, .ref (G.1 140)), (6, .ref (G.1 122))]) hx hb0 dL_isSo_500 hl (by decide) rfl (fun ls hl => ?_)
              refine lv_iconst (v := gI (-1 : Int)) hx hb0 dL_isSo_502 (by decide) ?_
              refine lv_istore (lv' := [(11, .int (gI (-1 : Int))), (10, .int (gI (-1 : Int))), (9, .int (gI x9_483)), (8, .int (gI (1 : Int))), (7, .int (gI q14.1)), (0, .ref (G.1 0)), (1, .ref (G.1 136)), (2, .ref (G.1 137)), (3, .ref (G.1 138)), (4, .ref (G.1 139)), (5, .ref (G.1 140)), (6, .ref (G.1 122))]) hx hb0 dL_isSo_503 hl (by decide) rfl (fun ls hl => ?_)
              refine lv_iconst (v := gI (0 : Int)) hx hb0 dL_isSo_505 (by decide) ?_
              refine lv_istore (lv' := [(12, .int (gI (0 : Int))), (11, .int (gI (-1 : Int))), (10, .int (gI (-1 : Int))), (9, .int (gI x9_483)), (8, .int (gI (1 : Int))), (7, .int (gI q14.1)), (0, .ref (G.1 0)), (1, .ref (G.1 136)), (2, .ref (G.1 137)), (3, .ref (G.1 138)), (4, .ref (G.1 139)), (5, .ref (G.1 140)), (6, .ref (G.1 122))]) hx hb0 dL_isSo_506 hl (by decide) rfl (fun ls hl => ?_)
              have hK590 : ∀ (x11_590 : Int) (x10_590 : Int) (cs590 : Nat) (H : Heap) (locs : List Loc) (ls : Array Slot), cs590 ≤ cs483 + 0 → gH D G s H locs q14.2 μ → lv_has ls 16 [(11, .int (gI x11_590)), (10, .int (gI x10_590)), (9, .int (gI x9_483)), (7, .int (gI q14.1)), (0, .ref (G.1 0)), (1, .ref (G.1 136)), (2, .ref (G.1 137)), (3, .ref (G.1 138)), (4, .ref (G.1 139)), (5, .ref (G.1 140)), (6, .ref (G.1 122))] → (DL_isSoB_K590 q14 (DL_isSoB_L483 (DL_isSoB_K696 q14) q14 f483) x9_483 x11_590 x10_590) = some (r, σ') → W p l e (headSpec (gWs yL_isSo cL_isSo 16 (some (Jvm.ClassFile.FieldType.boolean))) ({ frames := 9, cells := 2801, slots := 16824, locals := 150 } : Room)).room s m args below meth c H locs (cs590 + 1) (6 * cs590 + 24) Q (F0 m 590 ls []) := by
                intro x11_590 x10_590 cs590 H locs ls hb590 hH hl h
                unfold DL_isSoB_K590 at h
                refine lv_iload hx hb0 dL_isSo_590 (lv_at hl 0 rfl) ?_
                have hJ621 : ∀ (t0_621 : Int) (cs621 : Nat) (H : Heap) (locs : List Loc) (ls : Array Slot), cs621 ≤ cs590 + 0 → gH D G s H locs q14.2 μ → lv_has ls 16 [(11, .int (gI x11_590)), (10, .int (gI x10_590)), (9, .int (gI x9_483)), (7, .int (gI q14.1)), (0, .ref (G.1 0)), (1, .ref (G.1 136)), (2, .ref (G.1 137)), (3, .ref (G.1 138)), (4, .ref (G.1 139)), (5, .ref (G.1 140)), (6, .ref (G.1 122))] → (DL_isSoB_J621 q14 (DL_isSoB_L483 (DL_isSoB_K696 q14) q14 f483) x9_483 x11_590 x10_590 t0_621) = some (r, σ') → W p l e (headSpec (gWs yL_isSo cL_isSo 16 (some (Jvm.ClassFile.FieldType.boolean))) ({ frames := 9, cells := 2801, slots := 16824, locals := 150 } : Room)).room s m args below meth c H locs (cs621 + 1) (6 * cs621 + 24) Q (F0 m 621 ls [.int (gI t0_621)]) := by
                  intro t0_621 cs621 H locs ls hb621 hH hl h
                  unfold DL_isSoB_J621 at h
                  refine lv_istore (lv' := [(12, .int (gI t0_621)), (11, .int (gI x11_590)), (10, .int (gI x10_590)), (9, .int (gI x9_483)), (7, .int (gI q14.1)), (0, .ref (G.1 0)), (1, .ref (G.1 136)), (2, .ref (G.1 137)), (3, .ref (G.1 138)), (4, .ref (G.1 139)), (5, .ref (G.1 140)), (6, .ref (G.1 122))]) hx hb0 dL_isSo_621 hl (by decide) rfl (fun ls hl => ?_)
                  refine lv_iload hx hb0 dL_isSo_623 (lv_at hl 2 rfl) ?_
                  have hJ660 : ∀ (t0_660 : Int) (cs660 : Nat) (H : Heap) (locs : List Loc) (ls : Array Slot), cs660 ≤ cs621 + 0 → gH D G s H locs q14.2 μ → lv_has ls 16 [(9, .int (gI x9_483)), (7, .int (gI q14.1)), (0, .ref (G.1 0)), (1, .ref (G.1 136)), (2, .ref (G.1 137)), (3, .ref (G.1 138)), (4, .ref (G.1 139)), (5, .ref (G.1 140)), (6, .ref (G.1 122))] → (DL_isSoB_J660 q14 (DL_isSoB_L483 (DL_isSoB_K696 q14) q14 f483) x9_483 t0_660) = some (r, σ') → W p l e (headSpec (gWs yL_isSo cL_isSo 16 (some (Jvm.ClassFile.FieldType.boolean))) ({ frames := 9, cells := 2801, slots := 16824, locals := 150 } : Room)).room s m args below meth c H locs (cs660 + 1) (6 * cs660 + 24) Q (F0 m 660 ls [.int (gI t0_660)]) := by
                    intro t0_660 cs660 H locs ls hb660 hH hl h
                    unfold DL_isSoB_J660 at h
                    refine lv_istore (lv' := [(13, .int (gI t0_660)), (9, .int (gI x9_483)), (7, .int (gI q14.1)), (0, .ref (G.1 0)), (1, .ref (G.1 136)), (2, .ref (G.1 137)), (3, .ref (G.1 138)), (4, .ref (G.1 139)), (5, .ref (G.1 140)), (6, .ref (G.1 122))]) hx hb0 dL_isSo_660 hl (by decide) rfl (fun ls hl => ?_)
                    refine lv_aload_n hx hb0 dL_isSo_662 rfl (lv_at hl 3 rfl) ?_
                    refine lv_iload hx hb0 dL_isSo_663 (lv_at hl 1 rfl) ?_
                    refine lv_aload_n hx hb0 dL_isSo_665 rfl (lv_at hl 4 rfl) ?_
                    refine lv_iconst (v := gI (0 : Int)) hx hb0 dL_isSo_666 (by decide) ?_
                    refine g_iald hx hb0 hX hH (k := 136) (rfl : gKinds[136]? = _) (by decide) dL_isSo_667 h (fun h => ?_)
                    refine g_idiv hx hb0 dL_isSo_668 h (fun h => ?_)
                    refine lv_iload hx hb0 dL_isSo_669 (lv_at hl 1 rfl) ?_
                    refine lv_aload_n hx hb0 dL_isSo_671 rfl (lv_at hl 4 rfl) ?_
                    refine lv_iconst (v := gI (0 : Int)) hx hb0 dL_isSo_672 (by decide) ?_
                    refine g_iald hx hb0 hX hH (k := 136) (rfl : gKinds[136]? = _) (by decide) dL_isSo_673 h (fun h => ?_)
                    refine g_irem hx hb0 dL_isSo_674 h (fun h => ?_)
                    obtain ⟨q675, e675, h⟩ := gBind_some h
                    refine g_callWi (As := [.ref (G.1 0), .int (gI (x9_483 / (q14.2 136 (Int.toNat (0 : Int))))), .int (gI (x9_483 % (q14.2 136 (Int.toNat (0 : Int)))))]) (rest := []) ⟨hx, hb0, hml, hown, hts⟩ (metL_rowOf l hlt D G q14.2 μ (x9_483 / (q14.2 136 (Int.toNat (0 : Int)))) (x9_483 % (q14.2 136 (Int.toNat (0 : Int)))) q675 e675) (g_cwW 3 hts q_ml_L_131 q_st_L_rowOf q_in_L q_cw_L_rowOf ⟨rfl, rfl⟩ (by decide +kernel) ⟨Nat.le_of_ble_eq_true rfl, Nat.le_of_ble_eq_true rfl⟩) hX hH rfl hl.1 rfl (Nat.le_of_ble_eq_true rfl) dL_isSo_675 ⟨by show _ ≤ 2801; omega, by show _ ≤ 16824; omega⟩ (fun H locs hH => ?_)
                    refine W.widen (k := (cs660 + 2) + 1) (n := 6 * (cs660 + 2) + 24) (by omega) (by omega) ?_
                    refine lv_iload hx hb0 dL_isSo_678 (lv_at hl 0 rfl) ?_
                    refine g_icmp_ne (tgt := 687) hx hb0 dL_isSo_680 (by decide) h (fun h => ?_) (fun h => ?_)
                    · cases h
                    · refine lv_iconst (v := gI (1 : Int)) hx hb0 dL_isSo_683 (by decide) ?_
                      refine lv_goto (tgt := 688) hx hb0 dL_isSo_684 (by decide) ?_
                      refine lv_istore (lv' := [(8, .int (gI (1 : Int))), (13, .int (gI t0_660)), (9, .int (gI x9_483)), (7, .int (gI q14.1)), (0, .ref (G.1 0)), (1, .ref (G.1 136)), (2, .ref (G.1 137)), (3, .ref (G.1 138)), (4, .ref (G.1 139)), (5, .ref (G.1 140)), (6, .ref (G.1 122))]) hx hb0 dL_isSo_688 hl (by decide) rfl (fun ls hl => ?_)
                      refine g_iinc (k := 2) (n := (1 : Int)) (lv' := [(9, .int (gI (x9_483 + (1 : Int)))), (8, .int (gI (1 : Int))), (13, .int (gI t0_660)), (7, .int (gI q14.1)), (0, .ref (G.1 0)), (1, .ref (G.1 136)), (2, .ref (G.1 137)), (3, .ref (G.1 138)), (4, .ref (G.1 139)), (5, .ref (G.1 140)), (6, .ref (G.1 122))]) hx hb0 dL_isSo_690 hl rfl (by decide) rfl (fun ls hl => ?_)
                      refine lv_goto (tgt := 483) hx hb0 dL_isSo_693 (by decide) ?_
                      exact ih483 _ ((cs660 + 2)) _ _ _ (by omega) hH (lv_sub hl [0, 1, 3, 4, 5, 6, 7, 8, 9, 10] rfl) h
                  refine g_if_lt (tgt := 633) hx hb0 dL_isSo_625 (by decide) h (fun h => ?_) (fun h => ?_)
                  · refine lv_iload hx hb0 dL_isSo_633 (lv_at hl 1 rfl) ?_
                    refine g_if_ge (tgt := 642) hx hb0 dL_isSo_635 (by decide) h (fun h => ?_) (fun h => ?_)
                    · refine lv_iload hx hb0 dL_isSo_642 (lv_at hl 0 rfl) ?_
                      have hJ655 : ∀ (t0_655 : Int) (cs655 : Nat) (H : Heap) (locs : List Loc) (ls : Array Slot), cs655 ≤ cs621 + 0 → gH D G s H locs q14.2 μ → lv_has ls 16 [(11, .int (gI x11_590)), (9, .int (gI x9_483)), (7, .int (gI q14.1)), (0, .ref (G.1 0)), (1, .ref (G.1 136)), (2, .ref (G.1 137)), (3, .ref (G.1 138)), (4, .ref (G.1 139)), (5, .ref (G.1 140)), (6, .ref (G.1 122))] → (DL_isSoB_J655 q14 (DL_isSoB_L483 (DL_isSoB_K696 q14) q14 f483) x9_483 x11_590 t0_655) = some (r, σ') → W p l e (headSpec (gWs yL_isSo cL_isSo 16 (some (Jvm.ClassFile.FieldType.boolean))) ({ frames := 9, cells := 2801, slots := 16824, locals := 150 } : Room)).room s m args below meth c H locs (cs655 + 1) (6 * cs655 + 24) Q (F0 m 655 ls [.int (gI t0_655)]) := by
                        intro t0_655 cs655 H locs ls hb655 hH hl h
                        unfold DL_isSoB_J655 at h
                        refine lv_aload_n hx hb0 dL_isSo_655 rfl (lv_at hl 5 rfl) ?_
                        refine lv_iload hx hb0 dL_isSo_656 (lv_at hl 0 rfl) ?_
                        refine g_iald hx hb0 hX hH (k := 137) (rfl : gKinds[137]? = _) (by decide) dL_isSo_658 h (fun h => ?_)
                        refine g_iadd hx hb0 dL_isSo_659 ?_
                        exact hJ660 _ (cs655) _ _ _ (by omega) hH (lv_sub hl [1, 2, 3, 4, 5, 6, 7, 8, 9] rfl) h
                      refine g_if_eq (tgt := 652) hx hb0 dL_isSo_644 (by decide) h (fun h => ?_) (fun h => ?_)
                      · refine lv_sipush (v := gI (200 : Int)) hx hb0 dL_isSo_652 (by decide) ?_
                        exact hJ655 _ (cs621) _ _ _ (by omega) hH (lv_sub hl [1, 3, 4, 5, 6, 7, 8, 9, 10, 11] rfl) h
                      · refine lv_bipush (v := gI (100 : Int)) hx hb0 dL_isSo_647 (by decide) ?_
                        refine lv_goto (tgt := 655) hx hb0 dL_isSo_649 (by decide) ?_
                        exact hJ655 _ (cs621) _ _ _ (by omega) hH (lv_sub hl [1, 3, 4, 5, 6, 7, 8, 9, 10, 11] rfl) h
                    · refine lv_iconst (v := gI (-1 : Int)) hx hb0 dL_isSo_638 (by decide) ?_
                      refine lv_goto (tgt := 660) hx hb0 dL_isSo_639 (by decide) ?_
                      exact hJ660 _ (cs621) _ _ _ (by omega) hH (lv_sub hl [3, 4, 5, 6, 7, 8, 9, 10, 11] rfl) h
                  · refine lv_iload hx hb0 dL_isSo_628 (lv_at hl 2 rfl) ?_
                    refine lv_goto (tgt := 660) hx hb0 dL_isSo_630 (by decide) ?_
                    exact hJ660 _ (cs621) _ _ _ (by omega) hH (lv_sub hl [3, 4, 5, 6, 7, 8, 9, 10, 11] rfl) h
                have hJ620 : ∀  (cs620 : Nat) (H : Heap) (locs : List Loc) (ls : Array Slot), cs620 ≤ cs590 + 0 → gH D G s H locs q14.2 μ → lv_has ls 16 [(11, .int (gI x11_590)), (10, .int (gI x10_590)), (9, .int (gI x9_483)), (7, .int (gI q14.1)), (0, .ref (G.1 0)), (1, .ref (G.1 136)), (2, .ref (G.1 137)), (3, .ref (G.1 138)), (4, .ref (G.1 139)), (5, .ref (G.1 140)), (6, .ref (G.1 122))] → (DL_isSoB_J620 q14 (DL_isSoB_L483 (DL_isSoB_K696 q14) q14 f483) x9_483 x11_590 x10_590) = some (r, σ') → W p l e (headSpec (gWs yL_isSo cL_isSo 16 (some (Jvm.ClassFile.FieldType.boolean))) ({ frames := 9, cells := 2801, slots := 16824, locals := 150 } : Room)).room s m args below meth c H locs (cs620 + 1) (6 * cs620 + 24) Q (F0 m 620 ls []) := by
                  intro cs620 H locs ls hb620 hH hl h
                  unfold DL_isSoB_J620 at h
                  refine lv_iconst (v := gI (0 : Int)) hx hb0 dL_isSo_620 (by decide) ?_
                  exact hJ621 _ (cs620) _ _ _ (by omega) hH (lv_sub hl [0, 1, 2, 3, 4, 5, 6, 7, 8, 9, 10] rfl) h
                refine g_if_lt (tgt := 620) hx hb0 dL_isSo_592 (by decide) h (fun h => ?_) (fun h => ?_)
                · exact hJ620  (cs590) _ _ _ (by omega) hH (lv_sub hl [0, 1, 2, 3, 4, 5, 6, 7, 8, 9, 10] rfl) h
                · refine lv_aload_n hx hb0 dL_isSo_595 rfl (lv_at hl 5 rfl) ?_
                  refine lv_aload_n hx hb0 dL_isSo_596 rfl (lv_at hl 6 rfl) ?_
                  refine lv_aload_n hx hb0 dL_isSo_597 rfl (lv_at hl 7 rfl) ?_
                  refine lv_aload_n hx hb0 dL_isSo_598 rfl (lv_at hl 6 rfl) ?_
                  refine lv_iload hx hb0 dL_isSo_599 (lv_at hl 0 rfl) ?_
                  refine g_iald hx hb0 hX hH (k := 137) (rfl : gKinds[137]? = _) (by decide) dL_isSo_601 h (fun h => ?_)
                  refine lv_sipush (v := gI (6400 : Int)) hx hb0 dL_isSo_602 (by decide) ?_
                  refine g_imul hx hb0 dL_isSo_605 ?_
                  refine lv_iconst (v := gI (1 : Int)) hx hb0 dL_isSo_606 (by decide) ?_
                  refine g_isub hx hb0 dL_isSo_607 ?_
                  obtain ⟨q608, e608, h⟩ := gBind_some h
                  refine g_callSi (As := [.ref (G.1 136), .ref (G.1 137), .ref (G.1 138), .int (gI (((q14.2 137 (Int.toNat x11_590)) * (6400 : Int)) - (1 : Int)))]) (rest := []) ⟨hx, hb0, hml, hown, hts⟩ (metL_next l D G q14.2 μ (((q14.2 137 (Int.toNat x11_590)) * (6400 : Int)) - (1 : Int)) q608 e608) (g_cwS 4 hts q_ml_L_15 q_st_L_next q_in_L q_co_L_next ⟨rfl, rfl⟩ (by decide +kernel) ⟨Nat.le_of_ble_eq_true rfl, Nat.le_of_ble_eq_true rfl⟩) hX hH rfl hl.1 rfl (Nat.le_of_ble_eq_true rfl) dL_isSo_608 ⟨by show _ ≤ 2801; omega, by show _ ≤ 16824; omega⟩ (fun H locs hH => ?_)
                  refine lv_iload hx hb0 dL_isSo_611 (lv_at hl 0 rfl) ?_
                  refine g_icmp_ne (tgt := 620) hx hb0 dL_isSo_613 (by decide) h (fun h => ?_) (fun h => ?_)
                  · exact hJ620  (cs590) _ _ _ (by omega) hH (lv_sub hl [0, 1, 2, 3, 4, 5, 6, 7, 8, 9, 10] rfl) h
                  · refine lv_iconst (v := gI (1 : Int)) hx hb0 dL_isSo_616 (by decide) ?_
                    refine lv_goto (tgt := 621) hx hb0 dL_isSo_617 (by decide) ?_
                    exact hJ621 _ (cs590) _ _ _ (by omega) hH (lv_sub hl [0, 1, 2, 3, 4, 5, 6, 7, 8, 9, 10] rfl) h
              have hL508 : ∀ (f508 : Nat) (x12_508 : Int) (x11_508 : Int) (x10_508 : Int) (cs508 : Nat) (H : Heap) (locs : List Loc) (ls : Array Slot), cs508 ≤ cs483 → gH D G s H locs q14.2 μ → lv_has ls 16 [(12, .int (gI x12_508)), (11, .int (gI x11_508)), (10, .int (gI x10_508)), (9, .int (gI x9_483)), (7, .int (gI q14.1)), (0, .ref (G.1 0)), (1, .ref (G.1 136)), (2, .ref (G.1 137)), (3, .ref (G.1 138)), (4, .ref (G.1 139)), (5, .ref (G.1 140)), (6, .ref (G.1 122))] → (DL_isSoB_L508 (DL_isSoB_K590 q14 (DL_isSoB_L483 (DL_isSoB_K696 q14) q14 f483) x9_483) q14 x9_483 f508 x12_508 x11_508 x10_508) = some (r, σ') → W p l e (headSpec (gWs yL_isSo cL_isSo 16 (some (Jvm.ClassFile.FieldType.boolean))) ({ frames := 9, cells := 2801, slots := 16824, locals := 150 } : Room)).room s m args below meth c H locs (cs508 + 1) (6 * cs508 + 24) Q (F0 m 508 ls []) := by
                intro f508
                induction f508 with
                | zero => intro x12_508 x11_508 x10_508 cs508 H locs ls hb508 hH hl h; cases h
                | succ f508 ih508 =>
                  intro x12_508 x11_508 x10_508 cs508 H locs ls hb508 hH hl h
                  unfold DL_isSoB_L508 at h
                  refine lv_iload hx hb0 dL_isSo_508 (lv_at hl 0 rfl) ?_
                  refine lv_aload_n hx hb0 dL_isSo_510 rfl (lv_at hl 6 rfl) ?_
                  refine lv_iconst (v := gI (4 : Int)) hx hb0 dL_isSo_511 (by decide) ?_
                  refine g_iald hx hb0 hX hH (k := 136) (rfl : gKinds[136]? = _) (by decide) dL_isSo_512 h (fun h => ?_)
                  refine g_icmp_ge (tgt := 590) hx hb0 dL_isSo_513 (by decide) h (fun h => ?_) (fun h => ?_)
                  · exact hK590 _ _ (cs508) _ _ _ (by omega) hH (lv_sub hl [1, 2, 3, 4, 5, 6, 7, 8, 9, 10, 11] rfl) h
                  · refine lv_aload hx hb0 dL_isSo_516 (lv_at hl 11 rfl) ?_
                    refine lv_iload hx hb0 dL_isSo_518 (lv_at hl 0 rfl) ?_
                    refine g_iald hx hb0 hX hH (k := 122) (rfl : gKinds[122]? = _) (by decide) dL_isSo_520 h (fun h => ?_)
                    refine lv_bipush (v := gI (32 : Int)) hx hb0 dL_isSo_521 (by decide) ?_
                    refine lv_iload hx hb0 dL_isSo_523 (lv_at hl 3 rfl) ?_
                    refine lv_aload_n hx hb0 dL_isSo_525 rfl (lv_at hl 6 rfl) ?_
                    refine lv_iconst (v := gI (0 : Int)) hx hb0 dL_isSo_526 (by decide) ?_
                    refine g_iald hx hb0 hX hH (k := 136) (rfl : gKinds[136]? = _) (by decide) dL_isSo_527 h (fun h => ?_)
                    refine g_idiv hx hb0 dL_isSo_528 h (fun h => ?_)
                    refine g_imul hx hb0 dL_isSo_529 ?_
                    refine lv_iload hx hb0 dL_isSo_530 (lv_at hl 3 rfl) ?_
                    refine lv_aload_n hx hb0 dL_isSo_532 rfl (lv_at hl 6 rfl) ?_
                    refine lv_iconst (v := gI (0 : Int)) hx hb0 dL_isSo_533 (by decide) ?_
                    refine g_iald hx hb0 hX hH (k := 136) (rfl : gKinds[136]? = _) (by decide) dL_isSo_534 h (fun h => ?_)
                    refine g_irem hx hb0 dL_isSo_535 h (fun h => ?_)
                    refine g_iadd hx hb0 dL_isSo_536 ?_
                    have hJ547 : ∀ (t0_547 : Int) (cs547 : Nat) (H : Heap) (locs : List Loc) (ls : Array Slot), cs547 ≤ cs508 + 0 → gH D G s H locs q14.2 μ → lv_has ls 16 [(12, .int (gI x12_508)), (11, .int (gI x11_508)), (9, .int (gI x9_483)), (7, .int (gI q14.1)), (0, .ref (G.1 0)), (1, .ref (G.1 136)), (2, .ref (G.1 137)), (3, .ref (G.1 138)), (4, .ref (G.1 139)), (5, .ref (G.1 140)), (6, .ref (G.1 122))] → (DL_isSoB_J547 q14 x9_483 (DL_isSoB_L508 (DL_isSoB_K590 q14 (DL_isSoB_L483 (DL_isSoB_K696 q14) q14 f483) x9_483) q14 x9_483 f508) x12_508 x11_508 t0_547) = some (r, σ') → W p l e (headSpec (gWs yL_isSo cL_isSo 16 (some (Jvm.ClassFile.FieldType.boolean))) ({ frames := 9, cells := 2801, slots := 16824, locals := 150 } : Room)).room s m args below meth c H locs (cs547 + 1) (6 * cs547 + 24) Q (F0 m 547 ls [.int (gI t0_547)]) := by
                      intro t0_547 cs547 H locs ls hb547 hH hl h
                      unfold DL_isSoB_J547 at h
                      refine lv_istore (lv' := [(10, .int (gI t0_547)), (12, .int (gI x12_508)), (11, .int (gI x11_508)), (9, .int (gI x9_483)), (7, .int (gI q14.1)), (0, .ref (G.1 0)), (1, .ref (G.1 136)), (2, .ref (G.1 137)), (3, .ref (G.1 138)), (4, .ref (G.1 139)), (5, .ref (G.1 140)), (6, .ref (G.1 122))]) hx hb0 dL_isSo_547 hl (by decide) rfl (fun ls hl => ?_)
                      refine lv_aload hx hb0 dL_isSo_549 (lv_at hl 11 rfl) ?_
                      refine lv_iload hx hb0 dL_isSo_551 (lv_at hl 1 rfl) ?_
                      refine g_iald hx hb0 hX hH (k := 122) (rfl : gKinds[122]? = _) (by decide) dL_isSo_553 h (fun h => ?_)
                      refine lv_bipush (v := gI (32 : Int)) hx hb0 dL_isSo_554 (by decide) ?_
                      refine lv_iload hx hb0 dL_isSo_556 (lv_at hl 3 rfl) ?_
                      refine lv_aload_n hx hb0 dL_isSo_558 rfl (lv_at hl 6 rfl) ?_
                      refine lv_iconst (v := gI (0 : Int)) hx hb0 dL_isSo_559 (by decide) ?_
                      refine g_iald hx hb0 hX hH (k := 136) (rfl : gKinds[136]? = _) (by decide) dL_isSo_560 h (fun h => ?_)
                      refine g_idiv hx hb0 dL_isSo_561 h (fun h => ?_)
                      refine g_imul hx hb0 dL_isSo_562 ?_
                      refine lv_iload hx hb0 dL_isSo_563 (lv_at hl 3 rfl) ?_
                      refine lv_aload_n hx hb0 dL_isSo_565 rfl (lv_at hl 6 rfl) ?_
                      refine lv_iconst (v := gI (0 : Int)) hx hb0 dL_isSo_566 (by decide) ?_
                      refine g_iald hx hb0 hX hH (k := 136) (rfl : gKinds[136]? = _) (by decide) dL_isSo_567 h (fun h => ?_)
                      refine g_irem hx hb0 dL_isSo_568 h (fun h => ?_)
                      refine g_iadd hx hb0 dL_isSo_569 ?_
                      refine lv_iconst (v := gI (1 : Int)) hx hb0 dL_isSo_570 (by decide) ?_
                      refine g_iadd hx hb0 dL_isSo_571 ?_
                      have hJ582 : ∀ (t0_582 : Int) (cs582 : Nat) (H : Heap) (locs : List Loc) (ls : Array Slot), cs582 ≤ cs547 + 0 → gH D G s H locs q14.2 μ → lv_has ls 16 [(10, .int (gI t0_547)), (12, .int (gI x12_508)), (9, .int (gI x9_483)), (7, .int (gI q14.1)), (0, .ref (G.1 0)), (1, .ref (G.1 136)), (2, .ref (G.1 137)), (3, .ref (G.1 138)), (4, .ref (G.1 139)), (5, .ref (G.1 140)), (6, .ref (G.1 122))] → (DL_isSoB_J582 (DL_isSoB_L508 (DL_isSoB_K590 q14 (DL_isSoB_L483 (DL_isSoB_K696 q14) q14 f483) x9_483) q14 x9_483 f508) x12_508 t0_547 t0_582) = some (r, σ') → W p l e (headSpec (gWs yL_isSo cL_isSo 16 (some (Jvm.ClassFile.FieldType.boolean))) ({ frames := 9, cells := 2801, slots := 16824, locals := 150 } : Room)).room s m args below meth c H locs (cs582 + 1) (6 * cs582 + 24) Q (F0 m 582 ls [.int (gI t0_582)]) := by
                        intro t0_582 cs582 H locs ls hb582 hH hl h
                        unfold DL_isSoB_J582 at h
                        refine lv_istore (lv' := [(11, .int (gI t0_582)), (10, .int (gI t0_547)), (12, .int (gI x12_508)), (9, .int (gI x9_483)), (7, .int (gI q14.1)), (0, .ref (G.1 0)), (1, .ref (G.1 136)), (2, .ref (G.1 137)), (3, .ref (G.1 138)), (4, .ref (G.1 139)), (5, .ref (G.1 140)), (6, .ref (G.1 122))]) hx hb0 dL_isSo_582 hl (by decide) rfl (fun ls hl => ?_)
                        refine g_iinc (k := 2) (n := (1 : Int)) (lv' := [(12, .int (gI (x12_508 + (1 : Int)))), (11, .int (gI t0_582)), (10, .int (gI t0_547)), (9, .int (gI x9_483)), (7, .int (gI q14.1)), (0, .ref (G.1 0)), (1, .ref (G.1 136)), (2, .ref (G.1 137)), (3, .ref (G.1 138)), (4, .ref (G.1 139)), (5, .ref (G.1 140)), (6, .ref (G.1 122))]) hx hb0 dL_isSo_584 hl rfl (by decide) rfl (fun ls hl => ?_)
                        refine lv_goto (tgt := 508) hx hb0 dL_isSo_587 (by decide) ?_
                        exact ih508 _ _ _ (cs582) _ _ _ (by omega) hH (lv_sub hl [0, 1, 2, 3, 4, 5, 6, 7, 8, 9, 10, 11] rfl) h
                      refine g_icmp_ne (tgt := 580) hx hb0 dL_isSo_572 (by decide) h (fun h => ?_) (fun h => ?_)
                      · refine lv_iload hx hb0 dL_isSo_580 (lv_at hl 2 rfl) ?_
                        exact hJ582 _ (cs547) _ _ _ (by omega) hH (lv_sub hl [0, 1, 3, 4, 5, 6, 7, 8, 9, 10, 11] rfl) h
                      · refine lv_iload hx hb0 dL_isSo_575 (lv_at hl 1 rfl) ?_
                        refine lv_goto (tgt := 582) hx hb0 dL_isSo_577 (by decide) ?_
                        exact hJ582 _ (cs547) _ _ _ (by omega) hH (lv_sub hl [0, 1, 3, 4, 5, 6, 7, 8, 9, 10, 11] rfl) h
                    refine g_icmp_ne (tgt := 545) hx hb0 dL_isSo_537 (by decide) h (fun h => ?_) (fun h => ?_)
                    · refine lv_iload hx hb0 dL_isSo_545 (lv_at hl 2 rfl) ?_
                      exact hJ547 _ (cs508) _ _ _ (by omega) hH (lv_sub hl [0, 1, 3, 4, 5, 6, 7, 8, 9, 10, 11] rfl) h
                    · refine lv_iload hx hb0 dL_isSo_540 (lv_at hl 0 rfl) ?_
                      refine lv_goto (tgt := 547) hx hb0 dL_isSo_542 (by decide) ?_
                      exact hJ547 _ (cs508) _ _ _ (by omega) hH (lv_sub hl [0, 1, 3, 4, 5, 6, 7, 8, 9, 10, 11] rfl) h
              exact hL508 gFuel _ _ _ (cs483) _ _ _ (by omega) hH (lv_sub hl [0, 1, 2, 3, 5, 6, 7, 8, 9, 10, 11, 12] rfl) h
        exact hL483 481 _ (cs480) _ _ _ (by omega) hH (lv_sub hl [0, 1, 2, 3, 4, 5, 6, 7, 8, 9] rfl) h
      have hL79 : ∀ (f79 : Nat) (x9_79 : Int) (cs79 : Nat) (H : Heap) (locs : List Loc) (ls : Array Slot), cs79 + 73 * f79 ≤ cs76 + 1825 → gH D G s H locs q14.2 μ → lv_has ls 16 [(9, .int (gI x9_79)), (8, .int (gI (1 : Int))), (7, .int (gI q14.1)), (0, .ref (G.1 0)), (1, .ref (G.1 136)), (2, .ref (G.1 137)), (3, .ref (G.1 138)), (4, .ref (G.1 139)), (5, .ref (G.1 140)), (6, .ref (G.1 122))] → (DL_isSoB_L79 (DL_isSoB_K480 q14) q14 f79 x9_79) = some (r, σ') → W p l e (headSpec (gWs yL_isSo cL_isSo 16 (some (Jvm.ClassFile.FieldType.boolean))) ({ frames := 9, cells := 2801, slots := 16824, locals := 150 } : Room)).room s m args below meth c H locs (cs79 + 1) (6 * cs79 + 24) Q (F0 m 79 ls []) := by
        intro f79
        induction f79 with
        | zero => intro x9_79 cs79 H locs ls hb79 hH hl h; cases h
        | succ f79 ih79 =>
          intro x9_79 cs79 H locs ls hb79 hH hl h
          unfold DL_isSoB_L79 at h
          refine lv_iload hx hb0 dL_isSo_79 (lv_at hl 0 rfl) ?_
          refine lv_aload_n hx hb0 dL_isSo_81 rfl (lv_at hl 4 rfl) ?_
          refine lv_iconst (v := gI (4 : Int)) hx hb0 dL_isSo_82 (by decide) ?_
          refine g_iald hx hb0 hX hH (k := 136) (rfl : gKinds[136]? = _) (by decide) dL_isSo_83 h (fun h => ?_)
          refine g_icmp_ge (tgt := 480) hx hb0 dL_isSo_84 (by decide) h (fun h => ?_) (fun h => ?_)
          · exact hK480  (cs79) _ _ _ (by omega) hH (lv_sub hl [1, 2, 3, 4, 5, 6, 7, 8, 9] rfl) h
          · refine lv_iload hx hb0 dL_isSo_87 (lv_at hl 1 rfl) ?_
            refine lv_if_eq (tgt := 480) hx hb0 dL_isSo_89 (by decide) (fun c1 => absurd c1 (by decide +kernel)) (fun _ => ?_)
            refine lv_aload_n hx hb0 dL_isSo_92 rfl (lv_at hl 6 rfl) ?_
            refine lv_aload hx hb0 dL_isSo_93 (lv_at hl 7 rfl) ?_
            refine lv_iload hx hb0 dL_isSo_95 (lv_at hl 0 rfl) ?_
            obtain ⟨q97, e97, h⟩ := gBind_some h
            refine g_callSi (As := [.ref (G.1 138), .ref (G.1 139), .int (gI x9_79)]) (rest := []) ⟨hx, hb0, hml, hown, hts⟩ (metL_last l D G q14.2 μ x9_79 q97 e97) (g_cwS 3 hts q_ml_L_22 q_st_L_last q_in_L q_co_L_last ⟨rfl, rfl⟩ (by decide +kernel) ⟨Nat.le_of_ble_eq_true rfl, Nat.le_of_ble_eq_true rfl⟩) hX hH rfl hl.1 rfl (Nat.le_of_ble_eq_true rfl) dL_isSo_97 ⟨by show _ ≤ 2801; omega, by show _ ≤ 16824; omega⟩ (fun H locs hH => ?_)
            refine lv_aload_n hx hb0 dL_isSo_100 rfl (lv_at hl 4 rfl) ?_
            refine lv_iconst (v := gI (1 : Int)) hx hb0 dL_isSo_101 (by decide) ?_
            refine g_iald hx hb0 hX hH (k := 136) (rfl : gKinds[136]? = _) (by decide) dL_isSo_102 h (fun h => ?_)
            refine g_idiv hx hb0 dL_isSo_103 h (fun h => ?_)
            refine lv_aload_n hx hb0 dL_isSo_104 rfl (lv_at hl 6 rfl) ?_
            refine lv_iload hx hb0 dL_isSo_105 (lv_at hl 0 rfl) ?_
            refine g_iald hx hb0 hX hH (k := 138) (rfl : gKinds[138]? = _) (by decide) dL_isSo_107 h (fun h => ?_)
            refine lv_aload_n hx hb0 dL_isSo_108 rfl (lv_at hl 4 rfl) ?_
            refine lv_iconst (v := gI (1 : Int)) hx hb0 dL_isSo_109 (by decide) ?_
            refine g_iald hx hb0 hX hH (k := 136) (rfl : gKinds[136]? = _) (by decide) dL_isSo_110 h (fun h => ?_)
            refine g_idiv hx hb0 dL_isSo_111 h (fun h => ?_)
            refine g_isub hx hb0 dL_isSo_112 ?_
            refine lv_iconst (v := gI (1 : Int)) hx hb0 dL_isSo_113 (by decide) ?_
            refine g_iadd hx hb0 dL_isSo_114 ?_
            refine lv_istore (lv' := [(10, .int (gI (((q97 / (q14.2 136 (Int.toNat (1 : Int)))) - ((q14.2 138 (Int.toNat x9_79)) / (q14.2 136 (Int.toNat (1 : Int))))) + (1 : Int)))), (9, .int (gI x9_79)), (8, .int (gI (1 : Int))), (7, .int (gI q14.1)), (0, .ref (G.1 0)), (1, .ref (G.1 136)), (2, .ref (G.1 137)), (3, .ref (G.1 138)), (4, .ref (G.1 139)), (5, .ref (G.1 140)), (6, .ref (G.1 122))]) hx hb0 dL_isSo_115 hl (by decide) rfl (fun ls hl => ?_)
            refine lv_iconst (v := gI (0 : Int)) hx hb0 dL_isSo_117 (by decide) ?_
            refine lv_istore (lv' := [(11, .int (gI (0 : Int))), (10, .int (gI (((q97 / (q14.2 136 (Int.toNat (1 : Int)))) - ((q14.2 138 (Int.toNat x9_79)) / (q14.2 136 (Int.toNat (1 : Int))))) + (1 : Int)))), (9, .int (gI x9_79)), (8, .int (gI (1 : Int))), (7, .int (gI q14.1)), (0, .ref (G.1 0)), (1, .ref (G.1 136)), (2, .ref (G.1 137)), (3, .ref (G.1 138)), (4, .ref (G.1 139)), (5, .ref (G.1 140)), (6, .ref (G.1 122))]) hx hb0 dL_isSo_118 hl (by decide) rfl (fun ls hl => ?_)
            refine lv_iconst (v := gI (0 : Int)) hx hb0 dL_isSo_120 (by decide) ?_
            refine lv_istore (lv' := [(12, .int (gI (0 : Int))), (11, .int (gI (0 : Int))), (10, .int (gI (((q97 / (q14.2 136 (Int.toNat (1 : Int)))) - ((q14.2 138 (Int.toNat x9_79)) / (q14.2 136 (Int.toNat (1 : Int))))) + (1 : Int)))), (9, .int (gI x9_79)), (8, .int (gI (1 : Int))), (7, .int (gI q14.1)), (0, .ref (G.1 0)), (1, .ref (G.1 136)), (2, .ref (G.1 137)), (3, .ref (G.1 138)), (4, .ref (G.1 139)), (5, .ref (G.1 140)), (6, .ref (G.1 122))]) hx hb0 dL_isSo_121 hl (by decide) rfl (fun ls hl => ?_)
            have hK189 : ∀ (x11_189 : Int) (cs189 : Nat) (H : Heap) (locs : List Loc) (ls : Array Slot), cs189 ≤ cs79 + 0 → gH D G s H locs q14.2 μ → lv_has ls 16 [(11, .int (gI x11_189)), (10, .int (gI (((q97 / (q14.2 136 (Int.toNat (1 : Int)))) - ((q14.2 138 (Int.toNat x9_79)) / (q14.2 136 (Int.toNat (1 : Int))))) + (1 : Int)))), (9, .int (gI x9_79)), (7, .int (gI q14.1)), (0, .ref (G.1 0)), (1, .ref (G.1 136)), (2, .ref (G.1 137)), (3, .ref (G.1 138)), (4, .ref (G.1 139)), (5, .ref (G.1 140)), (6, .ref (G.1 122))] → (DL_isSoB_K189 q14 (DL_isSoB_L79 (DL_isSoB_K480 q14) q14 f79) x9_79 q97 x11_189) = some (r, σ') → W p l e (headSpec (gWs yL_isSo cL_isSo 16 (some (Jvm.ClassFile.FieldType.boolean))) ({ frames := 9, cells := 2801, slots := 16824, locals := 150 } : Room)).room s m args below meth c H locs (cs189 + 1) (6 * cs189 + 24) Q (F0 m 189 ls []) := by
              intro x11_189 cs189 H locs ls hb189 hH hl h
              unfold DL_isSoB_K189 at h
              refine lv_aload_n hx hb0 dL_isSo_189 rfl (lv_at hl 4 rfl) ?_
              refine lv_iload hx hb0 dL_isSo_190 (lv_at hl 2 rfl) ?_
              refine lv_iconst (v := gI (0 : Int)) hx hb0 dL_isSo_192 (by decide) ?_
              obtain ⟨q193, e193, h⟩ := gBind_some h
              refine g_callWi (As := [.ref (G.1 0), .int (gI x9_79), .int (gI (0 : Int))]) (rest := []) ⟨hx, hb0, hml, hown, hts⟩ (metL_taskOf l hlt D G q14.2 μ x9_79 (0 : Int) q193 e193) (g_cwW 3 hts q_ml_L_122 q_st_L_taskOf q_in_L q_cw_L_taskOf ⟨rfl, rfl⟩ (by decide +kernel) ⟨Nat.le_of_ble_eq_true rfl, Nat.le_of_ble_eq_true rfl⟩) hX hH rfl hl.1 rfl (Nat.le_of_ble_eq_true rfl) dL_isSo_193 ⟨by show _ ≤ 2801; omega, by show _ ≤ 16824; omega⟩ (fun H locs hH => ?_)
              refine W.widen (k := (cs189 + 2) + 1) (n := 6 * (cs189 + 2) + 24) (by omega) (by omega) ?_
              refine lv_aload_n hx hb0 dL_isSo_196 rfl (lv_at hl 6 rfl) ?_
              refine lv_iload hx hb0 dL_isSo_197 (lv_at hl 2 rfl) ?_
              refine g_iald hx hb0 hX hH (k := 137) (rfl : gKinds[137]? = _) (by decide) dL_isSo_199 h (fun h => ?_)
              refine g_icmp_ne (tgt := 314) hx hb0 dL_isSo_200 (by decide) h (fun h => ?_) (fun h => ?_)
              · cases h
              · refine lv_aload_n hx hb0 dL_isSo_203 rfl (lv_at hl 4 rfl) ?_
                refine lv_iload hx hb0 dL_isSo_204 (lv_at hl 2 rfl) ?_
                refine lv_iconst (v := gI (1 : Int)) hx hb0 dL_isSo_206 (by decide) ?_
                obtain ⟨q207, e207, h⟩ := gBind_some h
                refine g_callWi (As := [.ref (G.1 0), .int (gI x9_79), .int (gI (1 : Int))]) (rest := []) ⟨hx, hb0, hml, hown, hts⟩ (metL_taskOf l hlt D G q14.2 μ x9_79 (1 : Int) q207 e207) (g_cwW 3 hts q_ml_L_122 q_st_L_taskOf q_in_L q_cw_L_taskOf ⟨rfl, rfl⟩ (by decide +kernel) ⟨Nat.le_of_ble_eq_true rfl, Nat.le_of_ble_eq_true rfl⟩) hX hH rfl hl.1 rfl (Nat.le_of_ble_eq_true rfl) dL_isSo_207 ⟨by show _ ≤ 2801; omega, by show _ ≤ 16824; omega⟩ (fun H locs hH => ?_)
                refine W.widen (k := ((cs189 + 2) + 2) + 1) (n := 6 * ((cs189 + 2) + 2) + 24) (by omega) (by omega) ?_
                refine lv_aload_n hx hb0 dL_isSo_210 rfl (lv_at hl 7 rfl) ?_
                refine lv_iload hx hb0 dL_isSo_211 (lv_at hl 2 rfl) ?_
                refine g_iald hx hb0 hX hH (k := 138) (rfl : gKinds[138]? = _) (by decide) dL_isSo_213 h (fun h => ?_)
                refine g_icmp_ne (tgt := 314) hx hb0 dL_isSo_214 (by decide) h (fun h => ?_) (fun h => ?_)
                · cases h
                · refine lv_aload_n hx hb0 dL_isSo_217 rfl (lv_at hl 4 rfl) ?_
                  refine lv_iload hx hb0 dL_isSo_218 (lv_at hl 2 rfl) ?_
                  refine lv_iconst (v := gI (2 : Int)) hx hb0 dL_isSo_220 (by decide) ?_
                  obtain ⟨q221, e221, h⟩ := gBind_some h
                  refine g_callWi (As := [.ref (G.1 0), .int (gI x9_79), .int (gI (2 : Int))]) (rest := []) ⟨hx, hb0, hml, hown, hts⟩ (metL_taskOf l hlt D G q14.2 μ x9_79 (2 : Int) q221 e221) (g_cwW 3 hts q_ml_L_122 q_st_L_taskOf q_in_L q_cw_L_taskOf ⟨rfl, rfl⟩ (by decide +kernel) ⟨Nat.le_of_ble_eq_true rfl, Nat.le_of_ble_eq_true rfl⟩) hX hH rfl hl.1 rfl (Nat.le_of_ble_eq_true rfl) dL_isSo_221 ⟨by show _ ≤ 2801; omega, by show _ ≤ 16824; omega⟩ (fun H locs hH => ?_)
                  refine W.widen (k := (((cs189 + 2) + 2) + 2) + 1) (n := 6 * (((cs189 + 2) + 2) + 2) + 24) (by omega) (by omega) ?_
                  refine lv_aload hx hb0 dL_isSo_224 (lv_at hl 8 rfl) ?_
                  refine lv_iload hx hb0 dL_isSo_226 (lv_at hl 2 rfl) ?_
                  refine g_iald hx hb0 hX hH (k := 139) (rfl : gKinds[139]? = _) (by decide) dL_isSo_228 h (fun h => ?_)
                  refine g_icmp_ne (tgt := 314) hx hb0 dL_isSo_229 (by decide) h (fun h => ?_) (fun h => ?_)
                  · cases h
                  · refine lv_aload_n hx hb0 dL_isSo_232 rfl (lv_at hl 4 rfl) ?_
                    refine lv_iload hx hb0 dL_isSo_233 (lv_at hl 2 rfl) ?_
                    refine lv_iconst (v := gI (3 : Int)) hx hb0 dL_isSo_235 (by decide) ?_
                    obtain ⟨q236, e236, h⟩ := gBind_some h
                    refine g_callWi (As := [.ref (G.1 0), .int (gI x9_79), .int (gI (3 : Int))]) (rest := []) ⟨hx, hb0, hml, hown, hts⟩ (metL_taskOf l hlt D G q14.2 μ x9_79 (3 : Int) q236 e236) (g_cwW 3 hts q_ml_L_122 q_st_L_taskOf q_in_L q_cw_L_taskOf ⟨rfl, rfl⟩ (by decide +kernel) ⟨Nat.le_of_ble_eq_true rfl, Nat.le_of_ble_eq_true rfl⟩) hX hH rfl hl.1 rfl (Nat.le_of_ble_eq_true rfl) dL_isSo_236 ⟨by show _ ≤ 2801; omega, by show _ ≤ 16824; omega⟩ (fun H locs hH => ?_)
                    refine W.widen (k := ((((cs189 + 2) + 2) + 2) + 2) + 1) (n := 6 * ((((cs189 + 2) + 2) + 2) + 2) + 24) (by omega) (by omega) ?_
                    refine lv_aload_n hx hb0 dL_isSo_239 rfl (lv_at hl 7 rfl) ?_
                    refine lv_aload hx hb0 dL_isSo_240 (lv_at hl 8 rfl) ?_
                    refine lv_iload hx hb0 dL_isSo_242 (lv_at hl 2 rfl) ?_
                    obtain ⟨q244, e244, h⟩ := gBind_some h
                    refine g_callSi (As := [.ref (G.1 138), .ref (G.1 139), .int (gI x9_79)]) (rest := [.int (gI q236)]) ⟨hx, hb0, hml, hown, hts⟩ (metL_last l D G q14.2 μ x9_79 q244 e244) (g_cwS 3 hts q_ml_L_22 q_st_L_last q_in_L q_co_L_last ⟨rfl, rfl⟩ (by decide +kernel) ⟨Nat.le_of_ble_eq_true rfl, Nat.le_of_ble_eq_true rfl⟩) hX hH rfl hl.1 rfl (Nat.le_of_ble_eq_true rfl) dL_isSo_244 ⟨by show _ ≤ 2801; omega, by show _ ≤ 16824; omega⟩ (fun H locs hH => ?_)
                    refine g_icmp_ne (tgt := 314) hx hb0 dL_isSo_247 (by decide) h (fun h => ?_) (fun h => ?_)
                    · cases h
                    · refine lv_aload_n hx hb0 dL_isSo_250 rfl (lv_at hl 4 rfl) ?_
                      refine lv_iload hx hb0 dL_isSo_251 (lv_at hl 2 rfl) ?_
                      refine lv_iconst (v := gI (4 : Int)) hx hb0 dL_isSo_253 (by decide) ?_
                      obtain ⟨q254, e254, h⟩ := gBind_some h
                      refine g_callWi (As := [.ref (G.1 0), .int (gI x9_79), .int (gI (4 : Int))]) (rest := []) ⟨hx, hb0, hml, hown, hts⟩ (metL_taskOf l hlt D G q14.2 μ x9_79 (4 : Int) q254 e254) (g_cwW 3 hts q_ml_L_122 q_st_L_taskOf q_in_L q_cw_L_taskOf ⟨rfl, rfl⟩ (by decide +kernel) ⟨Nat.le_of_ble_eq_true rfl, Nat.le_of_ble_eq_true rfl⟩) hX hH rfl hl.1 rfl (Nat.le_of_ble_eq_true rfl) dL_isSo_254 ⟨by show _ ≤ 2801; omega, by show _ ≤ 16824; omega⟩ (fun H locs hH => ?_)
                      refine W.widen (k := (((((cs189 + 2) + 2) + 2) + 2) + 2) + 1) (n := 6 * (((((cs189 + 2) + 2) + 2) + 2) + 2) + 24) (by omega) (by omega) ?_
                      refine lv_aload hx hb0 dL_isSo_257 (lv_at hl 10 rfl) ?_
                      refine lv_iload hx hb0 dL_isSo_259 (lv_at hl 2 rfl) ?_
                      refine g_iald hx hb0 hX hH (k := 122) (rfl : gKinds[122]? = _) (by decide) dL_isSo_261 h (fun h => ?_)
                      refine lv_bipush (v := gI (32 : Int)) hx hb0 dL_isSo_262 (by decide) ?_
                      refine g_idiv hx hb0 dL_isSo_264 h (fun h => ?_)
                      refine g_icmp_ne (tgt := 314) hx hb0 dL_isSo_265 (by decide) h (fun h => ?_) (fun h => ?_)
                      · cases h
                      · refine lv_aload_n hx hb0 dL_isSo_268 rfl (lv_at hl 4 rfl) ?_
                        refine lv_iload hx hb0 dL_isSo_269 (lv_at hl 2 rfl) ?_
                        refine lv_iconst (v := gI (5 : Int)) hx hb0 dL_isSo_271 (by decide) ?_
                        obtain ⟨q272, e272, h⟩ := gBind_some h
                        refine g_callWi (As := [.ref (G.1 0), .int (gI x9_79), .int (gI (5 : Int))]) (rest := []) ⟨hx, hb0, hml, hown, hts⟩ (metL_taskOf l hlt D G q14.2 μ x9_79 (5 : Int) q272 e272) (g_cwW 3 hts q_ml_L_122 q_st_L_taskOf q_in_L q_cw_L_taskOf ⟨rfl, rfl⟩ (by decide +kernel) ⟨Nat.le_of_ble_eq_true rfl, Nat.le_of_ble_eq_true rfl⟩) hX hH rfl hl.1 rfl (Nat.le_of_ble_eq_true rfl) dL_isSo_272 ⟨by show _ ≤ 2801; omega, by show _ ≤ 16824; omega⟩ (fun H locs hH => ?_)
                        refine W.widen (k := ((((((cs189 + 2) + 2) + 2) + 2) + 2) + 2) + 1) (n := 6 * ((((((cs189 + 2) + 2) + 2) + 2) + 2) + 2) + 24) (by omega) (by omega) ?_
                        refine lv_aload hx hb0 dL_isSo_275 (lv_at hl 10 rfl) ?_
                        refine lv_iload hx hb0 dL_isSo_277 (lv_at hl 2 rfl) ?_
                        refine g_iald hx hb0 hX hH (k := 122) (rfl : gKinds[122]? = _) (by decide) dL_isSo_279 h (fun h => ?_)
                        refine lv_bipush (v := gI (32 : Int)) hx hb0 dL_isSo_280 (by decide) ?_
                        refine g_irem hx hb0 dL_isSo_282 h (fun h => ?_)
                        refine g_icmp_ne (tgt := 314) hx hb0 dL_isSo_283 (by decide) h (fun h => ?_) (fun h => ?_)
                        · cases h
                        · refine lv_aload_n hx hb0 dL_isSo_286 rfl (lv_at hl 4 rfl) ?_
                          refine lv_iload hx hb0 dL_isSo_287 (lv_at hl 2 rfl) ?_
                          refine lv_bipush (v := gI (6 : Int)) hx hb0 dL_isSo_289 (by decide) ?_
                          obtain ⟨q291, e291, h⟩ := gBind_some h
                          refine g_callWi (As := [.ref (G.1 0), .int (gI x9_79), .int (gI (6 : Int))]) (rest := []) ⟨hx, hb0, hml, hown, hts⟩ (metL_taskOf l hlt D G q14.2 μ x9_79 (6 : Int) q291 e291) (g_cwW 3 hts q_ml_L_122 q_st_L_taskOf q_in_L q_cw_L_taskOf ⟨rfl, rfl⟩ (by decide +kernel) ⟨Nat.le_of_ble_eq_true rfl, Nat.le_of_ble_eq_true rfl⟩) hX hH rfl hl.1 rfl (Nat.le_of_ble_eq_true rfl) dL_isSo_291 ⟨by show _ ≤ 2801; omega, by show _ ≤ 16824; omega⟩ (fun H locs hH => ?_)
                          refine W.widen (k := (((((((cs189 + 2) + 2) + 2) + 2) + 2) + 2) + 2) + 1) (n := 6 * (((((((cs189 + 2) + 2) + 2) + 2) + 2) + 2) + 2) + 24) (by omega) (by omega) ?_
                          refine lv_iload hx hb0 dL_isSo_294 (lv_at hl 1 rfl) ?_
                          refine g_icmp_ne (tgt := 314) hx hb0 dL_isSo_296 (by decide) h (fun h => ?_) (fun h => ?_)
                          · cases h
                          · refine lv_aload_n hx hb0 dL_isSo_299 rfl (lv_at hl 4 rfl) ?_
                            refine lv_iload hx hb0 dL_isSo_300 (lv_at hl 2 rfl) ?_
                            obtain ⟨q302, e302, h⟩ := gBind_some h
                            refine g_callWi (As := [.ref (G.1 0), .int (gI x9_79)]) (rest := []) ⟨hx, hb0, hml, hown, hts⟩ (metL_delayOf l hlt D G q14.2 μ x9_79 q302 e302) (g_cwW 2 hts q_ml_L_125 q_st_L_delayOf q_in_L q_cw_L_delayOf ⟨rfl, rfl⟩ (by decide +kernel) ⟨Nat.le_of_ble_eq_true rfl, Nat.le_of_ble_eq_true rfl⟩) hX hH rfl hl.1 rfl (Nat.le_of_ble_eq_true rfl) dL_isSo_302 ⟨by show _ ≤ 2801; omega, by show _ ≤ 16824; omega⟩ (fun H locs hH => ?_)
                            refine W.widen (k := ((((((((cs189 + 2) + 2) + 2) + 2) + 2) + 2) + 2) + 1) + 1) (n := 6 * ((((((((cs189 + 2) + 2) + 2) + 2) + 2) + 2) + 2) + 1) + 24) (by omega) (by omega) ?_
                            refine lv_iload hx hb0 dL_isSo_305 (lv_at hl 0 rfl) ?_
                            refine g_icmp_ne (tgt := 314) hx hb0 dL_isSo_307 (by decide) h (fun h => ?_) (fun h => ?_)
                            · cases h
                            · refine lv_iconst (v := gI (1 : Int)) hx hb0 dL_isSo_310 (by decide) ?_
                              refine lv_goto (tgt := 315) hx hb0 dL_isSo_311 (by decide) ?_
                              refine lv_istore (lv' := [(8, .int (gI (1 : Int))), (11, .int (gI x11_189)), (10, .int (gI (((q97 / (q14.2 136 (Int.toNat (1 : Int)))) - ((q14.2 138 (Int.toNat x9_79)) / (q14.2 136 (Int.toNat (1 : Int))))) + (1 : Int)))), (9, .int (gI x9_79)), (7, .int (gI q14.1)), (0, .ref (G.1 0)), (1, .ref (G.1 136)), (2, .ref (G.1 137)), (3, .ref (G.1 138)), (4, .ref (G.1 139)), (5, .ref (G.1 140)), (6, .ref (G.1 122))]) hx hb0 dL_isSo_315 hl (by decide) rfl (fun ls hl => ?_)
                              refine lv_iconst (v := gI (0 : Int)) hx hb0 dL_isSo_317 (by decide) ?_
                              refine lv_istore (lv' := [(12, .int (gI (0 : Int))), (8, .int (gI (1 : Int))), (11, .int (gI x11_189)), (10, .int (gI (((q97 / (q14.2 136 (Int.toNat (1 : Int)))) - ((q14.2 138 (Int.toNat x9_79)) / (q14.2 136 (Int.toNat (1 : Int))))) + (1 : Int)))), (9, .int (gI x9_79)), (7, .int (gI q14.1)), (0, .ref (G.1 0)), (1, .ref (G.1 136)), (2, .ref (G.1 137)), (3, .ref (G.1 138)), (4, .ref (G.1 139)), (5, .ref (G.1 140)), (6, .ref (G.1 122))]) hx hb0 dL_isSo_318 hl (by decide) rfl (fun ls hl => ?_)
                              refine lv_iconst (v := gI (0 : Int)) hx hb0 dL_isSo_320 (by decide) ?_
                              refine lv_istore (lv' := [(13, .int (gI (0 : Int))), (12, .int (gI (0 : Int))), (8, .int (gI (1 : Int))), (11, .int (gI x11_189)), (10, .int (gI (((q97 / (q14.2 136 (Int.toNat (1 : Int)))) - ((q14.2 138 (Int.toNat x9_79)) / (q14.2 136 (Int.toNat (1 : Int))))) + (1 : Int)))), (9, .int (gI x9_79)), (7, .int (gI q14.1)), (0, .ref (G.1 0)), (1, .ref (G.1 136)), (2, .ref (G.1 137)), (3, .ref (G.1 138)), (4, .ref (G.1 139)), (5, .ref (G.1 140)), (6, .ref (G.1 122))]) hx hb0 dL_isSo_321 hl (by decide) rfl (fun ls hl => ?_)
                              have hK438 : ∀ (x12_438 : Int) (cs438 : Nat) (H : Heap) (locs : List Loc) (ls : Array Slot), cs438 ≤ ((((((((cs189 + 2) + 2) + 2) + 2) + 2) + 2) + 2) + 1) + 56 → gH D G s H locs q14.2 μ → lv_has ls 16 [(12, .int (gI x12_438)), (8, .int (gI (1 : Int))), (10, .int (gI (((q97 / (q14.2 136 (Int.toNat (1 : Int)))) - ((q14.2 138 (Int.toNat x9_79)) / (q14.2 136 (Int.toNat (1 : Int))))) + (1 : Int)))), (9, .int (gI x9_79)), (7, .int (gI q14.1)), (0, .ref (G.1 0)), (1, .ref (G.1 136)), (2, .ref (G.1 137)), (3, .ref (G.1 138)), (4, .ref (G.1 139)), (5, .ref (G.1 140)), (6, .ref (G.1 122))] → (DL_isSoB_K438 q14 (DL_isSoB_L79 (DL_isSoB_K480 q14) q14 f79) x9_79 q97 x12_438) = some (r, σ') → W p l e (headSpec (gWs yL_isSo cL_isSo 16 (some (Jvm.ClassFile.FieldType.boolean))) ({ frames := 9, cells := 2801, slots := 16824, locals := 150 } : Room)).room s m args below meth c H locs (cs438 + 1) (6 * cs438 + 24) Q (F0 m 438 ls []) := by
                                intro x12_438 cs438 H locs ls hb438 hH hl h
                                unfold DL_isSoB_K438 at h
                                refine lv_iload hx hb0 dL_isSo_438 (lv_at hl 1 rfl) ?_
                                refine lv_if_eq (tgt := 471) hx hb0 dL_isSo_440 (by decide) (fun c1 => absurd c1 (by decide +kernel)) (fun _ => ?_)
                                refine lv_iload hx hb0 dL_isSo_443 (lv_at hl 0 rfl) ?_
                                refine lv_aload hx hb0 dL_isSo_445 (lv_at hl 9 rfl) ?_
                                refine lv_iload hx hb0 dL_isSo_447 (lv_at hl 3 rfl) ?_
                                refine g_iald hx hb0 hX hH (k := 139) (rfl : gKinds[139]? = _) (by decide) dL_isSo_449 h (fun h => ?_)
                                refine g_icmp_ne (tgt := 471) hx hb0 dL_isSo_450 (by decide) h (fun h => ?_) (fun h => ?_)
                                · cases h
                                · refine lv_aload_n hx hb0 dL_isSo_453 rfl (lv_at hl 5 rfl) ?_
                                  refine lv_iload hx hb0 dL_isSo_454 (lv_at hl 3 rfl) ?_
                                  refine lv_iload hx hb0 dL_isSo_456 (lv_at hl 2 rfl) ?_
                                  refine lv_iconst (v := gI (0 : Int)) hx hb0 dL_isSo_458 (by decide) ?_
                                  obtain ⟨q459, e459, h⟩ := gBind_some h
                                  refine g_callWi (As := [.ref (G.1 0), .int (gI x9_79), .int (gI (((q97 / (q14.2 136 (Int.toNat (1 : Int)))) - ((q14.2 138 (Int.toNat x9_79)) / (q14.2 136 (Int.toNat (1 : Int))))) + (1 : Int))), .int (gI (0 : Int))]) (rest := []) ⟨hx, hb0, hml, hown, hts⟩ (metL_partOf l hlt D G q14.2 μ x9_79 (((q97 / (q14.2 136 (Int.toNat (1 : Int)))) - ((q14.2 138 (Int.toNat x9_79)) / (q14.2 136 (Int.toNat (1 : Int))))) + (1 : Int)) (0 : Int) q459 e459) (g_cwW 4 hts q_ml_L_128 q_st_L_partOf q_in_L q_cw_L_partOf ⟨rfl, rfl⟩ (by decide +kernel) ⟨Nat.le_of_ble_eq_true rfl, Nat.le_of_ble_eq_true rfl⟩) hX hH rfl hl.1 rfl (Nat.le_of_ble_eq_true rfl) dL_isSo_459 ⟨by show _ ≤ 2801; omega, by show _ ≤ 16824; omega⟩ (fun H locs hH => ?_)
                                  refine W.widen (k := (cs438 + 2) + 1) (n := 6 * (cs438 + 2) + 24) (by omega) (by omega) ?_
                                  refine lv_ldc (v := gI (-100001 : Int)) hx hb0 hown (hts _ q_ki_L_46) dL_isSo_462 ?_
                                  refine g_icmp_ne (tgt := 471) hx hb0 dL_isSo_464 (by decide) h (fun h => ?_) (fun h => ?_)
                                  · cases h
                                  · refine lv_iconst (v := gI (1 : Int)) hx hb0 dL_isSo_467 (by decide) ?_
                                    refine lv_goto (tgt := 472) hx hb0 dL_isSo_468 (by decide) ?_
                                    refine lv_istore (lv' := [(8, .int (gI (1 : Int))), (12, .int (gI x12_438)), (10, .int (gI (((q97 / (q14.2 136 (Int.toNat (1 : Int)))) - ((q14.2 138 (Int.toNat x9_79)) / (q14.2 136 (Int.toNat (1 : Int))))) + (1 : Int)))), (9, .int (gI x9_79)), (7, .int (gI q14.1)), (0, .ref (G.1 0)), (1, .ref (G.1 136)), (2, .ref (G.1 137)), (3, .ref (G.1 138)), (4, .ref (G.1 139)), (5, .ref (G.1 140)), (6, .ref (G.1 122))]) hx hb0 dL_isSo_472 hl (by decide) rfl (fun ls hl => ?_)
                                    refine g_iinc (k := 3) (n := (1 : Int)) (lv' := [(9, .int (gI (x9_79 + (1 : Int)))), (8, .int (gI (1 : Int))), (12, .int (gI x12_438)), (10, .int (gI (((q97 / (q14.2 136 (Int.toNat (1 : Int)))) - ((q14.2 138 (Int.toNat x9_79)) / (q14.2 136 (Int.toNat (1 : Int))))) + (1 : Int)))), (7, .int (gI q14.1)), (0, .ref (G.1 0)), (1, .ref (G.1 136)), (2, .ref (G.1 137)), (3, .ref (G.1 138)), (4, .ref (G.1 139)), (5, .ref (G.1 140)), (6, .ref (G.1 122))]) hx hb0 dL_isSo_474 hl rfl (by decide) rfl (fun ls hl => ?_)
                                    refine lv_goto (tgt := 79) hx hb0 dL_isSo_477 (by decide) ?_
                                    exact ih79 _ ((cs438 + 2)) _ _ _ (by omega) hH (lv_sub hl [0, 1, 4, 5, 6, 7, 8, 9, 10, 11] rfl) h
                              have hL323 : ∀ (f323 : Nat) (x13_323 : Int) (x12_323 : Int) (cs323 : Nat) (H : Heap) (locs : List Loc) (ls : Array Slot), cs323 + 4 * f323 ≤ ((((((((cs189 + 2) + 2) + 2) + 2) + 2) + 2) + 2) + 1) + 56 → gH D G s H locs q14.2 μ → lv_has ls 16 [(13, .int (gI x13_323)), (12, .int (gI x12_323)), (8, .int (gI (1 : Int))), (10, .int (gI (((q97 / (q14.2 136 (Int.toNat (1 : Int)))) - ((q14.2 138 (Int.toNat x9_79)) / (q14.2 136 (Int.toNat (1 : Int))))) + (1 : Int)))), (9, .int (gI x9_79)), (7, .int (gI q14.1)), (0, .ref (G.1 0)), (1, .ref (G.1 136)), (2, .ref (G.1 137)), (3, .ref (G.1 138)), (4, .ref (G.1 139)), (5, .ref (G.1 140)), (6, .ref (G.1 122))] → (DL_isSoB_L323 (DL_isSoB_K438 q14 (DL_isSoB_L79 (DL_isSoB_K480 q14) q14 f79) x9_79 q97) q14 x9_79 q97 f323 x13_323 x12_323) = some (r, σ') → W p l e (headSpec (gWs yL_isSo cL_isSo 16 (some (Jvm.ClassFile.FieldType.boolean))) ({ frames := 9, cells := 2801, slots := 16824, locals := 150 } : Room)).room s m args below meth c H locs (cs323 + 1) (6 * cs323 + 24) Q (F0 m 323 ls []) := by
                                intro f323
                                induction f323 with
                                | zero => intro x13_323 x12_323 cs323 H locs ls hb323 hH hl h; cases h
                                | succ f323 ih323 =>
                                  intro x13_323 x12_323 cs323 H locs ls hb323 hH hl h
                                  unfold DL_isSoB_L323 at h
                                  refine lv_iload hx hb0 dL_isSo_323 (lv_at hl 0 rfl) ?_
                                  refine lv_iload hx hb0 dL_isSo_325 (lv_at hl 3 rfl) ?_
                                  refine g_icmp_ge (tgt := 438) hx hb0 dL_isSo_327 (by decide) h (fun h => ?_) (fun h => ?_)
                                  · exact hK438 _ (cs323) _ _ _ (by omega) hH (lv_sub hl [1, 2, 3, 4, 5, 6, 7, 8, 9, 10, 11, 12] rfl) h
                                  · refine lv_iload hx hb0 dL_isSo_330 (lv_at hl 2 rfl) ?_
                                    refine lv_if_eq (tgt := 438) hx hb0 dL_isSo_332 (by decide) (fun c1 => absurd c1 (by decide +kernel)) (fun _ => ?_)
                                    refine lv_iload hx hb0 dL_isSo_335 (lv_at hl 0 rfl) ?_
                                    have hJ352 : ∀ (t0_352 : Int) (cs352 : Nat) (H : Heap) (locs : List Loc) (ls : Array Slot), cs352 ≤ cs323 + 0 → gH D G s H locs q14.2 μ → lv_has ls 16 [(13, .int (gI x13_323)), (12, .int (gI x12_323)), (10, .int (gI (((q97 / (q14.2 136 (Int.toNat (1 : Int)))) - ((q14.2 138 (Int.toNat x9_79)) / (q14.2 136 (Int.toNat (1 : Int))))) + (1 : Int)))), (9, .int (gI x9_79)), (7, .int (gI q14.1)), (0, .ref (G.1 0)), (1, .ref (G.1 136)), (2, .ref (G.1 137)), (3, .ref (G.1 138)), (4, .ref (G.1 139)), (5, .ref (G.1 140)), (6, .ref (G.1 122))] → (DL_isSoB_J352 q14 x9_79 (DL_isSoB_L323 (DL_isSoB_K438 q14 (DL_isSoB_L79 (DL_isSoB_K480 q14) q14 f79) x9_79 q97) q14 x9_79 q97 f323) x13_323 x12_323 t0_352) = some (r, σ') → W p l e (headSpec (gWs yL_isSo cL_isSo 16 (some (Jvm.ClassFile.FieldType.boolean))) ({ frames := 9, cells := 2801, slots := 16824, locals := 150 } : Room)).room s m args below meth c H locs (cs352 + 1) (6 * cs352 + 24) Q (F0 m 352 ls [.int (gI t0_352)]) := by
                                      intro t0_352 cs352 H locs ls hb352 hH hl h
                                      unfold DL_isSoB_J352 at h
                                      refine lv_istore (lv' := [(14, .int (gI t0_352)), (13, .int (gI x13_323)), (12, .int (gI x12_323)), (10, .int (gI (((q97 / (q14.2 136 (Int.toNat (1 : Int)))) - ((q14.2 138 (Int.toNat x9_79)) / (q14.2 136 (Int.toNat (1 : Int))))) + (1 : Int)))), (9, .int (gI x9_79)), (7, .int (gI q14.1)), (0, .ref (G.1 0)), (1, .ref (G.1 136)), (2, .ref (G.1 137)), (3, .ref (G.1 138)), (4, .ref (G.1 139)), (5, .ref (G.1 140)), (6, .ref (G.1 122))]) hx hb0 dL_isSo_352 hl (by decide) rfl (fun ls hl => ?_)
                                      refine lv_aload_n hx hb0 dL_isSo_354 rfl (lv_at hl 7 rfl) ?_
                                      refine lv_iconst (v := gI (1 : Int)) hx hb0 dL_isSo_355 (by decide) ?_
                                      refine g_iald hx hb0 hX hH (k := 136) (rfl : gKinds[136]? = _) (by decide) dL_isSo_356 h (fun h => ?_)
                                      refine lv_iload hx hb0 dL_isSo_357 (lv_at hl 0 rfl) ?_
                                      refine g_isub hx hb0 dL_isSo_359 ?_
                                      refine lv_aload hx hb0 dL_isSo_360 (lv_at hl 10 rfl) ?_
                                      refine lv_iload hx hb0 dL_isSo_362 (lv_at hl 4 rfl) ?_
                                      refine g_iald hx hb0 hX hH (k := 139) (rfl : gKinds[139]? = _) (by decide) dL_isSo_364 h (fun h => ?_)
                                      refine lv_iload hx hb0 dL_isSo_365 (lv_at hl 2 rfl) ?_
                                      refine g_isub hx hb0 dL_isSo_367 ?_
                                      have hJ388 : ∀ (t0_388 : Int) (cs388 : Nat) (H : Heap) (locs : List Loc) (ls : Array Slot), cs388 ≤ cs352 + 0 → gH D G s H locs q14.2 μ → lv_has ls 16 [(14, .int (gI t0_352)), (13, .int (gI x13_323)), (12, .int (gI x12_323)), (10, .int (gI (((q97 / (q14.2 136 (Int.toNat (1 : Int)))) - ((q14.2 138 (Int.toNat x9_79)) / (q14.2 136 (Int.toNat (1 : Int))))) + (1 : Int)))), (9, .int (gI x9_79)), (7, .int (gI q14.1)), (0, .ref (G.1 0)), (1, .ref (G.1 136)), (2, .ref (G.1 137)), (3, .ref (G.1 138)), (4, .ref (G.1 139)), (5, .ref (G.1 140)), (6, .ref (G.1 122))] → (DL_isSoB_J388 q14 x9_79 (DL_isSoB_L323 (DL_isSoB_K438 q14 (DL_isSoB_L79 (DL_isSoB_K480 q14) q14 f79) x9_79 q97) q14 x9_79 q97 f323) x13_323 x12_323 t0_352 t0_388) = some (r, σ') → W p l e (headSpec (gWs yL_isSo cL_isSo 16 (some (Jvm.ClassFile.FieldType.boolean))) ({ frames := 9, cells := 2801, slots := 16824, locals := 150 } : Room)).room s m args below meth c H locs (cs388 + 1) (6 * cs388 + 24) Q (F0 m 388 ls [.int (gI t0_388)]) := by
                                        intro t0_388 cs388 H locs ls hb388 hH hl h
                                        unfold DL_isSoB_J388 at h
                                        refine lv_istore (lv' := [(15, .int (gI t0_388)), (14, .int (gI t0_352)), (13, .int (gI x13_323)), (12, .int (gI x12_323)), (10, .int (gI (((q97 / (q14.2 136 (Int.toNat (1 : Int)))) - ((q14.2 138 (Int.toNat x9_79)) / (q14.2 136 (Int.toNat (1 : Int))))) + (1 : Int)))), (9, .int (gI x9_79)), (7, .int (gI q14.1)), (0, .ref (G.1 0)), (1, .ref (G.1 136)), (2, .ref (G.1 137)), (3, .ref (G.1 138)), (4, .ref (G.1 139)), (5, .ref (G.1 140)), (6, .ref (G.1 122))]) hx hb0 dL_isSo_388 hl (by decide) rfl (fun ls hl => ?_)
                                        refine lv_aload_n hx hb0 dL_isSo_390 rfl (lv_at hl 7 rfl) ?_
                                        refine lv_iload hx hb0 dL_isSo_391 (lv_at hl 5 rfl) ?_
                                        refine lv_iload hx hb0 dL_isSo_393 (lv_at hl 2 rfl) ?_
                                        refine lv_iconst (v := gI (1 : Int)) hx hb0 dL_isSo_395 (by decide) ?_
                                        obtain ⟨q396, e396, h⟩ := gBind_some h
                                        refine g_callWi (As := [.ref (G.1 0), .int (gI x9_79), .int (gI x13_323), .int (gI (1 : Int))]) (rest := []) ⟨hx, hb0, hml, hown, hts⟩ (metL_partOf l hlt D G q14.2 μ x9_79 x13_323 (1 : Int) q396 e396) (g_cwW 4 hts q_ml_L_128 q_st_L_partOf q_in_L q_cw_L_partOf ⟨rfl, rfl⟩ (by decide +kernel) ⟨Nat.le_of_ble_eq_true rfl, Nat.le_of_ble_eq_true rfl⟩) hX hH rfl hl.1 rfl (Nat.le_of_ble_eq_true rfl) dL_isSo_396 ⟨by show _ ≤ 2801; omega, by show _ ≤ 16824; omega⟩ (fun H locs hH => ?_)
                                        refine W.widen (k := (cs388 + 2) + 1) (n := 6 * (cs388 + 2) + 24) (by omega) (by omega) ?_
                                        refine lv_iload hx hb0 dL_isSo_399 (lv_at hl 1 rfl) ?_
                                        refine g_icmp_ne (tgt := 422) hx hb0 dL_isSo_401 (by decide) h (fun h => ?_) (fun h => ?_)
                                        · cases h
                                        · refine lv_aload_n hx hb0 dL_isSo_404 rfl (lv_at hl 7 rfl) ?_
                                          refine lv_iload hx hb0 dL_isSo_405 (lv_at hl 5 rfl) ?_
                                          refine lv_iload hx hb0 dL_isSo_407 (lv_at hl 2 rfl) ?_
                                          refine lv_iconst (v := gI (2 : Int)) hx hb0 dL_isSo_409 (by decide) ?_
                                          obtain ⟨q410, e410, h⟩ := gBind_some h
                                          refine g_callWi (As := [.ref (G.1 0), .int (gI x9_79), .int (gI x13_323), .int (gI (2 : Int))]) (rest := []) ⟨hx, hb0, hml, hown, hts⟩ (metL_partOf l hlt D G q14.2 μ x9_79 x13_323 (2 : Int) q410 e410) (g_cwW 4 hts q_ml_L_128 q_st_L_partOf q_in_L q_cw_L_partOf ⟨rfl, rfl⟩ (by decide +kernel) ⟨Nat.le_of_ble_eq_true rfl, Nat.le_of_ble_eq_true rfl⟩) hX hH rfl hl.1 rfl (Nat.le_of_ble_eq_true rfl) dL_isSo_410 ⟨by show _ ≤ 2801; omega, by show _ ≤ 16824; omega⟩ (fun H locs hH => ?_)
                                          refine W.widen (k := ((cs388 + 2) + 2) + 1) (n := 6 * ((cs388 + 2) + 2) + 24) (by omega) (by omega) ?_
                                          refine lv_iload hx hb0 dL_isSo_413 (lv_at hl 0 rfl) ?_
                                          refine g_icmp_ne (tgt := 422) hx hb0 dL_isSo_415 (by decide) h (fun h => ?_) (fun h => ?_)
                                          · cases h
                                          · refine lv_iconst (v := gI (1 : Int)) hx hb0 dL_isSo_418 (by decide) ?_
                                            refine lv_goto (tgt := 423) hx hb0 dL_isSo_419 (by decide) ?_
                                            refine lv_istore (lv' := [(8, .int (gI (1 : Int))), (15, .int (gI t0_388)), (14, .int (gI t0_352)), (13, .int (gI x13_323)), (12, .int (gI x12_323)), (10, .int (gI (((q97 / (q14.2 136 (Int.toNat (1 : Int)))) - ((q14.2 138 (Int.toNat x9_79)) / (q14.2 136 (Int.toNat (1 : Int))))) + (1 : Int)))), (9, .int (gI x9_79)), (7, .int (gI q14.1)), (0, .ref (G.1 0)), (1, .ref (G.1 136)), (2, .ref (G.1 137)), (3, .ref (G.1 138)), (4, .ref (G.1 139)), (5, .ref (G.1 140)), (6, .ref (G.1 122))]) hx hb0 dL_isSo_423 hl (by decide) rfl (fun ls hl => ?_)
                                            refine lv_iload hx hb0 dL_isSo_425 (lv_at hl 4 rfl) ?_
                                            refine lv_iload hx hb0 dL_isSo_427 (lv_at hl 1 rfl) ?_
                                            refine g_iadd hx hb0 dL_isSo_429 ?_
                                            refine lv_istore (lv' := [(12, .int (gI (x12_323 + t0_388))), (8, .int (gI (1 : Int))), (15, .int (gI t0_388)), (14, .int (gI t0_352)), (13, .int (gI x13_323)), (10, .int (gI (((q97 / (q14.2 136 (Int.toNat (1 : Int)))) - ((q14.2 138 (Int.toNat x9_79)) / (q14.2 136 (Int.toNat (1 : Int))))) + (1 : Int)))), (9, .int (gI x9_79)), (7, .int (gI q14.1)), (0, .ref (G.1 0)), (1, .ref (G.1 136)), (2, .ref (G.1 137)), (3, .ref (G.1 138)), (4, .ref (G.1 139)), (5, .ref (G.1 140)), (6, .ref (G.1 122))]) hx hb0 dL_isSo_430 hl (by decide) rfl (fun ls hl => ?_)
                                            refine g_iinc (k := 4) (n := (1 : Int)) (lv' := [(13, .int (gI (x13_323 + (1 : Int)))), (12, .int (gI (x12_323 + t0_388))), (8, .int (gI (1 : Int))), (15, .int (gI t0_388)), (14, .int (gI t0_352)), (10, .int (gI (((q97 / (q14.2 136 (Int.toNat (1 : Int)))) - ((q14.2 138 (Int.toNat x9_79)) / (q14.2 136 (Int.toNat (1 : Int))))) + (1 : Int)))), (9, .int (gI x9_79)), (7, .int (gI q14.1)), (0, .ref (G.1 0)), (1, .ref (G.1 136)), (2, .ref (G.1 137)), (3, .ref (G.1 138)), (4, .ref (G.1 139)), (5, .ref (G.1 140)), (6, .ref (G.1 122))]) hx hb0 dL_isSo_432 hl rfl (by decide) rfl (fun ls hl => ?_)
                                            refine lv_goto (tgt := 323) hx hb0 dL_isSo_435 (by decide) ?_
                                            exact ih323 _ _ (((cs388 + 2) + 2)) _ _ _ (by omega) hH (lv_sub hl [0, 1, 2, 5, 6, 7, 8, 9, 10, 11, 12, 13, 14] rfl) h
                                      refine g_icmp_ge (tgt := 380) hx hb0 dL_isSo_368 (by decide) h (fun h => ?_) (fun h => ?_)
                                      · refine lv_aload hx hb0 dL_isSo_380 (lv_at hl 10 rfl) ?_
                                        refine lv_iload hx hb0 dL_isSo_382 (lv_at hl 4 rfl) ?_
                                        refine g_iald hx hb0 hX hH (k := 139) (rfl : gKinds[139]? = _) (by decide) dL_isSo_384 h (fun h => ?_)
                                        refine lv_iload hx hb0 dL_isSo_385 (lv_at hl 2 rfl) ?_
                                        refine g_isub hx hb0 dL_isSo_387 ?_
                                        exact hJ388 _ (cs352) _ _ _ (by omega) hH (lv_sub hl [0, 1, 2, 3, 4, 5, 6, 7, 8, 9, 10, 11, 12] rfl) h
                                      · refine lv_aload_n hx hb0 dL_isSo_371 rfl (lv_at hl 7 rfl) ?_
                                        refine lv_iconst (v := gI (1 : Int)) hx hb0 dL_isSo_372 (by decide) ?_
                                        refine g_iald hx hb0 hX hH (k := 136) (rfl : gKinds[136]? = _) (by decide) dL_isSo_373 h (fun h => ?_)
                                        refine lv_iload hx hb0 dL_isSo_374 (lv_at hl 0 rfl) ?_
                                        refine g_isub hx hb0 dL_isSo_376 ?_
                                        refine lv_goto (tgt := 388) hx hb0 dL_isSo_377 (by decide) ?_
                                        exact hJ388 _ (cs352) _ _ _ (by omega) hH (lv_sub hl [0, 1, 2, 3, 4, 5, 6, 7, 8, 9, 10, 11, 12] rfl) h
                                    refine g_if_ne (tgt := 351) hx hb0 dL_isSo_337 (by decide) h (fun h => ?_) (fun h => ?_)
                                    · refine lv_iconst (v := gI (0 : Int)) hx hb0 dL_isSo_351 (by decide) ?_
                                      exact hJ352 _ (cs323) _ _ _ (by omega) hH (lv_sub hl [0, 1, 3, 4, 5, 6, 7, 8, 9, 10, 11, 12] rfl) h
                                    · refine lv_aload_n hx hb0 dL_isSo_340 rfl (lv_at hl 9 rfl) ?_
                                      refine lv_iload hx hb0 dL_isSo_341 (lv_at hl 4 rfl) ?_
                                      refine g_iald hx hb0 hX hH (k := 138) (rfl : gKinds[138]? = _) (by decide) dL_isSo_343 h (fun h => ?_)
                                      refine lv_aload_n hx hb0 dL_isSo_344 rfl (lv_at hl 7 rfl) ?_
                                      refine lv_iconst (v := gI (1 : Int)) hx hb0 dL_isSo_345 (by decide) ?_
                                      refine g_iald hx hb0 hX hH (k := 136) (rfl : gKinds[136]? = _) (by decide) dL_isSo_346 h (fun h => ?_)
                                      refine g_irem hx hb0 dL_isSo_347 h (fun h => ?_)
                                      refine lv_goto (tgt := 352) hx hb0 dL_isSo_348 (by decide) ?_
                                      exact hJ352 _ (cs323) _ _ _ (by omega) hH (lv_sub hl [0, 1, 3, 4, 5, 6, 7, 8, 9, 10, 11, 12] rfl) h
                              exact hL323 14 _ _ (((((((((cs189 + 2) + 2) + 2) + 2) + 2) + 2) + 2) + 1)) _ _ _ (by omega) hH (lv_sub hl [0, 1, 2, 4, 5, 6, 7, 8, 9, 10, 11, 12, 13] rfl) h
            have hL123 : ∀ (f123 : Nat) (x12_123 : Int) (x11_123 : Int) (cs123 : Nat) (H : Heap) (locs : List Loc) (ls : Array Slot), cs123 ≤ cs79 → gH D G s H locs q14.2 μ → lv_has ls 16 [(12, .int (gI x12_123)), (11, .int (gI x11_123)), (10, .int (gI (((q97 / (q14.2 136 (Int.toNat (1 : Int)))) - ((q14.2 138 (Int.toNat x9_79)) / (q14.2 136 (Int.toNat (1 : Int))))) + (1 : Int)))), (9, .int (gI x9_79)), (7, .int (gI q14.1)), (0, .ref (G.1 0)), (1, .ref (G.1 136)), (2, .ref (G.1 137)), (3, .ref (G.1 138)), (4, .ref (G.1 139)), (5, .ref (G.1 140)), (6, .ref (G.1 122))] → (DL_isSoB_L123 (DL_isSoB_K189 q14 (DL_isSoB_L79 (DL_isSoB_K480 q14) q14 f79) x9_79 q97) q14 x9_79 f123 x12_123 x11_123) = some (r, σ') → W p l e (headSpec (gWs yL_isSo cL_isSo 16 (some (Jvm.ClassFile.FieldType.boolean))) ({ frames := 9, cells := 2801, slots := 16824, locals := 150 } : Room)).room s m args below meth c H locs (cs123 + 1) (6 * cs123 + 24) Q (F0 m 123 ls []) := by
              intro f123
              induction f123 with
              | zero => intro x12_123 x11_123 cs123 H locs ls hb123 hH hl h; cases h
              | succ f123 ih123 =>
                intro x12_123 x11_123 cs123 H locs ls hb123 hH hl h
                unfold DL_isSoB_L123 at h
                refine lv_iload hx hb0 dL_isSo_123 (lv_at hl 0 rfl) ?_
                refine lv_aload_n hx hb0 dL_isSo_125 rfl (lv_at hl 6 rfl) ?_
                refine lv_iconst (v := gI (5 : Int)) hx hb0 dL_isSo_126 (by decide) ?_
                refine g_iald hx hb0 hX hH (k := 136) (rfl : gKinds[136]? = _) (by decide) dL_isSo_127 h (fun h => ?_)
                refine g_icmp_ge (tgt := 189) hx hb0 dL_isSo_128 (by decide) h (fun h => ?_) (fun h => ?_)
                · exact hK189 _ (cs123) _ _ _ (by omega) hH (lv_sub hl [1, 2, 3, 4, 5, 6, 7, 8, 9, 10, 11] rfl) h
                · refine lv_aload_n hx hb0 dL_isSo_131 rfl (lv_at hl 8 rfl) ?_
                  refine lv_aload hx hb0 dL_isSo_132 (lv_at hl 9 rfl) ?_
                  refine lv_aload hx hb0 dL_isSo_134 (lv_at hl 10 rfl) ?_
                  refine lv_iload hx hb0 dL_isSo_136 (lv_at hl 0 rfl) ?_
                  refine g_iald hx hb0 hX hH (k := 140) (rfl : gKinds[140]? = _) (by decide) dL_isSo_138 h (fun h => ?_)
                  refine lv_bipush (v := gI (32 : Int)) hx hb0 dL_isSo_139 (by decide) ?_
                  refine g_idiv hx hb0 dL_isSo_141 h (fun h => ?_)
                  obtain ⟨q142, e142, h⟩ := gBind_some h
                  refine g_callSi (As := [.ref (G.1 138), .ref (G.1 139), .int (gI ((q14.2 140 (Int.toNat x12_123)) / (32 : Int)))]) (rest := []) ⟨hx, hb0, hml, hown, hts⟩ (metL_last l D G q14.2 μ ((q14.2 140 (Int.toNat x12_123)) / (32 : Int)) q142 e142) (g_cwS 3 hts q_ml_L_22 q_st_L_last q_in_L q_co_L_last ⟨rfl, rfl⟩ (by decide +kernel) ⟨Nat.le_of_ble_eq_true rfl, Nat.le_of_ble_eq_true rfl⟩) hX hH rfl hl.1 rfl (Nat.le_of_ble_eq_true rfl) dL_isSo_142 ⟨by show _ ≤ 2801; omega, by show _ ≤ 16824; omega⟩ (fun H locs hH => ?_)
                  refine lv_iconst (v := gI (1 : Int)) hx hb0 dL_isSo_145 (by decide) ?_
                  refine g_iadd hx hb0 dL_isSo_146 ?_
                  refine lv_aload_n hx hb0 dL_isSo_147 rfl (lv_at hl 8 rfl) ?_
                  refine lv_iload hx hb0 dL_isSo_148 (lv_at hl 3 rfl) ?_
                  refine g_iald hx hb0 hX hH (k := 138) (rfl : gKinds[138]? = _) (by decide) dL_isSo_150 h (fun h => ?_)
                  refine g_isub hx hb0 dL_isSo_151 ?_
                  refine lv_istore (lv' := [(13, .int (gI ((q142 + (1 : Int)) - (q14.2 138 (Int.toNat x9_79))))), (12, .int (gI x12_123)), (11, .int (gI x11_123)), (10, .int (gI (((q97 / (q14.2 136 (Int.toNat (1 : Int)))) - ((q14.2 138 (Int.toNat x9_79)) / (q14.2 136 (Int.toNat (1 : Int))))) + (1 : Int)))), (9, .int (gI x9_79)), (7, .int (gI q14.1)), (0, .ref (G.1 0)), (1, .ref (G.1 136)), (2, .ref (G.1 137)), (3, .ref (G.1 138)), (4, .ref (G.1 139)), (5, .ref (G.1 140)), (6, .ref (G.1 122))]) hx hb0 dL_isSo_152 hl (by decide) rfl (fun ls hl => ?_)
                  refine lv_aload hx hb0 dL_isSo_154 (lv_at hl 11 rfl) ?_
                  refine lv_iload hx hb0 dL_isSo_156 (lv_at hl 1 rfl) ?_
                  refine g_iald hx hb0 hX hH (k := 140) (rfl : gKinds[140]? = _) (by decide) dL_isSo_158 h (fun h => ?_)
                  refine lv_bipush (v := gI (32 : Int)) hx hb0 dL_isSo_159 (by decide) ?_
                  refine g_irem hx hb0 dL_isSo_161 h (fun h => ?_)
                  refine lv_iload hx hb0 dL_isSo_162 (lv_at hl 4 rfl) ?_
                  have hJ181 : ∀ (t0_181 : Int) (cs181 : Nat) (H : Heap) (locs : List Loc) (ls : Array Slot), cs181 ≤ cs123 + 0 → gH D G s H locs q14.2 μ → lv_has ls 16 [(12, .int (gI x12_123)), (10, .int (gI (((q97 / (q14.2 136 (Int.toNat (1 : Int)))) - ((q14.2 138 (Int.toNat x9_79)) / (q14.2 136 (Int.toNat (1 : Int))))) + (1 : Int)))), (9, .int (gI x9_79)), (7, .int (gI q14.1)), (0, .ref (G.1 0)), (1, .ref (G.1 136)), (2, .ref (G.1 137)), (3, .ref (G.1 138)), (4, .ref (G.1 139)), (5, .ref (G.1 140)), (6, .ref (G.1 122))] → (DL_isSoB_J181 (DL_isSoB_L123 (DL_isSoB_K189 q14 (DL_isSoB_L79 (DL_isSoB_K480 q14) q14 f79) x9_79 q97) q14 x9_79 f123) x12_123 t0_181) = some (r, σ') → W p l e (headSpec (gWs yL_isSo cL_isSo 16 (some (Jvm.ClassFile.FieldType.boolean))) ({ frames := 9, cells := 2801, slots := 16824, locals := 150 } : Room)).room s m args below meth c H locs (cs181 + 1) (6 * cs181 + 24) Q (F0 m 181 ls [.int (gI t0_181)]) := by
                    intro t0_181 cs181 H locs ls hb181 hH hl h
                    unfold DL_isSoB_J181 at h
                    refine lv_istore (lv' := [(11, .int (gI t0_181)), (12, .int (gI x12_123)), (10, .int (gI (((q97 / (q14.2 136 (Int.toNat (1 : Int)))) - ((q14.2 138 (Int.toNat x9_79)) / (q14.2 136 (Int.toNat (1 : Int))))) + (1 : Int)))), (9, .int (gI x9_79)), (7, .int (gI q14.1)), (0, .ref (G.1 0)), (1, .ref (G.1 136)), (2, .ref (G.1 137)), (3, .ref (G.1 138)), (4, .ref (G.1 139)), (5, .ref (G.1 140)), (6, .ref (G.1 122))]) hx hb0 dL_isSo_181 hl (by decide) rfl (fun ls hl => ?_)
                    refine g_iinc (k := 1) (n := (1 : Int)) (lv' := [(12, .int (gI (x12_123 + (1 : Int)))), (11, .int (gI t0_181)), (10, .int (gI (((q97 / (q14.2 136 (Int.toNat (1 : Int)))) - ((q14.2 138 (Int.toNat x9_79)) / (q14.2 136 (Int.toNat (1 : Int))))) + (1 : Int)))), (9, .int (gI x9_79)), (7, .int (gI q14.1)), (0, .ref (G.1 0)), (1, .ref (G.1 136)), (2, .ref (G.1 137)), (3, .ref (G.1 138)), (4, .ref (G.1 139)), (5, .ref (G.1 140)), (6, .ref (G.1 122))]) hx hb0 dL_isSo_183 hl rfl (by decide) rfl (fun ls hl => ?_)
                    refine lv_goto (tgt := 123) hx hb0 dL_isSo_186 (by decide) ?_
                    exact ih123 _ _ (cs181) _ _ _ (by omega) hH (lv_sub hl [0, 1, 2, 3, 4, 5, 6, 7, 8, 9, 10, 11] rfl) h
                  have hJ179 : ∀  (cs179 : Nat) (H : Heap) (locs : List Loc) (ls : Array Slot), cs179 ≤ cs123 + 0 → gH D G s H locs q14.2 μ → lv_has ls 16 [(12, .int (gI x12_123)), (11, .int (gI x11_123)), (10, .int (gI (((q97 / (q14.2 136 (Int.toNat (1 : Int)))) - ((q14.2 138 (Int.toNat x9_79)) / (q14.2 136 (Int.toNat (1 : Int))))) + (1 : Int)))), (9, .int (gI x9_79)), (7, .int (gI q14.1)), (0, .ref (G.1 0)), (1, .ref (G.1 136)), (2, .ref (G.1 137)), (3, .ref (G.1 138)), (4, .ref (G.1 139)), (5, .ref (G.1 140)), (6, .ref (G.1 122))] → (DL_isSoB_J179 (DL_isSoB_L123 (DL_isSoB_K189 q14 (DL_isSoB_L79 (DL_isSoB_K480 q14) q14 f79) x9_79 q97) q14 x9_79 f123) x12_123 x11_123) = some (r, σ') → W p l e (headSpec (gWs yL_isSo cL_isSo 16 (some (Jvm.ClassFile.FieldType.boolean))) ({ frames := 9, cells := 2801, slots := 16824, locals := 150 } : Room)).room s m args below meth c H locs (cs179 + 1) (6 * cs179 + 24) Q (F0 m 179 ls []) := by
                    intro cs179 H locs ls hb179 hH hl h
                    unfold DL_isSoB_J179 at h
                    refine lv_iload hx hb0 dL_isSo_179 (lv_at hl 1 rfl) ?_
                    exact hJ181 _ (cs179) _ _ _ (by omega) hH (lv_sub hl [0, 2, 3, 4, 5, 6, 7, 8, 9, 10, 11] rfl) h
                  refine g_icmp_ne (tgt := 179) hx hb0 dL_isSo_164 (by decide) h (fun h => ?_) (fun h => ?_)
                  · exact hJ179  (cs123) _ _ _ (by omega) hH (lv_sub hl [1, 2, 3, 4, 5, 6, 7, 8, 9, 10, 11, 12] rfl) h
                  · refine lv_iload hx hb0 dL_isSo_167 (lv_at hl 0 rfl) ?_
                    refine lv_iload hx hb0 dL_isSo_169 (lv_at hl 2 rfl) ?_
                    refine g_icmp_le (tgt := 179) hx hb0 dL_isSo_171 (by decide) h (fun h => ?_) (fun h => ?_)
                    · exact hJ179  (cs123) _ _ _ (by omega) hH (lv_sub hl [1, 2, 3, 4, 5, 6, 7, 8, 9, 10, 11, 12] rfl) h
                    · refine lv_iload hx hb0 dL_isSo_174 (lv_at hl 0 rfl) ?_
                      refine lv_goto (tgt := 181) hx hb0 dL_isSo_176 (by decide) ?_
                      exact hJ181 _ (cs123) _ _ _ (by omega) hH (lv_sub hl [1, 3, 4, 5, 6, 7, 8, 9, 10, 11, 12] rfl) h
            exact hL123 gFuel _ _ (cs79) _ _ _ (by omega) hH (lv_sub hl [0, 1, 2, 3, 5, 6, 7, 8, 9, 10, 11, 12] rfl) h
      exact hL79 25 _ (cs76) _ _ _ (by omega) hH (lv_sub hl [0, 1, 2, 3, 4, 5, 6, 7, 8, 9] rfl) h
    have hL38 : ∀ (f38 : Nat) (x9_38 : Int) (cs38 : Nat) (H : Heap) (locs : List Loc) (ls : Array Slot), cs38 + 1 * f38 ≤ 0 + 7 → gH D G s H locs q14.2 μ → lv_has ls 16 [(9, .int (gI x9_38)), (8, .int (gI (1 : Int))), (7, .int (gI q14.1)), (0, .ref (G.1 0)), (1, .ref (G.1 136)), (2, .ref (G.1 137)), (3, .ref (G.1 138)), (4, .ref (G.1 139)), (5, .ref (G.1 140)), (6, .ref (G.1 122))] → (DL_isSoB_L38 (DL_isSoB_K76 q14) q14 f38 x9_38) = some (r, σ') → W p l e (headSpec (gWs yL_isSo cL_isSo 16 (some (Jvm.ClassFile.FieldType.boolean))) ({ frames := 9, cells := 2801, slots := 16824, locals := 150 } : Room)).room s m args below meth c H locs (cs38 + 1) (6 * cs38 + 24) Q (F0 m 38 ls []) := by
      intro f38
      induction f38 with
      | zero => intro x9_38 cs38 H locs ls hb38 hH hl h; cases h
      | succ f38 ih38 =>
        intro x9_38 cs38 H locs ls hb38 hH hl h
        unfold DL_isSoB_L38 at h
        refine lv_iload hx hb0 dL_isSo_38 (lv_at hl 0 rfl) ?_
        refine lv_bipush (v := gI (6 : Int)) hx hb0 dL_isSo_40 (by decide) ?_
        refine g_icmp_ge (tgt := 76) hx hb0 dL_isSo_42 (by decide) h (fun h => ?_) (fun h => ?_)
        · exact hK76  (cs38) _ _ _ (by omega) hH (lv_sub hl [1, 2, 3, 4, 5, 6, 7, 8, 9] rfl) h
        · refine lv_iload hx hb0 dL_isSo_45 (lv_at hl 1 rfl) ?_
          refine lv_if_eq (tgt := 67) hx hb0 dL_isSo_47 (by decide) (fun c1 => absurd c1 (by decide +kernel)) (fun _ => ?_)
          refine lv_aload_n hx hb0 dL_isSo_50 rfl (lv_at hl 3 rfl) ?_
          refine lv_iload hx hb0 dL_isSo_51 (lv_at hl 0 rfl) ?_
          obtain ⟨q53, e53, h⟩ := gBind_some h
          refine g_callWi (As := [.ref (G.1 0), .int (gI x9_38)]) (rest := []) ⟨hx, hb0, hml, hown, hts⟩ (metL_valueOf l hlt D G q14.2 μ x9_38 q53 e53) (g_cwW 2 hts q_ml_L_119 q_st_L_valueOf q_in_L q_cw_L_valueOf ⟨rfl, rfl⟩ (by decide +kernel) ⟨Nat.le_of_ble_eq_true rfl, Nat.le_of_ble_eq_true rfl⟩) hX hH rfl hl.1 rfl (Nat.le_of_ble_eq_true rfl) dL_isSo_53 ⟨by show _ ≤ 2801; omega, by show _ ≤ 16824; omega⟩ (fun H locs hH => ?_)
          refine W.widen (k := (cs38 + 1) + 1) (n := 6 * (cs38 + 1) + 24) (by omega) (by omega) ?_
          refine lv_aload_n hx hb0 dL_isSo_56 rfl (lv_at hl 4 rfl) ?_
          refine lv_iload hx hb0 dL_isSo_57 (lv_at hl 0 rfl) ?_
          refine g_iald hx hb0 hX hH (k := 136) (rfl : gKinds[136]? = _) (by decide) dL_isSo_59 h (fun h => ?_)
          refine g_icmp_ne (tgt := 67) hx hb0 dL_isSo_60 (by decide) h (fun h => ?_) (fun h => ?_)
          · cases h
          · refine lv_iconst (v := gI (1 : Int)) hx hb0 dL_isSo_63 (by decide) ?_
            refine lv_goto (tgt := 68) hx hb0 dL_isSo_64 (by decide) ?_
            refine lv_istore (lv' := [(8, .int (gI (1 : Int))), (9, .int (gI x9_38)), (7, .int (gI q14.1)), (0, .ref (G.1 0)), (1, .ref (G.1 136)), (2, .ref (G.1 137)), (3, .ref (G.1 138)), (4, .ref (G.1 139)), (5, .ref (G.1 140)), (6, .ref (G.1 122))]) hx hb0 dL_isSo_68 hl (by decide) rfl (fun ls hl => ?_)
            refine g_iinc (k := 1) (n := (1 : Int)) (lv' := [(9, .int (gI (x9_38 + (1 : Int)))), (8, .int (gI (1 : Int))), (7, .int (gI q14.1)), (0, .ref (G.1 0)), (1, .ref (G.1 136)), (2, .ref (G.1 137)), (3, .ref (G.1 138)), (4, .ref (G.1 139)), (5, .ref (G.1 140)), (6, .ref (G.1 122))]) hx hb0 dL_isSo_70 hl rfl (by decide) rfl (fun ls hl => ?_)
            refine lv_goto (tgt := 38) hx hb0 dL_isSo_73 (by decide) ?_
            exact ih38 _ ((cs38 + 1)) _ _ _ (by omega) hH (lv_sub hl [0, 1, 2, 3, 4, 5, 6, 7, 8, 9] rfl) h
    exact hL38 7 _ (0) _ _ _ (by omega) hH (lv_sub hl [0, 1, 2, 3, 4, 5, 6, 7, 8, 9] rfl) h
def DL_isSo (σ : gSt) : Option (Int × gSt) := (DL_isSoB (gPut σ 122 (fun _ => 0))).map fun q => (q.1, gPut q.2 122 (σ 122))
set_option maxHeartbeats 4000000 in
set_option maxRecDepth 100000 in
theorem metL_isSo (l : Launch) (hlt : l.stackTraces = false) (D : va_G) (G : gAd) (σ : gSt) (μ : gLg) (r : Int) (σ' : gSt) (h : DL_isSo σ = some (r, σ')) : Met l yL_isSo (gWs yL_isSo cL_isSo 16 (some (Jvm.ClassFile.FieldType.boolean))) ({ frames := 9, cells := 2801, slots := 16824, locals := 150 } : Room) (gPc D G [.ref (G.1 0), .ref (G.1 136), .ref (G.1 137), .ref (G.1 138), .ref (G.1 139), .ref (G.1 140)] σ μ) (gQi D G r σ' μ) 2801 16824 (gA G) := by
  refine Met.ofW (cc := cL_isSo) (maxL := 16) (ret := (some (Jvm.ClassFile.FieldType.boolean))) (by decide) rfl ?_
  intro p e s m args below meth c s₁ B hml hv
  obtain ⟨rfl, hP, hX⟩ := hv
  have hx := B.exec
  have hb0 := B.bytes
  have hr := B.returns
  have hts0 := atoms_spec (ws := (gWs yL_isSo cL_isSo 16 (some (Jvm.ClassFile.FieldType.boolean)))) B.pre
  have hts : ∀ w ∈ gLW, w.before _ s = true := fun w hw => hts0 w (List.mem_cons_of_mem _ hw)
  have hown : s.vm.findClass RL = some m.cls := findClass_of_methodNamed B.named
  have hlocks := B.notSynchronized
  have hl := lv_entry ([.ref (G.1 0), .ref (G.1 136), .ref (G.1 137), .ref (G.1 138), .ref (G.1 139), .ref (G.1 140)]) (n := 16) (Nat.le_of_ble_eq_true rfl)
  rw [lg_entry_eq]
  generalize (lg_sl ([.ref (G.1 0), .ref (G.1 136), .ref (G.1 137), .ref (G.1 138), .ref (G.1 139), .ref (G.1 140)]) ++ List.replicate (16 - (lg_sl ([.ref (G.1 0), .ref (G.1 136), .ref (G.1 137), .ref (G.1 138), .ref (G.1 139), .ref (G.1 140)])).length) Slot.unset).toArray = ls at hl ⊢
  have hl : lv_has ls 16 [(0, .ref (G.1 0)), (1, .ref (G.1 136)), (2, .ref (G.1 137)), (3, .ref (G.1 138)), (4, .ref (G.1 139)), (5, .ref (G.1 140))] := hl
  unfold DL_isSo at h
  cases hd : DL_isSoB (gPut σ 122 (fun _ => 0)) with
  | none => rw [hd] at h; cases h
  | some q0 =>
    rw [hd] at h
    obtain ⟨r0, σ0⟩ := q0
    cases h
    refine lv_bipush (v := gI (24 : Int)) hx hb0 dL_isSo_0 (by decide) ?_
    refine g_newB (k := 122) (rfl : gKinds[122]? = _) gNoK_122 hx hb0 hts hX hP ⟨Nat.le_of_ble_eq_true rfl, Nat.le_of_ble_eq_true rfl⟩ dL_isSo_2 (fun q H hq hX1 hH => ?_)
    refine lv_astore (lv' := [(6, .ref q), (0, .ref (G.1 0)), (1, .ref (G.1 136)), (2, .ref (G.1 137)), (3, .ref (G.1 138)), (4, .ref (G.1 139)), (5, .ref (G.1 140))]) hx hb0 dL_isSo_4 hl (by decide) rfl (fun ls hl => ?_)
    obtain ⟨G1, hG⟩ : ∃ G1 : gAd, G1 = gMv G 122 q := ⟨_, rfl⟩
    have hl : lv_has ls 16 [(0, .ref (G1.1 0)), (1, .ref (G1.1 136)), (2, .ref (G1.1 137)), (3, .ref (G1.1 138)), (4, .ref (G1.1 139)), (5, .ref (G1.1 140)), (6, .ref (G1.1 122))] := by
      rw [hG]
      exact lv_sub hl [1, 2, 3, 4, 5, 6, 0] rfl
    rw [← hG] at hX1 hH
    refine bodL_isSo hlt hx hb0 hml hown hts hX1 hH hl hd (fun H locs ls hz hH => ?_)
    rw [hG] at hH
    exact g_retMz (k := 122) (q := q) hz (rfl : gKinds[122]? = _) gNoK_122 hx hb0 hr hX hP hq hH hlocks dL_isSo_734
