def DL_acts_J78 (σ : gSt) (q7 : Int) (q44 : Int) (t0_78 : Int) : Option (Int × gSt) :=
  gDv (q7 / (200 : Int)) t0_78 (gIf ((σ 136 (Int.toNat (4 : Int))) = (24 : Int)) (σ 136 (Int.toNat (4 : Int))) (24 : Int) ((gWqS (DX8_addTask σ q44 (q7 % (200 : Int)) ((1 : Int) + ((q7 / (200 : Int)) % t0_78))) [(1, (-100002 : Int)), (2, (-100003 : Int))] σ).bind fun q96 => gIf (q96.1 = (-100003 : Int)) q96.1 (-100003 : Int) (gBo (1 : Int) (some ((1 : Int), q96.2))) (gBo (0 : Int) (some ((0 : Int), q96.2)))) (gAt (σ 136 (Int.toNat (4 : Int))) 24 (gAt (σ 136 (Int.toNat (4 : Int))) 24 (gAt (σ 136 (Int.toNat (4 : Int))) 24 (gAt (4 : Int) 6 (gAt (4 : Int) 6 ((gWqS (DX8_addTask (gUp (gUp (gUp (gUp σ 137 (Int.toNat (σ 136 (Int.toNat (4 : Int)))) q44) 138 (Int.toNat (σ 136 (Int.toNat (4 : Int)))) (q7 % (200 : Int))) 139 (Int.toNat (σ 136 (Int.toNat (4 : Int)))) ((1 : Int) + ((q7 / (200 : Int)) % t0_78))) 136 (Int.toNat (4 : Int)) (((gUp (gUp (gUp σ 137 (Int.toNat (σ 136 (Int.toNat (4 : Int)))) q44) 138 (Int.toNat (σ 136 (Int.toNat (4 : Int)))) (q7 % (200 : Int))) 139 (Int.toNat (σ 136 (Int.toNat (4 : Int)))) ((1 : Int) + ((q7 / (200 : Int)) % t0_78))) 136 (Int.toNat (4 : Int))) + (1 : Int))) q44 (q7 % (200 : Int)) ((1 : Int) + ((q7 / (200 : Int)) % t0_78))) [(1, (-100002 : Int)), (2, (-100003 : Int))] (gUp (gUp (gUp (gUp σ 137 (Int.toNat (σ 136 (Int.toNat (4 : Int)))) q44) 138 (Int.toNat (σ 136 (Int.toNat (4 : Int)))) (q7 % (200 : Int))) 139 (Int.toNat (σ 136 (Int.toNat (4 : Int)))) ((1 : Int) + ((q7 / (200 : Int)) % t0_78))) 136 (Int.toNat (4 : Int)) (((gUp (gUp (gUp σ 137 (Int.toNat (σ 136 (Int.toNat (4 : Int)))) q44) 138 (Int.toNat (σ 136 (Int.toNat (4 : Int)))) (q7 % (200 : Int))) 139 (Int.toNat (σ 136 (Int.toNat (4 : Int)))) ((1 : Int) + ((q7 / (200 : Int)) % t0_78))) 136 (Int.toNat (4 : Int))) + (1 : Int)))).bind fun q143 => gIf (q143.1 = (σ 136 (Int.toNat (4 : Int)))) q143.1 (σ 136 (Int.toNat (4 : Int))) (gBo (1 : Int) (some ((1 : Int), q143.2))) (gBo (0 : Int) (some ((0 : Int), q143.2))))))))))
def DL_acts_J38 (σ : gSt) (a6 : Int) (q7 : Int) : Option (Int × gSt) :=
  (DL_low σ (gShr a6 (4 : Int)) (6 : Int)).bind fun q44 => gDv q7 (200 : Int) (gDv q7 (200 : Int) (gDv q7 (3 : Int) (gIf ((q7 % (3 : Int)) = (0 : Int)) (q7 % (3 : Int)) (0 : Int) ((DL_acts_J78 σ q7 q44 (60 : Int))) ((DL_acts_J78 σ q7 q44 (15 : Int))))))
def DL_acts_J292 (q7 : Int) (q163 : Int) (σ292 : gSt) : Option (Int × gSt) :=
  gAt q163 24 (gDv q7 (200 : Int) (gAt q163 24 (gDv q7 (200 : Int) (gDv (q7 / (200 : Int)) (60 : Int) (gAt q163 24 (gAt q163 24 (gAt q163 24 ((gWqS (DX8_move (gUp (gUp σ292 138 (Int.toNat q163) (q7 % (200 : Int))) 139 (Int.toNat q163) ((1 : Int) + ((q7 / (200 : Int)) % (60 : Int)))) q163 ((gUp (gUp σ292 138 (Int.toNat q163) (q7 % (200 : Int))) 139 (Int.toNat q163) ((1 : Int) + ((q7 / (200 : Int)) % (60 : Int)))) 138 (Int.toNat q163)) ((gUp (gUp σ292 138 (Int.toNat q163) (q7 % (200 : Int))) 139 (Int.toNat q163) ((1 : Int) + ((q7 / (200 : Int)) % (60 : Int)))) 139 (Int.toNat q163))) [(3, (-100001 : Int)), (1, (-100002 : Int))] (gUp (gUp σ292 138 (Int.toNat q163) (q7 % (200 : Int))) 139 (Int.toNat q163) ((1 : Int) + ((q7 / (200 : Int)) % (60 : Int))))).bind fun q336 => gIf (q336.1 = (σ292 138 (Int.toNat q163))) q336.1 (σ292 138 (Int.toNat q163)) (gBo (1 : Int) (some ((1 : Int), q336.2))) (gBo (0 : Int) (some ((0 : Int), q336.2)))))))))))
def DL_acts_J259 (σ : gSt) (q7 : Int) (t0_259 : Int) : Option (Int × gSt) :=
  gAt (q7 % (4 : Int)) 6 (gAt (q7 % (4 : Int)) 6 ((gWqS (DX8_set (gUp σ 136 (Int.toNat (q7 % (4 : Int))) t0_259) (q7 % (4 : Int)) t0_259) [(1, (-100002 : Int))] (gUp σ 136 (Int.toNat (q7 % (4 : Int))) t0_259)).bind fun q278 => gIf (q278.1 = (σ 136 (Int.toNat (q7 % (4 : Int))))) q278.1 (σ 136 (Int.toNat (q7 % (4 : Int)))) (gBo (1 : Int) (some ((1 : Int), q278.2))) (gBo (0 : Int) (some ((0 : Int), q278.2)))))
def DL_acts_J212 (σ : gSt) (q7 : Int) : Option (Int × gSt) :=
  gDv q7 (4 : Int) (gIf ((q7 % (4 : Int)) = (0 : Int)) (q7 % (4 : Int)) (0 : Int) (gDv q7 (4 : Int) (gDv (q7 / (4 : Int)) (18 : Int) ((DL_acts_J259 σ q7 ((3 : Int) + ((q7 / (4 : Int)) % (18 : Int))))))) (gIf ((q7 % (4 : Int)) = (1 : Int)) (q7 % (4 : Int)) (1 : Int) (gDv q7 (4 : Int) (gDv (q7 / (4 : Int)) (56 : Int) ((DL_acts_J259 σ q7 ((5 : Int) + ((q7 / (4 : Int)) % (56 : Int))))))) (gDv q7 (4 : Int) (gDv (q7 / (4 : Int)) (2 : Int) ((DL_acts_J259 σ q7 ((q7 / (4 : Int)) % (2 : Int))))))))
def DL_acts_J639 (σ : gSt) (q7 : Int) (q163 : Int) : Option (Int × gSt) :=
  (gWqS (DX8_addArrow σ q163 (q7 % (σ 136 (Int.toNat (4 : Int))))) [(3, (-100001 : Int)), (1, (-100002 : Int)), (2, (-100003 : Int))] σ).bind fun q644 => gIf (q644.1 = (-100003 : Int)) q644.1 (-100003 : Int) (gBo (1 : Int) (some ((1 : Int), q644.2))) (gBo (0 : Int) (some ((0 : Int), q644.2)))
def DL_acts_K575 (q163 : Int) (x16_455 : Int) (σ575 : gSt) : Option (Int × gSt) :=
  (gWqS (DX8_removeTask σ575 q163) [(3, (-100001 : Int))] σ575).bind fun q578 => gIf (q578.1 = x16_455) q578.1 x16_455 (gBo (1 : Int) (some ((1 : Int), q578.2))) (gBo (0 : Int) (some ((0 : Int), q578.2)))
def DL_acts_L529 (K575 : gSt → Option (Int × gSt)) : Nat → Int → gSt → Option (Int × gSt)
  | 0, _, _ => none
  | f529 + 1, x17_529, σ529 => gAt (4 : Int) 6 (gIf (x17_529 < (σ529 136 (Int.toNat (4 : Int)))) x17_529 (σ529 136 (Int.toNat (4 : Int))) (gAt (x17_529 + (1 : Int)) 24 (gAt x17_529 24 (gAt (x17_529 + (1 : Int)) 24 (gAt x17_529 24 (gAt (x17_529 + (1 : Int)) 24 (gAt x17_529 24 (((DL_acts_L529 K575 f529) (x17_529 + (1 : Int)) (gUp (gUp (gUp σ529 137 (Int.toNat x17_529) (σ529 137 (Int.toNat (x17_529 + (1 : Int))))) 138 (Int.toNat x17_529) ((gUp σ529 137 (Int.toNat x17_529) (σ529 137 (Int.toNat (x17_529 + (1 : Int))))) 138 (Int.toNat (x17_529 + (1 : Int))))) 139 (Int.toNat x17_529) ((gUp (gUp σ529 137 (Int.toNat x17_529) (σ529 137 (Int.toNat (x17_529 + (1 : Int))))) 138 (Int.toNat x17_529) ((gUp σ529 137 (Int.toNat x17_529) (σ529 137 (Int.toNat (x17_529 + (1 : Int))))) 138 (Int.toNat (x17_529 + (1 : Int))))) 139 (Int.toNat (x17_529 + (1 : Int))))))))))))) ((K575 σ529)))
def DL_acts_K518 (q163 : Int) (x16_455 : Int) (σ518 : gSt) : Option (Int × gSt) :=
  gAt (4 : Int) 6 (gAt (4 : Int) 6 ((DL_acts_L529 (DL_acts_K575 q163 x16_455) gFuel q163 (gUp σ518 136 (Int.toNat (4 : Int)) ((σ518 136 (Int.toNat (4 : Int))) - (1 : Int))))))
def DL_acts_J509 (R458 : Int → gSt → Option (Int × gSt)) (x17_458 : Int) (σ458 : gSt) (t0_491 : Int) (t0_509 : Int) : Option (Int × gSt) :=
  gAt x17_458 31 ((R458 (x17_458 + (1 : Int)) (gUp σ458 140 (Int.toNat x17_458) ((σ458 140 (Int.toNat x17_458)) - (t0_491 + t0_509)))))
def DL_acts_J491 (q163 : Int) (R458 : Int → gSt → Option (Int × gSt)) (x17_458 : Int) (σ458 : gSt) (t0_491 : Int) : Option (Int × gSt) :=
  gAt x17_458 31 (gDv (σ458 140 (Int.toNat x17_458)) (32 : Int) (gIf (q163 < ((σ458 140 (Int.toNat x17_458)) % (32 : Int))) ((σ458 140 (Int.toNat x17_458)) % (32 : Int)) q163 ((DL_acts_J509 R458 x17_458 σ458 t0_491 (1 : Int))) ((DL_acts_J509 R458 x17_458 σ458 t0_491 (0 : Int)))))
def DL_acts_L458 (K518 : gSt → Option (Int × gSt)) (q163 : Int) : Nat → Int → gSt → Option (Int × gSt)
  | 0, _, _ => none
  | f458 + 1, x17_458, σ458 => gAt (5 : Int) 6 (gIf (x17_458 < (σ458 136 (Int.toNat (5 : Int)))) x17_458 (σ458 136 (Int.toNat (5 : Int))) (gAt x17_458 31 (gAt x17_458 31 (gDv (σ458 140 (Int.toNat x17_458)) (32 : Int) (gIf (q163 < ((σ458 140 (Int.toNat x17_458)) / (32 : Int))) ((σ458 140 (Int.toNat x17_458)) / (32 : Int)) q163 ((DL_acts_J491 q163 (DL_acts_L458 K518 q163 f458) x17_458 σ458 (32 : Int))) ((DL_acts_J491 q163 (DL_acts_L458 K518 q163 f458) x17_458 σ458 (0 : Int))))))) ((K518 σ458)))
def DL_acts_K455 (q163 : Int) (x16_455 : Int) (σ455 : gSt) : Option (Int × gSt) :=
  (DL_acts_L458 (DL_acts_K518 q163 x16_455) q163 gFuel (0 : Int) σ455)
def DL_acts_J449 (R407 : Int → Int → gSt → Option (Int × gSt)) (x17_407 : Int) (x16_449 : Int) (σ449 : gSt) : Option (Int × gSt) :=
  (R407 (x17_407 + (-1 : Int)) x16_449 σ449)
def DL_acts_J438 (R407 : Int → Int → gSt → Option (Int × gSt)) (x17_407 : Int) (x16_407 : Int) (σ407 : gSt) : Option (Int × gSt) :=
  (DL_drop σ407 x17_407).bind fun q443 => (DL_acts_J449 R407 x17_407 (x16_407 + (1 : Int)) q443)
def DL_acts_L407 (K455 : Int → gSt → Option (Int × gSt)) (q163 : Int) : Nat → Int → Int → gSt → Option (Int × gSt)
  | 0, _, _, _ => none
  | f407 + 1, x17_407, x16_407, σ407 => gIf (x17_407 < (0 : Int)) x17_407 (0 : Int) ((K455 x16_407 σ407)) (gAt x17_407 31 (gDv (σ407 140 (Int.toNat x17_407)) (32 : Int) (gIf (((σ407 140 (Int.toNat x17_407)) / (32 : Int)) = q163) ((σ407 140 (Int.toNat x17_407)) / (32 : Int)) q163 ((DL_acts_J438 (DL_acts_L407 K455 q163 f407) x17_407 x16_407 σ407)) (gAt x17_407 31 (gDv (σ407 140 (Int.toNat x17_407)) (32 : Int) (gIf (((σ407 140 (Int.toNat x17_407)) % (32 : Int)) = q163) ((σ407 140 (Int.toNat x17_407)) % (32 : Int)) q163 ((DL_acts_J438 (DL_acts_L407 K455 q163 f407) x17_407 x16_407 σ407)) ((DL_acts_J449 (DL_acts_L407 K455 q163 f407) x17_407 x16_407 σ407))))))))
def DL_acts (σ : gSt) (a6 : Int) : Option (Int × gSt) :=
  (DL_low σ (gShr a6 (8 : Int)) (100000 : Int)).bind fun q7 => gAt (4 : Int) 6 ((DL_low σ a6 (16 : Int)).bind fun q21 => gIf ((σ 136 (Int.toNat (4 : Int))) < (2 : Int)) (σ 136 (Int.toNat (4 : Int))) (2 : Int) ((DL_acts_J38 σ a6 q7)) (gIf (q21 < (5 : Int)) q21 (5 : Int) ((DL_acts_J38 σ a6 q7)) ((DL_low σ (gShr a6 (4 : Int)) (σ 136 (Int.toNat (4 : Int)))).bind fun q163 => gDv q7 (σ 136 (Int.toNat (4 : Int))) (gIf (q21 = (5 : Int)) q21 (5 : Int) ((DL_acts_J212 σ q7)) (gIf (q21 = (6 : Int)) q21 (6 : Int) ((DL_acts_J212 σ q7)) (gIf (q21 = (7 : Int)) q21 (7 : Int) ((DL_acts_J292 q7 q163 σ)) (gIf (q21 = (8 : Int)) q21 (8 : Int) ((DL_acts_J292 q7 q163 σ)) (gIf (q21 = (9 : Int)) q21 (9 : Int) (gDv q7 (3 : Int) (gIf ((0 : Int) < (q7 % (3 : Int))) (q7 % (3 : Int)) (0 : Int) (gAt (5 : Int) 6 (gIf ((σ 136 (Int.toNat (5 : Int))) = (0 : Int)) (σ 136 (Int.toNat (5 : Int))) (0 : Int) ((gWqS (DX8_removeArrow σ (0 : Int)) [(3, (-100001 : Int))] σ).bind fun q365 => gIf (q365.1 = (-100001 : Int)) q365.1 (-100001 : Int) (gBo (1 : Int) (some ((1 : Int), q365.2))) (gBo (0 : Int) (some ((0 : Int), q365.2)))) (gDv q7 (3 : Int) (gAt (5 : Int) 6 (gDv (q7 / (3 : Int)) (σ 136 (Int.toNat (5 : Int))) ((DL_goes σ ((q7 / (3 : Int)) % (σ 136 (Int.toNat (5 : Int))))).bind fun q393 => gBo q393.1 (some (q393.1, q393.2)))))))) (gAt (5 : Int) 6 ((DL_acts_L407 (DL_acts_K455 q163) q163 gFuel ((σ 136 (Int.toNat (5 : Int))) - (1 : Int)) (0 : Int) σ))))) (gIf (q163 = (q7 % (σ 136 (Int.toNat (4 : Int))))) q163 (q7 % (σ 136 (Int.toNat (4 : Int)))) ((gWqS (DX8_addArrow σ q163 (q7 % (σ 136 (Int.toNat (4 : Int))))) [(3, (-100001 : Int)), (1, (-100002 : Int)), (2, (-100003 : Int))] σ).bind fun q604 => gIf (q604.1 = (-100002 : Int)) q604.1 (-100002 : Int) (gBo (1 : Int) (some ((1 : Int), q604.2))) (gBo (0 : Int) (some ((0 : Int), q604.2)))) ((DL_indexOf σ q163 (q7 % (σ 136 (Int.toNat (4 : Int))))).bind fun q625 => gIf (q625 < (0 : Int)) q625 (0 : Int) (gAt (5 : Int) 6 (gIf ((σ 136 (Int.toNat (5 : Int))) = (30 : Int)) (σ 136 (Int.toNat (5 : Int))) (30 : Int) ((DL_acts_J639 σ q7 q163)) (gAt (5 : Int) 6 (gAt (σ 136 (Int.toNat (5 : Int))) 31 (gAt (5 : Int) 6 (gAt (5 : Int) 6 ((gWqS (DX8_addArrow (gUp (gUp σ 140 (Int.toNat (σ 136 (Int.toNat (5 : Int)))) (((32 : Int) * q163) + (q7 % (σ 136 (Int.toNat (4 : Int)))))) 136 (Int.toNat (5 : Int)) (((gUp σ 140 (Int.toNat (σ 136 (Int.toNat (5 : Int)))) (((32 : Int) * q163) + (q7 % (σ 136 (Int.toNat (4 : Int)))))) 136 (Int.toNat (5 : Int))) + (1 : Int))) q163 (q7 % (σ 136 (Int.toNat (4 : Int))))) [(3, (-100001 : Int)), (1, (-100002 : Int)), (2, (-100003 : Int))] (gUp (gUp σ 140 (Int.toNat (σ 136 (Int.toNat (5 : Int)))) (((32 : Int) * q163) + (q7 % (σ 136 (Int.toNat (4 : Int)))))) 136 (Int.toNat (5 : Int)) (((gUp σ 140 (Int.toNat (σ 136 (Int.toNat (5 : Int)))) (((32 : Int) * q163) + (q7 % (σ 136 (Int.toNat (4 : Int)))))) 136 (Int.toNat (5 : Int))) + (1 : Int)))).bind fun q684 => gAt (5 : Int) 6 (gIf (q684.1 = ((q684.2 136 (Int.toNat (5 : Int))) - (1 : Int))) q684.1 ((q684.2 136 (Int.toNat (5 : Int))) - (1 : Int)) (gBo (1 : Int) (some ((1 : Int), q684.2))) (gBo (0 : Int) (some ((0 : Int), q684.2))))))))))) ((DL_acts_J639 σ q7 q163))))))))))))
set_option maxHeartbeats 4000000 in
set_option maxRecDepth 100000 in
theorem metL_acts (l : Launch) (hlt : l.stackTraces = false) (D : va_G) (G : gAd) (σ : gSt) (μ : gLg) (a6 : Int) (r : Int) (σ' : gSt) (h : DL_acts σ a6 = some (r, σ')) : Met l yL_acts (gWs yL_acts cL_acts 18 (some (Jvm.ClassFile.FieldType.boolean))) ({ frames := 10, cells := 3, slots := 18, locals := 197 } : Room) (gPc D G [.ref (G.1 0), .ref (G.1 136), .ref (G.1 137), .ref (G.1 138), .ref (G.1 139), .ref (G.1 140), .int (gI a6)] σ μ) (gQi D G r σ' μ) 3 18 (gA G) := by
  refine Met.ofW (cc := cL_acts) (maxL := 18) (ret := (some (Jvm.ClassFile.FieldType.boolean))) (by decide) rfl ?_
  intro p e s m args below meth c s₁ B hml hv
  obtain ⟨rfl, hP, hX⟩ := hv
  have hx := B.exec
  have hb0 := B.bytes
  have hr := B.returns
  have hts0 := atoms_spec (ws := (gWs yL_acts cL_acts 18 (some (Jvm.ClassFile.FieldType.boolean)))) B.pre
  have hts : ∀ w ∈ gLW, w.before _ s = true := fun w hw => hts0 w (List.mem_cons_of_mem _ hw)
  have hown : s.vm.findClass RL = some m.cls := findClass_of_methodNamed B.named
  have hlocks := B.notSynchronized
  have hH : gH D G s s.heap [] σ μ := ⟨hP, va_S.rf⟩
  have hl := lv_entry ([.ref (G.1 0), .ref (G.1 136), .ref (G.1 137), .ref (G.1 138), .ref (G.1 139), .ref (G.1 140), .int (gI a6)]) (n := 18) (Nat.le_of_ble_eq_true rfl)
  rw [lg_entry_eq]
  generalize (lg_sl ([.ref (G.1 0), .ref (G.1 136), .ref (G.1 137), .ref (G.1 138), .ref (G.1 139), .ref (G.1 140), .int (gI a6)]) ++ List.replicate (18 - (lg_sl ([.ref (G.1 0), .ref (G.1 136), .ref (G.1 137), .ref (G.1 138), .ref (G.1 139), .ref (G.1 140), .int (gI a6)])).length) Slot.unset).toArray = ls at hl ⊢
  have hl : lv_has ls 18 [(0, .ref (G.1 0)), (1, .ref (G.1 136)), (2, .ref (G.1 137)), (3, .ref (G.1 138)), (4, .ref (G.1 139)), (5, .ref (G.1 140)), (6, .int (gI a6))] := hl
  unfold DL_acts at h
  refine lv_iload hx hb0 dL_acts_0 (lv_at hl 6 rfl) ?_
  refine lv_bipush (v := gI (8 : Int)) hx hb0 dL_acts_2 (by decide) ?_
  refine g_ishr hx hb0 dL_acts_4 ?_
  refine lv_ldc (v := gI (100000 : Int)) hx hb0 hown (hts _ q_ki_L_25) dL_acts_5 ?_
  obtain ⟨q7, e7, h⟩ := gBind_some h
  refine g_callSi (As := [.int (gI (gShr a6 (8 : Int))), .int (gI (100000 : Int))]) (rest := []) ⟨hx, hb0, hml, hown, hts⟩ (metL_low l D G σ μ (gShr a6 (8 : Int)) (100000 : Int) q7 e7) (g_cwS 2 hts q_ml_L_26 q_st_L_low q_in_L q_co_L_low ⟨rfl, rfl⟩ (by decide +kernel) ⟨Nat.le_of_ble_eq_true rfl, Nat.le_of_ble_eq_true rfl⟩) hX hH rfl hl.1 rfl (Nat.le_of_ble_eq_true rfl) dL_acts_7 ⟨Nat.le_of_ble_eq_true rfl, Nat.le_of_ble_eq_true rfl⟩ (fun H locs hH => ?_)
  refine lv_istore (lv' := [(7, .int (gI q7)), (0, .ref (G.1 0)), (1, .ref (G.1 136)), (2, .ref (G.1 137)), (3, .ref (G.1 138)), (4, .ref (G.1 139)), (5, .ref (G.1 140)), (6, .int (gI a6))]) hx hb0 dL_acts_10 hl (by decide) rfl (fun ls hl => ?_)
  refine lv_aload_n hx hb0 dL_acts_12 rfl (lv_at hl 2 rfl) ?_
  refine lv_iconst (v := gI (4 : Int)) hx hb0 dL_acts_13 (by decide) ?_
  refine g_iald hx hb0 hX hH (k := 136) (rfl : gKinds[136]? = _) (by decide) dL_acts_14 h (fun h => ?_)
  refine lv_istore (lv' := [(8, .int (gI (σ 136 (Int.toNat (4 : Int))))), (7, .int (gI q7)), (0, .ref (G.1 0)), (1, .ref (G.1 136)), (2, .ref (G.1 137)), (3, .ref (G.1 138)), (4, .ref (G.1 139)), (5, .ref (G.1 140)), (6, .int (gI a6))]) hx hb0 dL_acts_15 hl (by decide) rfl (fun ls hl => ?_)
  refine lv_iload hx hb0 dL_acts_17 (lv_at hl 8 rfl) ?_
  refine lv_bipush (v := gI (16 : Int)) hx hb0 dL_acts_19 (by decide) ?_
  obtain ⟨q21, e21, h⟩ := gBind_some h
  refine g_callSi (As := [.int (gI a6), .int (gI (16 : Int))]) (rest := []) ⟨hx, hb0, hml, hown, hts⟩ (metL_low l D G σ μ a6 (16 : Int) q21 e21) (g_cwS 2 hts q_ml_L_26 q_st_L_low q_in_L q_co_L_low ⟨rfl, rfl⟩ (by decide +kernel) ⟨Nat.le_of_ble_eq_true rfl, Nat.le_of_ble_eq_true rfl⟩) hX hH rfl hl.1 rfl (Nat.le_of_ble_eq_true rfl) dL_acts_21 ⟨Nat.le_of_ble_eq_true rfl, Nat.le_of_ble_eq_true rfl⟩ (fun H locs hH => ?_)
  refine lv_istore (lv' := [(9, .int (gI q21)), (8, .int (gI (σ 136 (Int.toNat (4 : Int))))), (7, .int (gI q7)), (0, .ref (G.1 0)), (1, .ref (G.1 136)), (2, .ref (G.1 137)), (3, .ref (G.1 138)), (4, .ref (G.1 139)), (5, .ref (G.1 140)), (6, .int (gI a6))]) hx hb0 dL_acts_24 hl (by decide) rfl (fun ls hl => ?_)
  refine lv_iload hx hb0 dL_acts_26 (lv_at hl 1 rfl) ?_
  refine lv_iconst (v := gI (2 : Int)) hx hb0 dL_acts_28 (by decide) ?_
  have hJ38 : ∀  (H : Heap) (locs : List Loc) (ls : Array Slot), gH D G s H locs σ μ → lv_has ls 18 [(8, .int (gI (σ 136 (Int.toNat (4 : Int))))), (7, .int (gI q7)), (0, .ref (G.1 0)), (1, .ref (G.1 136)), (2, .ref (G.1 137)), (3, .ref (G.1 138)), (4, .ref (G.1 139)), (6, .int (gI a6))] → (DL_acts_J38 σ a6 q7) = some (r, σ') → W p l e (headSpec (gWs yL_acts cL_acts 18 (some (Jvm.ClassFile.FieldType.boolean))) ({ frames := 10, cells := 3, slots := 18, locals := 197 } : Room)).room s m ([.ref (G.1 0), .ref (G.1 136), .ref (G.1 137), .ref (G.1 138), .ref (G.1 139), .ref (G.1 140), .int (gI a6)] : List Value).toArray below meth c H locs 0 0 (MQ below (gQi D G r σ' μ) ([.ref (G.1 0), .ref (G.1 136), .ref (G.1 137), .ref (G.1 138), .ref (G.1 139), .ref (G.1 140), .int (gI a6)] : List Value).toArray s 3 18 (gA G)) (F0 m 38 ls []) := by
    intro H locs ls hH hl h
    unfold DL_acts_J38 at h
    refine lv_iload hx hb0 dL_acts_38 (lv_at hl 7 rfl) ?_
    refine lv_iconst (v := gI (4 : Int)) hx hb0 dL_acts_40 (by decide) ?_
    refine g_ishr hx hb0 dL_acts_41 ?_
    refine lv_bipush (v := gI (6 : Int)) hx hb0 dL_acts_42 (by decide) ?_
    obtain ⟨q44, e44, h⟩ := gBind_some h
    refine g_callSi (As := [.int (gI (gShr a6 (4 : Int))), .int (gI (6 : Int))]) (rest := []) ⟨hx, hb0, hml, hown, hts⟩ (metL_low l D G σ μ (gShr a6 (4 : Int)) (6 : Int) q44 e44) (g_cwS 2 hts q_ml_L_26 q_st_L_low q_in_L q_co_L_low ⟨rfl, rfl⟩ (by decide +kernel) ⟨Nat.le_of_ble_eq_true rfl, Nat.le_of_ble_eq_true rfl⟩) hX hH rfl hl.1 rfl (Nat.le_of_ble_eq_true rfl) dL_acts_44 ⟨Nat.le_of_ble_eq_true rfl, Nat.le_of_ble_eq_true rfl⟩ (fun H locs hH => ?_)
    refine lv_istore (lv' := [(10, .int (gI q44)), (8, .int (gI (σ 136 (Int.toNat (4 : Int))))), (7, .int (gI q7)), (0, .ref (G.1 0)), (1, .ref (G.1 136)), (2, .ref (G.1 137)), (3, .ref (G.1 138)), (4, .ref (G.1 139)), (6, .int (gI a6))]) hx hb0 dL_acts_47 hl (by decide) rfl (fun ls hl => ?_)
    refine lv_iload hx hb0 dL_acts_49 (lv_at hl 2 rfl) ?_
    refine lv_sipush (v := gI (200 : Int)) hx hb0 dL_acts_51 (by decide) ?_
    refine g_irem hx hb0 dL_acts_54 h (fun h => ?_)
    refine lv_istore (lv' := [(11, .int (gI (q7 % (200 : Int)))), (10, .int (gI q44)), (8, .int (gI (σ 136 (Int.toNat (4 : Int))))), (7, .int (gI q7)), (0, .ref (G.1 0)), (1, .ref (G.1 136)), (2, .ref (G.1 137)), (3, .ref (G.1 138)), (4, .ref (G.1 139)), (6, .int (gI a6))]) hx hb0 dL_acts_55 hl (by decide) rfl (fun ls hl => ?_)
    refine lv_iconst (v := gI (1 : Int)) hx hb0 dL_acts_57 (by decide) ?_
    refine lv_iload hx hb0 dL_acts_58 (lv_at hl 3 rfl) ?_
    refine lv_sipush (v := gI (200 : Int)) hx hb0 dL_acts_60 (by decide) ?_
    refine g_idiv hx hb0 dL_acts_63 h (fun h => ?_)
    refine lv_iload hx hb0 dL_acts_64 (lv_at hl 3 rfl) ?_
    refine lv_iconst (v := gI (3 : Int)) hx hb0 dL_acts_66 (by decide) ?_
    refine g_irem hx hb0 dL_acts_67 h (fun h => ?_)
    have hJ78 : ∀ (t0_78 : Int) (H : Heap) (locs : List Loc) (ls : Array Slot), gH D G s H locs σ μ → lv_has ls 18 [(11, .int (gI (q7 % (200 : Int)))), (10, .int (gI q44)), (8, .int (gI (σ 136 (Int.toNat (4 : Int))))), (0, .ref (G.1 0)), (1, .ref (G.1 136)), (2, .ref (G.1 137)), (3, .ref (G.1 138)), (4, .ref (G.1 139))] → (DL_acts_J78 σ q7 q44 t0_78) = some (r, σ') → W p l e (headSpec (gWs yL_acts cL_acts 18 (some (Jvm.ClassFile.FieldType.boolean))) ({ frames := 10, cells := 3, slots := 18, locals := 197 } : Room)).room s m ([.ref (G.1 0), .ref (G.1 136), .ref (G.1 137), .ref (G.1 138), .ref (G.1 139), .ref (G.1 140), .int (gI a6)] : List Value).toArray below meth c H locs 0 0 (MQ below (gQi D G r σ' μ) ([.ref (G.1 0), .ref (G.1 136), .ref (G.1 137), .ref (G.1 138), .ref (G.1 139), .ref (G.1 140), .int (gI a6)] : List Value).toArray s 3 18 (gA G)) (F0 m 78 ls [.int (gI t0_78), .int (gI (q7 / (200 : Int))), .int (gI (1 : Int))]) := by
      intro t0_78 H locs ls hH hl h
      unfold DL_acts_J78 at h
      refine g_irem hx hb0 dL_acts_78 h (fun h => ?_)
      refine g_iadd hx hb0 dL_acts_79 ?_
      refine lv_istore (lv' := [(12, .int (gI ((1 : Int) + ((q7 / (200 : Int)) % t0_78)))), (11, .int (gI (q7 % (200 : Int)))), (10, .int (gI q44)), (8, .int (gI (σ 136 (Int.toNat (4 : Int))))), (0, .ref (G.1 0)), (1, .ref (G.1 136)), (2, .ref (G.1 137)), (3, .ref (G.1 138)), (4, .ref (G.1 139))]) hx hb0 dL_acts_80 hl (by decide) rfl (fun ls hl => ?_)
      refine lv_iload hx hb0 dL_acts_82 (lv_at hl 3 rfl) ?_
      refine lv_bipush (v := gI (24 : Int)) hx hb0 dL_acts_84 (by decide) ?_
      refine g_icmp_ne (tgt := 110) hx hb0 dL_acts_86 (by decide) h (fun h => ?_) (fun h => ?_)
      · refine lv_aload_n hx hb0 dL_acts_110 rfl (lv_at hl 6 rfl) ?_
        refine lv_iload hx hb0 dL_acts_111 (lv_at hl 3 rfl) ?_
        refine lv_iload hx hb0 dL_acts_113 (lv_at hl 2 rfl) ?_
        refine g_iast hx hb0 hX hH (k := 137) (rfl : gKinds[137]? = _) (by decide) dL_acts_115 h (fun h H locs hH => ?_)
        refine lv_aload_n hx hb0 dL_acts_116 rfl (lv_at hl 7 rfl) ?_
        refine lv_iload hx hb0 dL_acts_117 (lv_at hl 3 rfl) ?_
        refine lv_iload hx hb0 dL_acts_119 (lv_at hl 1 rfl) ?_
        refine g_iast hx hb0 hX hH (k := 138) (rfl : gKinds[138]? = _) (by decide) dL_acts_121 h (fun h H locs hH => ?_)
        refine lv_aload hx hb0 dL_acts_122 (lv_at hl 8 rfl) ?_
        refine lv_iload hx hb0 dL_acts_124 (lv_at hl 3 rfl) ?_
        refine lv_iload hx hb0 dL_acts_126 (lv_at hl 0 rfl) ?_
        refine g_iast hx hb0 hX hH (k := 139) (rfl : gKinds[139]? = _) (by decide) dL_acts_128 h (fun h H locs hH => ?_)
        refine lv_aload_n hx hb0 dL_acts_129 rfl (lv_at hl 5 rfl) ?_
        refine lv_iconst (v := gI (4 : Int)) hx hb0 dL_acts_130 (by decide) ?_
        refine lv_dup2_11 hx hb0 dL_acts_131 rfl rfl ?_
        refine g_iald hx hb0 hX hH (k := 136) (rfl : gKinds[136]? = _) (by decide) dL_acts_132 h (fun h => ?_)
        refine lv_iconst (v := gI (1 : Int)) hx hb0 dL_acts_133 (by decide) ?_
        refine g_iadd hx hb0 dL_acts_134 ?_
        refine g_iast hx hb0 hX hH (k := 136) (rfl : gKinds[136]? = _) (by decide) dL_acts_135 h (fun h H locs hH => ?_)
        refine lv_aload_n hx hb0 dL_acts_136 rfl (lv_at hl 4 rfl) ?_
        refine lv_iload hx hb0 dL_acts_137 (lv_at hl 2 rfl) ?_
        refine lv_iload hx hb0 dL_acts_139 (lv_at hl 1 rfl) ?_
        refine lv_iload hx hb0 dL_acts_141 (lv_at hl 0 rfl) ?_
        obtain ⟨q143, e143, h⟩ := gBind_some h
        refine g_callWi (As := [.ref (G.1 0), .int (gI q44), .int (gI (q7 % (200 : Int))), .int (gI ((1 : Int) + ((q7 / (200 : Int)) % t0_78)))]) (rest := []) ⟨hx, hb0, hml, hown, hts⟩ (metL_adds l hlt D G (gUp (gUp (gUp (gUp σ 137 (Int.toNat (σ 136 (Int.toNat (4 : Int)))) q44) 138 (Int.toNat (σ 136 (Int.toNat (4 : Int)))) (q7 % (200 : Int))) 139 (Int.toNat (σ 136 (Int.toNat (4 : Int)))) ((1 : Int) + ((q7 / (200 : Int)) % t0_78))) 136 (Int.toNat (4 : Int)) (((gUp (gUp (gUp σ 137 (Int.toNat (σ 136 (Int.toNat (4 : Int)))) q44) 138 (Int.toNat (σ 136 (Int.toNat (4 : Int)))) (q7 % (200 : Int))) 139 (Int.toNat (σ 136 (Int.toNat (4 : Int)))) ((1 : Int) + ((q7 / (200 : Int)) % t0_78))) 136 (Int.toNat (4 : Int))) + (1 : Int))) μ q44 (q7 % (200 : Int)) ((1 : Int) + ((q7 / (200 : Int)) % t0_78)) q143.1 q143.2 e143) (g_cwW 4 hts q_ml_L_30 q_st_L_adds q_in_L q_cw_L_adds ⟨rfl, rfl⟩ (by decide +kernel) ⟨Nat.le_of_ble_eq_true rfl, Nat.le_of_ble_eq_true rfl⟩) hX hH rfl hl.1 rfl (Nat.le_of_ble_eq_true rfl) dL_acts_143 ⟨Nat.le_of_ble_eq_true rfl, Nat.le_of_ble_eq_true rfl⟩ (fun H locs hH => ?_)
        refine lv_iload hx hb0 dL_acts_146 (lv_at hl 3 rfl) ?_
        refine g_icmp_ne (tgt := 155) hx hb0 dL_acts_148 (by decide) h (fun h => ?_) (fun h => ?_)
        · refine lv_iconst (v := gI (0 : Int)) hx hb0 dL_acts_155 (by decide) ?_
          refine W.widen (k := 3) (n := 18) (Nat.le_of_ble_eq_true rfl) (Nat.le_of_ble_eq_true rfl) ?_
          exact g_zretS hx hb0 hr hH hlocks dL_acts_156 h
        · refine lv_iconst (v := gI (1 : Int)) hx hb0 dL_acts_151 (by decide) ?_
          refine lv_goto (tgt := 156) hx hb0 dL_acts_152 (by decide) ?_
          refine W.widen (k := 3) (n := 18) (Nat.le_of_ble_eq_true rfl) (Nat.le_of_ble_eq_true rfl) ?_
          exact g_zretS hx hb0 hr hH hlocks dL_acts_156 h
      · refine lv_aload_n hx hb0 dL_acts_89 rfl (lv_at hl 4 rfl) ?_
        refine lv_iload hx hb0 dL_acts_90 (lv_at hl 2 rfl) ?_
        refine lv_iload hx hb0 dL_acts_92 (lv_at hl 1 rfl) ?_
        refine lv_iload hx hb0 dL_acts_94 (lv_at hl 0 rfl) ?_
        obtain ⟨q96, e96, h⟩ := gBind_some h
        refine g_callWi (As := [.ref (G.1 0), .int (gI q44), .int (gI (q7 % (200 : Int))), .int (gI ((1 : Int) + ((q7 / (200 : Int)) % t0_78)))]) (rest := []) ⟨hx, hb0, hml, hown, hts⟩ (metL_adds l hlt D G σ μ q44 (q7 % (200 : Int)) ((1 : Int) + ((q7 / (200 : Int)) % t0_78)) q96.1 q96.2 e96) (g_cwW 4 hts q_ml_L_30 q_st_L_adds q_in_L q_cw_L_adds ⟨rfl, rfl⟩ (by decide +kernel) ⟨Nat.le_of_ble_eq_true rfl, Nat.le_of_ble_eq_true rfl⟩) hX hH rfl hl.1 rfl (Nat.le_of_ble_eq_true rfl) dL_acts_96 ⟨Nat.le_of_ble_eq_true rfl, Nat.le_of_ble_eq_true rfl⟩ (fun H locs hH => ?_)
        refine lv_ldc (v := gI (-100003 : Int)) hx hb0 hown (hts _ q_ki_L_34) dL_acts_99 ?_
        refine g_icmp_ne (tgt := 108) hx hb0 dL_acts_101 (by decide) h (fun h => ?_) (fun h => ?_)
        · refine lv_iconst (v := gI (0 : Int)) hx hb0 dL_acts_108 (by decide) ?_
          refine W.widen (k := 3) (n := 18) (Nat.le_of_ble_eq_true rfl) (Nat.le_of_ble_eq_true rfl) ?_
          exact g_zretS hx hb0 hr hH hlocks dL_acts_109 h
        · refine lv_iconst (v := gI (1 : Int)) hx hb0 dL_acts_104 (by decide) ?_
          refine lv_goto (tgt := 109) hx hb0 dL_acts_105 (by decide) ?_
          refine W.widen (k := 3) (n := 18) (Nat.le_of_ble_eq_true rfl) (Nat.le_of_ble_eq_true rfl) ?_
          exact g_zretS hx hb0 hr hH hlocks dL_acts_109 h
    refine g_if_ne (tgt := 76) hx hb0 dL_acts_68 (by decide) h (fun h => ?_) (fun h => ?_)
    · refine lv_bipush (v := gI (15 : Int)) hx hb0 dL_acts_76 (by decide) ?_
      exact hJ78 _ _ _ _ hH (lv_sub hl [0, 1, 2, 4, 5, 6, 7, 8] rfl) h
    · refine lv_bipush (v := gI (60 : Int)) hx hb0 dL_acts_71 (by decide) ?_
      refine lv_goto (tgt := 78) hx hb0 dL_acts_73 (by decide) ?_
      exact hJ78 _ _ _ _ hH (lv_sub hl [0, 1, 2, 4, 5, 6, 7, 8] rfl) h
  refine g_icmp_lt (tgt := 38) hx hb0 dL_acts_29 (by decide) h (fun h => ?_) (fun h => ?_)
  · exact hJ38  _ _ _ hH (lv_sub hl [1, 2, 3, 4, 5, 6, 7, 9] rfl) h
  · refine lv_iload hx hb0 dL_acts_32 (lv_at hl 0 rfl) ?_
    refine lv_iconst (v := gI (5 : Int)) hx hb0 dL_acts_34 (by decide) ?_
    refine g_icmp_ge (tgt := 157) hx hb0 dL_acts_35 (by decide) h (fun h => ?_) (fun h => ?_)
    · refine lv_iload hx hb0 dL_acts_157 (lv_at hl 9 rfl) ?_
      refine lv_iconst (v := gI (4 : Int)) hx hb0 dL_acts_159 (by decide) ?_
      refine g_ishr hx hb0 dL_acts_160 ?_
      refine lv_iload hx hb0 dL_acts_161 (lv_at hl 1 rfl) ?_
      obtain ⟨q163, e163, h⟩ := gBind_some h
      refine g_callSi (As := [.int (gI (gShr a6 (4 : Int))), .int (gI (σ 136 (Int.toNat (4 : Int))))]) (rest := []) ⟨hx, hb0, hml, hown, hts⟩ (metL_low l D G σ μ (gShr a6 (4 : Int)) (σ 136 (Int.toNat (4 : Int))) q163 e163) (g_cwS 2 hts q_ml_L_26 q_st_L_low q_in_L q_co_L_low ⟨rfl, rfl⟩ (by decide +kernel) ⟨Nat.le_of_ble_eq_true rfl, Nat.le_of_ble_eq_true rfl⟩) hX hH rfl hl.1 rfl (Nat.le_of_ble_eq_true rfl) dL_acts_163 ⟨Nat.le_of_ble_eq_true rfl, Nat.le_of_ble_eq_true rfl⟩ (fun H locs hH => ?_)
      refine lv_istore (lv' := [(10, .int (gI q163)), (9, .int (gI q21)), (8, .int (gI (σ 136 (Int.toNat (4 : Int))))), (7, .int (gI q7)), (0, .ref (G.1 0)), (1, .ref (G.1 136)), (2, .ref (G.1 137)), (3, .ref (G.1 138)), (4, .ref (G.1 139)), (5, .ref (G.1 140)), (6, .int (gI a6))]) hx hb0 dL_acts_166 hl (by decide) rfl (fun ls hl => ?_)
      refine lv_iload hx hb0 dL_acts_168 (lv_at hl 3 rfl) ?_
      refine lv_iload hx hb0 dL_acts_170 (lv_at hl 2 rfl) ?_
      refine g_irem hx hb0 dL_acts_172 h (fun h => ?_)
      refine lv_istore (lv' := [(11, .int (gI (q7 % (σ 136 (Int.toNat (4 : Int)))))), (10, .int (gI q163)), (9, .int (gI q21)), (8, .int (gI (σ 136 (Int.toNat (4 : Int))))), (7, .int (gI q7)), (0, .ref (G.1 0)), (1, .ref (G.1 136)), (2, .ref (G.1 137)), (3, .ref (G.1 138)), (4, .ref (G.1 139)), (5, .ref (G.1 140)), (6, .int (gI a6))]) hx hb0 dL_acts_173 hl (by decide) rfl (fun ls hl => ?_)
      refine lv_iload hx hb0 dL_acts_175 (lv_at hl 2 rfl) ?_
      have hJ292 : ∀ (σ292 : gSt) (H : Heap) (locs : List Loc) (ls : Array Slot), gH D G s H locs σ292 μ → lv_has ls 18 [(10, .int (gI q163)), (7, .int (gI q7)), (0, .ref (G.1 0)), (3, .ref (G.1 138)), (4, .ref (G.1 139))] → (DL_acts_J292 q7 q163 σ292) = some (r, σ') → W p l e (headSpec (gWs yL_acts cL_acts 18 (some (Jvm.ClassFile.FieldType.boolean))) ({ frames := 10, cells := 3, slots := 18, locals := 197 } : Room)).room s m ([.ref (G.1 0), .ref (G.1 136), .ref (G.1 137), .ref (G.1 138), .ref (G.1 139), .ref (G.1 140), .int (gI a6)] : List Value).toArray below meth c H locs 0 0 (MQ below (gQi D G r σ' μ) ([.ref (G.1 0), .ref (G.1 136), .ref (G.1 137), .ref (G.1 138), .ref (G.1 139), .ref (G.1 140), .int (gI a6)] : List Value).toArray s 3 18 (gA G)) (F0 m 292 ls []) := by
        intro σ292 H locs ls hH hl h
        unfold DL_acts_J292 at h
        refine lv_aload_n hx hb0 dL_acts_292 rfl (lv_at hl 3 rfl) ?_
        refine lv_iload hx hb0 dL_acts_293 (lv_at hl 0 rfl) ?_
        refine g_iald hx hb0 hX hH (k := 138) (rfl : gKinds[138]? = _) (by decide) dL_acts_295 h (fun h => ?_)
        refine lv_istore (lv' := [(15, .int (gI (σ292 138 (Int.toNat q163)))), (10, .int (gI q163)), (7, .int (gI q7)), (0, .ref (G.1 0)), (3, .ref (G.1 138)), (4, .ref (G.1 139))]) hx hb0 dL_acts_296 hl (by decide) rfl (fun ls hl => ?_)
        refine lv_aload_n hx hb0 dL_acts_298 rfl (lv_at hl 4 rfl) ?_
        refine lv_iload hx hb0 dL_acts_299 (lv_at hl 1 rfl) ?_
        refine lv_iload hx hb0 dL_acts_301 (lv_at hl 2 rfl) ?_
        refine lv_sipush (v := gI (200 : Int)) hx hb0 dL_acts_303 (by decide) ?_
        refine g_irem hx hb0 dL_acts_306 h (fun h => ?_)
        refine g_iast hx hb0 hX hH (k := 138) (rfl : gKinds[138]? = _) (by decide) dL_acts_307 h (fun h H locs hH => ?_)
        refine lv_aload hx hb0 dL_acts_308 (lv_at hl 5 rfl) ?_
        refine lv_iload hx hb0 dL_acts_310 (lv_at hl 1 rfl) ?_
        refine lv_iconst (v := gI (1 : Int)) hx hb0 dL_acts_312 (by decide) ?_
        refine lv_iload hx hb0 dL_acts_313 (lv_at hl 2 rfl) ?_
        refine lv_sipush (v := gI (200 : Int)) hx hb0 dL_acts_315 (by decide) ?_
        refine g_idiv hx hb0 dL_acts_318 h (fun h => ?_)
        refine lv_bipush (v := gI (60 : Int)) hx hb0 dL_acts_319 (by decide) ?_
        refine g_irem hx hb0 dL_acts_321 h (fun h => ?_)
        refine g_iadd hx hb0 dL_acts_322 ?_
        refine g_iast hx hb0 hX hH (k := 139) (rfl : gKinds[139]? = _) (by decide) dL_acts_323 h (fun h H locs hH => ?_)
        refine lv_aload_n hx hb0 dL_acts_324 rfl (lv_at hl 3 rfl) ?_
        refine lv_iload hx hb0 dL_acts_325 (lv_at hl 1 rfl) ?_
        refine lv_aload_n hx hb0 dL_acts_327 rfl (lv_at hl 4 rfl) ?_
        refine lv_iload hx hb0 dL_acts_328 (lv_at hl 1 rfl) ?_
        refine g_iald hx hb0 hX hH (k := 138) (rfl : gKinds[138]? = _) (by decide) dL_acts_330 h (fun h => ?_)
        refine lv_aload hx hb0 dL_acts_331 (lv_at hl 5 rfl) ?_
        refine lv_iload hx hb0 dL_acts_333 (lv_at hl 1 rfl) ?_
        refine g_iald hx hb0 hX hH (k := 139) (rfl : gKinds[139]? = _) (by decide) dL_acts_335 h (fun h => ?_)
        obtain ⟨q336, e336, h⟩ := gBind_some h
        refine g_callWi (As := [.ref (G.1 0), .int (gI q163), .int (gI ((gUp (gUp σ292 138 (Int.toNat q163) (q7 % (200 : Int))) 139 (Int.toNat q163) ((1 : Int) + ((q7 / (200 : Int)) % (60 : Int)))) 138 (Int.toNat q163))), .int (gI ((gUp (gUp σ292 138 (Int.toNat q163) (q7 % (200 : Int))) 139 (Int.toNat q163) ((1 : Int) + ((q7 / (200 : Int)) % (60 : Int)))) 139 (Int.toNat q163)))]) (rest := []) ⟨hx, hb0, hml, hown, hts⟩ (metL_moves l hlt D G (gUp (gUp σ292 138 (Int.toNat q163) (q7 % (200 : Int))) 139 (Int.toNat q163) ((1 : Int) + ((q7 / (200 : Int)) % (60 : Int)))) μ q163 ((gUp (gUp σ292 138 (Int.toNat q163) (q7 % (200 : Int))) 139 (Int.toNat q163) ((1 : Int) + ((q7 / (200 : Int)) % (60 : Int)))) 138 (Int.toNat q163)) ((gUp (gUp σ292 138 (Int.toNat q163) (q7 % (200 : Int))) 139 (Int.toNat q163) ((1 : Int) + ((q7 / (200 : Int)) % (60 : Int)))) 139 (Int.toNat q163)) q336.1 q336.2 e336) (g_cwW 4 hts q_ml_L_39 q_st_L_moves q_in_L q_cw_L_moves ⟨rfl, rfl⟩ (by decide +kernel) ⟨Nat.le_of_ble_eq_true rfl, Nat.le_of_ble_eq_true rfl⟩) hX hH rfl hl.1 rfl (Nat.le_of_ble_eq_true rfl) dL_acts_336 ⟨Nat.le_of_ble_eq_true rfl, Nat.le_of_ble_eq_true rfl⟩ (fun H locs hH => ?_)
        refine lv_iload hx hb0 dL_acts_339 (lv_at hl 0 rfl) ?_
        refine g_icmp_ne (tgt := 348) hx hb0 dL_acts_341 (by decide) h (fun h => ?_) (fun h => ?_)
        · refine lv_iconst (v := gI (0 : Int)) hx hb0 dL_acts_348 (by decide) ?_
          refine W.widen (k := 3) (n := 18) (Nat.le_of_ble_eq_true rfl) (Nat.le_of_ble_eq_true rfl) ?_
          exact g_zretS hx hb0 hr hH hlocks dL_acts_349 h
        · refine lv_iconst (v := gI (1 : Int)) hx hb0 dL_acts_344 (by decide) ?_
          refine lv_goto (tgt := 349) hx hb0 dL_acts_345 (by decide) ?_
          refine W.widen (k := 3) (n := 18) (Nat.le_of_ble_eq_true rfl) (Nat.le_of_ble_eq_true rfl) ?_
          exact g_zretS hx hb0 hr hH hlocks dL_acts_349 h
      have hJ212 : ∀  (H : Heap) (locs : List Loc) (ls : Array Slot), gH D G s H locs σ μ → lv_has ls 18 [(7, .int (gI q7)), (0, .ref (G.1 0)), (1, .ref (G.1 136))] → (DL_acts_J212 σ q7) = some (r, σ') → W p l e (headSpec (gWs yL_acts cL_acts 18 (some (Jvm.ClassFile.FieldType.boolean))) ({ frames := 10, cells := 3, slots := 18, locals := 197 } : Room)).room s m ([.ref (G.1 0), .ref (G.1 136), .ref (G.1 137), .ref (G.1 138), .ref (G.1 139), .ref (G.1 140), .int (gI a6)] : List Value).toArray below meth c H locs 0 0 (MQ below (gQi D G r σ' μ) ([.ref (G.1 0), .ref (G.1 136), .ref (G.1 137), .ref (G.1 138), .ref (G.1 139), .ref (G.1 140), .int (gI a6)] : List Value).toArray s 3 18 (gA G)) (F0 m 212 ls []) := by
        intro H locs ls hH hl h
        unfold DL_acts_J212 at h
        refine lv_iload hx hb0 dL_acts_212 (lv_at hl 0 rfl) ?_
        refine lv_iconst (v := gI (4 : Int)) hx hb0 dL_acts_214 (by decide) ?_
        refine g_irem hx hb0 dL_acts_215 h (fun h => ?_)
        refine lv_istore (lv' := [(12, .int (gI (q7 % (4 : Int)))), (7, .int (gI q7)), (0, .ref (G.1 0)), (1, .ref (G.1 136))]) hx hb0 dL_acts_216 hl (by decide) rfl (fun ls hl => ?_)
        refine lv_iload hx hb0 dL_acts_218 (lv_at hl 0 rfl) ?_
        have hJ259 : ∀ (t0_259 : Int) (H : Heap) (locs : List Loc) (ls : Array Slot), gH D G s H locs σ μ → lv_has ls 18 [(12, .int (gI (q7 % (4 : Int)))), (0, .ref (G.1 0)), (1, .ref (G.1 136))] → (DL_acts_J259 σ q7 t0_259) = some (r, σ') → W p l e (headSpec (gWs yL_acts cL_acts 18 (some (Jvm.ClassFile.FieldType.boolean))) ({ frames := 10, cells := 3, slots := 18, locals := 197 } : Room)).room s m ([.ref (G.1 0), .ref (G.1 136), .ref (G.1 137), .ref (G.1 138), .ref (G.1 139), .ref (G.1 140), .int (gI a6)] : List Value).toArray below meth c H locs 0 0 (MQ below (gQi D G r σ' μ) ([.ref (G.1 0), .ref (G.1 136), .ref (G.1 137), .ref (G.1 138), .ref (G.1 139), .ref (G.1 140), .int (gI a6)] : List Value).toArray s 3 18 (gA G)) (F0 m 259 ls [.int (gI t0_259)]) := by
          intro t0_259 H locs ls hH hl h
          unfold DL_acts_J259 at h
          refine lv_istore (lv' := [(13, .int (gI t0_259)), (12, .int (gI (q7 % (4 : Int)))), (0, .ref (G.1 0)), (1, .ref (G.1 136))]) hx hb0 dL_acts_259 hl (by decide) rfl (fun ls hl => ?_)
          refine lv_aload_n hx hb0 dL_acts_261 rfl (lv_at hl 3 rfl) ?_
          refine lv_iload hx hb0 dL_acts_262 (lv_at hl 1 rfl) ?_
          refine g_iald hx hb0 hX hH (k := 136) (rfl : gKinds[136]? = _) (by decide) dL_acts_264 h (fun h => ?_)
          refine lv_istore (lv' := [(14, .int (gI (σ 136 (Int.toNat (q7 % (4 : Int)))))), (13, .int (gI t0_259)), (12, .int (gI (q7 % (4 : Int)))), (0, .ref (G.1 0)), (1, .ref (G.1 136))]) hx hb0 dL_acts_265 hl (by decide) rfl (fun ls hl => ?_)
          refine lv_aload_n hx hb0 dL_acts_267 rfl (lv_at hl 4 rfl) ?_
          refine lv_iload hx hb0 dL_acts_268 (lv_at hl 2 rfl) ?_
          refine lv_iload hx hb0 dL_acts_270 (lv_at hl 1 rfl) ?_
          refine g_iast hx hb0 hX hH (k := 136) (rfl : gKinds[136]? = _) (by decide) dL_acts_272 h (fun h H locs hH => ?_)
          refine lv_aload_n hx hb0 dL_acts_273 rfl (lv_at hl 3 rfl) ?_
          refine lv_iload hx hb0 dL_acts_274 (lv_at hl 2 rfl) ?_
          refine lv_iload hx hb0 dL_acts_276 (lv_at hl 1 rfl) ?_
          obtain ⟨q278, e278, h⟩ := gBind_some h
          refine g_callWi (As := [.ref (G.1 0), .int (gI (q7 % (4 : Int))), .int (gI t0_259)]) (rest := []) ⟨hx, hb0, hml, hown, hts⟩ (metL_sets l hlt D G (gUp σ 136 (Int.toNat (q7 % (4 : Int))) t0_259) μ (q7 % (4 : Int)) t0_259 q278.1 q278.2 e278) (g_cwW 3 hts q_ml_L_35 q_st_L_sets q_in_L q_cw_L_sets ⟨rfl, rfl⟩ (by decide +kernel) ⟨Nat.le_of_ble_eq_true rfl, Nat.le_of_ble_eq_true rfl⟩) hX hH rfl hl.1 rfl (Nat.le_of_ble_eq_true rfl) dL_acts_278 ⟨Nat.le_of_ble_eq_true rfl, Nat.le_of_ble_eq_true rfl⟩ (fun H locs hH => ?_)
          refine lv_iload hx hb0 dL_acts_281 (lv_at hl 0 rfl) ?_
          refine g_icmp_ne (tgt := 290) hx hb0 dL_acts_283 (by decide) h (fun h => ?_) (fun h => ?_)
          · refine lv_iconst (v := gI (0 : Int)) hx hb0 dL_acts_290 (by decide) ?_
            refine W.widen (k := 3) (n := 18) (Nat.le_of_ble_eq_true rfl) (Nat.le_of_ble_eq_true rfl) ?_
            exact g_zretS hx hb0 hr hH hlocks dL_acts_291 h
          · refine lv_iconst (v := gI (1 : Int)) hx hb0 dL_acts_286 (by decide) ?_
            refine lv_goto (tgt := 291) hx hb0 dL_acts_287 (by decide) ?_
            refine W.widen (k := 3) (n := 18) (Nat.le_of_ble_eq_true rfl) (Nat.le_of_ble_eq_true rfl) ?_
            exact g_zretS hx hb0 hr hH hlocks dL_acts_291 h
        refine g_if_ne (tgt := 235) hx hb0 dL_acts_220 (by decide) h (fun h => ?_) (fun h => ?_)
        · refine lv_iload hx hb0 dL_acts_235 (lv_at hl 0 rfl) ?_
          refine lv_iconst (v := gI (1 : Int)) hx hb0 dL_acts_237 (by decide) ?_
          refine g_icmp_ne (tgt := 253) hx hb0 dL_acts_238 (by decide) h (fun h => ?_) (fun h => ?_)
          · refine lv_iload hx hb0 dL_acts_253 (lv_at hl 1 rfl) ?_
            refine lv_iconst (v := gI (4 : Int)) hx hb0 dL_acts_255 (by decide) ?_
            refine g_idiv hx hb0 dL_acts_256 h (fun h => ?_)
            refine lv_iconst (v := gI (2 : Int)) hx hb0 dL_acts_257 (by decide) ?_
            refine g_irem hx hb0 dL_acts_258 h (fun h => ?_)
            exact hJ259 _ _ _ _ hH (lv_sub hl [0, 2, 3] rfl) h
          · refine lv_iconst (v := gI (5 : Int)) hx hb0 dL_acts_241 (by decide) ?_
            refine lv_iload hx hb0 dL_acts_242 (lv_at hl 1 rfl) ?_
            refine lv_iconst (v := gI (4 : Int)) hx hb0 dL_acts_244 (by decide) ?_
            refine g_idiv hx hb0 dL_acts_245 h (fun h => ?_)
            refine lv_bipush (v := gI (56 : Int)) hx hb0 dL_acts_246 (by decide) ?_
            refine g_irem hx hb0 dL_acts_248 h (fun h => ?_)
            refine g_iadd hx hb0 dL_acts_249 ?_
            refine lv_goto (tgt := 259) hx hb0 dL_acts_250 (by decide) ?_
            exact hJ259 _ _ _ _ hH (lv_sub hl [0, 2, 3] rfl) h
        · refine lv_iconst (v := gI (3 : Int)) hx hb0 dL_acts_223 (by decide) ?_
          refine lv_iload hx hb0 dL_acts_224 (lv_at hl 1 rfl) ?_
          refine lv_iconst (v := gI (4 : Int)) hx hb0 dL_acts_226 (by decide) ?_
          refine g_idiv hx hb0 dL_acts_227 h (fun h => ?_)
          refine lv_bipush (v := gI (18 : Int)) hx hb0 dL_acts_228 (by decide) ?_
          refine g_irem hx hb0 dL_acts_230 h (fun h => ?_)
          refine g_iadd hx hb0 dL_acts_231 ?_
          refine lv_goto (tgt := 259) hx hb0 dL_acts_232 (by decide) ?_
          exact hJ259 _ _ _ _ hH (lv_sub hl [0, 2, 3] rfl) h
      obtain ⟨hgr, -, h⟩ := gIf_some h
      rcases h with ⟨hc5, h⟩ | ⟨hc5, h⟩
      · refine g_tabIn (i := (5 : Int)) (tgt := 212) hx hb0 dL_acts_177 hc5 (by decide) (by decide) (by decide) rfl (by decide) ?_
        exact hJ212  _ _ _ hH (lv_sub hl [4, 5, 6] rfl) h
      · obtain ⟨hgr, -, h⟩ := gIf_some h
        rcases h with ⟨hc6, h⟩ | ⟨hc6, h⟩
        · refine g_tabIn (i := (6 : Int)) (tgt := 212) hx hb0 dL_acts_177 hc6 (by decide) (by decide) (by decide) rfl (by decide) ?_
          exact hJ212  _ _ _ hH (lv_sub hl [4, 5, 6] rfl) h
        · obtain ⟨hgr, -, h⟩ := gIf_some h
          rcases h with ⟨hc7, h⟩ | ⟨hc7, h⟩
          · refine g_tabIn (i := (7 : Int)) (tgt := 292) hx hb0 dL_acts_177 hc7 (by decide) (by decide) (by decide) rfl (by decide) ?_
            exact hJ292 _ _ _ _ hH (lv_sub hl [1, 4, 5, 8, 9] rfl) h
          · obtain ⟨hgr, -, h⟩ := gIf_some h
            rcases h with ⟨hc8, h⟩ | ⟨hc8, h⟩
            · refine g_tabIn (i := (8 : Int)) (tgt := 292) hx hb0 dL_acts_177 hc8 (by decide) (by decide) (by decide) rfl (by decide) ?_
              exact hJ292 _ _ _ _ hH (lv_sub hl [1, 4, 5, 8, 9] rfl) h
            · obtain ⟨hgr, -, h⟩ := gIf_some h
              rcases h with ⟨hc9, h⟩ | ⟨hc9, h⟩
              · refine g_tabIn (i := (9 : Int)) (tgt := 350) hx hb0 dL_acts_177 hc9 (by decide) (by decide) (by decide) rfl (by decide) ?_
                refine lv_iload hx hb0 dL_acts_350 (lv_at hl 4 rfl) ?_
                refine lv_iconst (v := gI (3 : Int)) hx hb0 dL_acts_352 (by decide) ?_
                refine g_irem hx hb0 dL_acts_353 h (fun h => ?_)
                refine g_if_le (tgt := 397) hx hb0 dL_acts_354 (by decide) h (fun h => ?_) (fun h => ?_)
                · refine lv_iconst (v := gI (0 : Int)) hx hb0 dL_acts_397 (by decide) ?_
                  refine lv_istore (lv' := [(16, .int (gI (0 : Int))), (11, .int (gI (q7 % (σ 136 (Int.toNat (4 : Int)))))), (10, .int (gI q163)), (9, .int (gI q21)), (8, .int (gI (σ 136 (Int.toNat (4 : Int))))), (7, .int (gI q7)), (0, .ref (G.1 0)), (1, .ref (G.1 136)), (2, .ref (G.1 137)), (3, .ref (G.1 138)), (4, .ref (G.1 139)), (5, .ref (G.1 140)), (6, .int (gI a6))]) hx hb0 dL_acts_398 hl (by decide) rfl (fun ls hl => ?_)
                  refine lv_aload_n hx hb0 dL_acts_400 rfl (lv_at hl 7 rfl) ?_
                  refine lv_iconst (v := gI (5 : Int)) hx hb0 dL_acts_401 (by decide) ?_
                  refine g_iald hx hb0 hX hH (k := 136) (rfl : gKinds[136]? = _) (by decide) dL_acts_402 h (fun h => ?_)
                  refine lv_iconst (v := gI (1 : Int)) hx hb0 dL_acts_403 (by decide) ?_
                  refine g_isub hx hb0 dL_acts_404 ?_
                  refine lv_istore (lv' := [(17, .int (gI ((σ 136 (Int.toNat (5 : Int))) - (1 : Int)))), (16, .int (gI (0 : Int))), (11, .int (gI (q7 % (σ 136 (Int.toNat (4 : Int)))))), (10, .int (gI q163)), (9, .int (gI q21)), (8, .int (gI (σ 136 (Int.toNat (4 : Int))))), (7, .int (gI q7)), (0, .ref (G.1 0)), (1, .ref (G.1 136)), (2, .ref (G.1 137)), (3, .ref (G.1 138)), (4, .ref (G.1 139)), (5, .ref (G.1 140)), (6, .int (gI a6))]) hx hb0 dL_acts_405 hl (by decide) rfl (fun ls hl => ?_)
                  have hK455 : ∀ (x16_455 : Int) (σ455 : gSt) (H : Heap) (locs : List Loc) (ls : Array Slot), gH D G s H locs σ455 μ → lv_has ls 18 [(16, .int (gI x16_455)), (10, .int (gI q163)), (0, .ref (G.1 0)), (1, .ref (G.1 136)), (2, .ref (G.1 137)), (3, .ref (G.1 138)), (4, .ref (G.1 139)), (5, .ref (G.1 140))] → (DL_acts_K455 q163 x16_455 σ455) = some (r, σ') → W p l e (headSpec (gWs yL_acts cL_acts 18 (some (Jvm.ClassFile.FieldType.boolean))) ({ frames := 10, cells := 3, slots := 18, locals := 197 } : Room)).room s m ([.ref (G.1 0), .ref (G.1 136), .ref (G.1 137), .ref (G.1 138), .ref (G.1 139), .ref (G.1 140), .int (gI a6)] : List Value).toArray below meth c H locs 0 0 (MQ below (gQi D G r σ' μ) ([.ref (G.1 0), .ref (G.1 136), .ref (G.1 137), .ref (G.1 138), .ref (G.1 139), .ref (G.1 140), .int (gI a6)] : List Value).toArray s 3 18 (gA G)) (F0 m 455 ls []) := by
                    intro x16_455 σ455 H locs ls hH hl h
                    unfold DL_acts_K455 at h
                    refine lv_iconst (v := gI (0 : Int)) hx hb0 dL_acts_455 (by decide) ?_
                    refine lv_istore (lv' := [(17, .int (gI (0 : Int))), (16, .int (gI x16_455)), (10, .int (gI q163)), (0, .ref (G.1 0)), (1, .ref (G.1 136)), (2, .ref (G.1 137)), (3, .ref (G.1 138)), (4, .ref (G.1 139)), (5, .ref (G.1 140))]) hx hb0 dL_acts_456 hl (by decide) rfl (fun ls hl => ?_)
                    have hK518 : ∀ (σ518 : gSt) (H : Heap) (locs : List Loc) (ls : Array Slot), gH D G s H locs σ518 μ → lv_has ls 18 [(16, .int (gI x16_455)), (10, .int (gI q163)), (0, .ref (G.1 0)), (1, .ref (G.1 136)), (2, .ref (G.1 137)), (3, .ref (G.1 138)), (4, .ref (G.1 139))] → (DL_acts_K518 q163 x16_455 σ518) = some (r, σ') → W p l e (headSpec (gWs yL_acts cL_acts 18 (some (Jvm.ClassFile.FieldType.boolean))) ({ frames := 10, cells := 3, slots := 18, locals := 197 } : Room)).room s m ([.ref (G.1 0), .ref (G.1 136), .ref (G.1 137), .ref (G.1 138), .ref (G.1 139), .ref (G.1 140), .int (gI a6)] : List Value).toArray below meth c H locs 0 0 (MQ below (gQi D G r σ' μ) ([.ref (G.1 0), .ref (G.1 136), .ref (G.1 137), .ref (G.1 138), .ref (G.1 139), .ref (G.1 140), .int (gI a6)] : List Value).toArray s 3 18 (gA G)) (F0 m 518 ls []) := by
                      intro σ518 H locs ls hH hl h
                      unfold DL_acts_K518 at h
                      refine lv_aload_n hx hb0 dL_acts_518 rfl (lv_at hl 3 rfl) ?_
                      refine lv_iconst (v := gI (4 : Int)) hx hb0 dL_acts_519 (by decide) ?_
                      refine lv_dup2_11 hx hb0 dL_acts_520 rfl rfl ?_
                      refine g_iald hx hb0 hX hH (k := 136) (rfl : gKinds[136]? = _) (by decide) dL_acts_521 h (fun h => ?_)
                      refine lv_iconst (v := gI (1 : Int)) hx hb0 dL_acts_522 (by decide) ?_
                      refine g_isub hx hb0 dL_acts_523 ?_
                      refine g_iast hx hb0 hX hH (k := 136) (rfl : gKinds[136]? = _) (by decide) dL_acts_524 h (fun h H locs hH => ?_)
                      refine lv_iload hx hb0 dL_acts_525 (lv_at hl 1 rfl) ?_
                      refine lv_istore (lv' := [(17, .int (gI q163)), (16, .int (gI x16_455)), (10, .int (gI q163)), (0, .ref (G.1 0)), (1, .ref (G.1 136)), (2, .ref (G.1 137)), (3, .ref (G.1 138)), (4, .ref (G.1 139))]) hx hb0 dL_acts_527 hl (by decide) rfl (fun ls hl => ?_)
                      have hK575 : ∀ (σ575 : gSt) (H : Heap) (locs : List Loc) (ls : Array Slot), gH D G s H locs σ575 μ → lv_has ls 18 [(16, .int (gI x16_455)), (10, .int (gI q163)), (0, .ref (G.1 0))] → (DL_acts_K575 q163 x16_455 σ575) = some (r, σ') → W p l e (headSpec (gWs yL_acts cL_acts 18 (some (Jvm.ClassFile.FieldType.boolean))) ({ frames := 10, cells := 3, slots := 18, locals := 197 } : Room)).room s m ([.ref (G.1 0), .ref (G.1 136), .ref (G.1 137), .ref (G.1 138), .ref (G.1 139), .ref (G.1 140), .int (gI a6)] : List Value).toArray below meth c H locs 0 0 (MQ below (gQi D G r σ' μ) ([.ref (G.1 0), .ref (G.1 136), .ref (G.1 137), .ref (G.1 138), .ref (G.1 139), .ref (G.1 140), .int (gI a6)] : List Value).toArray s 3 18 (gA G)) (F0 m 575 ls []) := by
                        intro σ575 H locs ls hH hl h
                        unfold DL_acts_K575 at h
                        refine lv_aload_n hx hb0 dL_acts_575 rfl (lv_at hl 2 rfl) ?_
                        refine lv_iload hx hb0 dL_acts_576 (lv_at hl 1 rfl) ?_
                        obtain ⟨q578, e578, h⟩ := gBind_some h
                        refine g_callWi (As := [.ref (G.1 0), .int (gI q163)]) (rest := []) ⟨hx, hb0, hml, hown, hts⟩ (metL_drops l hlt D G σ575 μ q163 q578.1 q578.2 e578) (g_cwW 2 hts q_ml_L_55 q_st_L_drops q_in_L q_cw_L_drops ⟨rfl, rfl⟩ (by decide +kernel) ⟨Nat.le_of_ble_eq_true rfl, Nat.le_of_ble_eq_true rfl⟩) hX hH rfl hl.1 rfl (Nat.le_of_ble_eq_true rfl) dL_acts_578 ⟨Nat.le_of_ble_eq_true rfl, Nat.le_of_ble_eq_true rfl⟩ (fun H locs hH => ?_)
                        refine lv_iload hx hb0 dL_acts_581 (lv_at hl 0 rfl) ?_
                        refine g_icmp_ne (tgt := 590) hx hb0 dL_acts_583 (by decide) h (fun h => ?_) (fun h => ?_)
                        · refine lv_iconst (v := gI (0 : Int)) hx hb0 dL_acts_590 (by decide) ?_
                          refine W.widen (k := 3) (n := 18) (Nat.le_of_ble_eq_true rfl) (Nat.le_of_ble_eq_true rfl) ?_
                          exact g_zretS hx hb0 hr hH hlocks dL_acts_591 h
                        · refine lv_iconst (v := gI (1 : Int)) hx hb0 dL_acts_586 (by decide) ?_
                          refine lv_goto (tgt := 591) hx hb0 dL_acts_587 (by decide) ?_
                          refine W.widen (k := 3) (n := 18) (Nat.le_of_ble_eq_true rfl) (Nat.le_of_ble_eq_true rfl) ?_
                          exact g_zretS hx hb0 hr hH hlocks dL_acts_591 h
                      have hL529 : ∀ (f529 : Nat) (x17_529 : Int) (σ529 : gSt) (H : Heap) (locs : List Loc) (ls : Array Slot), gH D G s H locs σ529 μ → lv_has ls 18 [(17, .int (gI x17_529)), (16, .int (gI x16_455)), (10, .int (gI q163)), (0, .ref (G.1 0)), (1, .ref (G.1 136)), (2, .ref (G.1 137)), (3, .ref (G.1 138)), (4, .ref (G.1 139))] → (DL_acts_L529 (DL_acts_K575 q163 x16_455) f529 x17_529 σ529) = some (r, σ') → W p l e (headSpec (gWs yL_acts cL_acts 18 (some (Jvm.ClassFile.FieldType.boolean))) ({ frames := 10, cells := 3, slots := 18, locals := 197 } : Room)).room s m ([.ref (G.1 0), .ref (G.1 136), .ref (G.1 137), .ref (G.1 138), .ref (G.1 139), .ref (G.1 140), .int (gI a6)] : List Value).toArray below meth c H locs 0 0 (MQ below (gQi D G r σ' μ) ([.ref (G.1 0), .ref (G.1 136), .ref (G.1 137), .ref (G.1 138), .ref (G.1 139), .ref (G.1 140), .int (gI a6)] : List Value).toArray s 3 18 (gA G)) (F0 m 529 ls []) := by
                        intro f529
                        induction f529 with
                        | zero => intro x17_529 σ529 H locs ls hH hl h; cases h
                        | succ f529 ih529 =>
                          intro x17_529 σ529 H locs ls hH hl h
                          unfold DL_acts_L529 at h
                          refine lv_iload hx hb0 dL_acts_529 (lv_at hl 0 rfl) ?_
                          refine lv_aload_n hx hb0 dL_acts_531 rfl (lv_at hl 4 rfl) ?_
                          refine lv_iconst (v := gI (4 : Int)) hx hb0 dL_acts_532 (by decide) ?_
                          refine g_iald hx hb0 hX hH (k := 136) (rfl : gKinds[136]? = _) (by decide) dL_acts_533 h (fun h => ?_)
                          refine g_icmp_ge (tgt := 575) hx hb0 dL_acts_534 (by decide) h (fun h => ?_) (fun h => ?_)
                          · exact hK575 _ _ _ _ hH (lv_sub hl [1, 2, 3] rfl) h
                          · refine lv_aload_n hx hb0 dL_acts_537 rfl (lv_at hl 5 rfl) ?_
                            refine lv_iload hx hb0 dL_acts_538 (lv_at hl 0 rfl) ?_
                            refine lv_aload_n hx hb0 dL_acts_540 rfl (lv_at hl 5 rfl) ?_
                            refine lv_iload hx hb0 dL_acts_541 (lv_at hl 0 rfl) ?_
                            refine lv_iconst (v := gI (1 : Int)) hx hb0 dL_acts_543 (by decide) ?_
                            refine g_iadd hx hb0 dL_acts_544 ?_
                            refine g_iald hx hb0 hX hH (k := 137) (rfl : gKinds[137]? = _) (by decide) dL_acts_545 h (fun h => ?_)
                            refine g_iast hx hb0 hX hH (k := 137) (rfl : gKinds[137]? = _) (by decide) dL_acts_546 h (fun h H locs hH => ?_)
                            refine lv_aload_n hx hb0 dL_acts_547 rfl (lv_at hl 6 rfl) ?_
                            refine lv_iload hx hb0 dL_acts_548 (lv_at hl 0 rfl) ?_
                            refine lv_aload_n hx hb0 dL_acts_550 rfl (lv_at hl 6 rfl) ?_
                            refine lv_iload hx hb0 dL_acts_551 (lv_at hl 0 rfl) ?_
                            refine lv_iconst (v := gI (1 : Int)) hx hb0 dL_acts_553 (by decide) ?_
                            refine g_iadd hx hb0 dL_acts_554 ?_
                            refine g_iald hx hb0 hX hH (k := 138) (rfl : gKinds[138]? = _) (by decide) dL_acts_555 h (fun h => ?_)
                            refine g_iast hx hb0 hX hH (k := 138) (rfl : gKinds[138]? = _) (by decide) dL_acts_556 h (fun h H locs hH => ?_)
                            refine lv_aload hx hb0 dL_acts_557 (lv_at hl 7 rfl) ?_
                            refine lv_iload hx hb0 dL_acts_559 (lv_at hl 0 rfl) ?_
                            refine lv_aload hx hb0 dL_acts_561 (lv_at hl 7 rfl) ?_
                            refine lv_iload hx hb0 dL_acts_563 (lv_at hl 0 rfl) ?_
                            refine lv_iconst (v := gI (1 : Int)) hx hb0 dL_acts_565 (by decide) ?_
                            refine g_iadd hx hb0 dL_acts_566 ?_
                            refine g_iald hx hb0 hX hH (k := 139) (rfl : gKinds[139]? = _) (by decide) dL_acts_567 h (fun h => ?_)
                            refine g_iast hx hb0 hX hH (k := 139) (rfl : gKinds[139]? = _) (by decide) dL_acts_568 h (fun h H locs hH => ?_)
                            refine g_iinc (k := 0) (n := (1 : Int)) (lv' := [(17, .int (gI (x17_529 + (1 : Int)))), (16, .int (gI x16_455)), (10, .int (gI q163)), (0, .ref (G.1 0)), (1, .ref (G.1 136)), (2, .ref (G.1 137)), (3, .ref (G.1 138)), (4, .ref (G.1 139))]) hx hb0 dL_acts_569 hl rfl (by decide) rfl (fun ls hl => ?_)
                            refine lv_goto (tgt := 529) hx hb0 dL_acts_572 (by decide) ?_
                            exact ih529 _ _ _ _ _ hH (lv_sub hl [0, 1, 2, 3, 4, 5, 6, 7] rfl) h
                      exact hL529 gFuel _ _ _ _ _ hH (lv_sub hl [0, 1, 2, 3, 4, 5, 6, 7] rfl) h
                    have hL458 : ∀ (f458 : Nat) (x17_458 : Int) (σ458 : gSt) (H : Heap) (locs : List Loc) (ls : Array Slot), gH D G s H locs σ458 μ → lv_has ls 18 [(17, .int (gI x17_458)), (16, .int (gI x16_455)), (10, .int (gI q163)), (0, .ref (G.1 0)), (1, .ref (G.1 136)), (2, .ref (G.1 137)), (3, .ref (G.1 138)), (4, .ref (G.1 139)), (5, .ref (G.1 140))] → (DL_acts_L458 (DL_acts_K518 q163 x16_455) q163 f458 x17_458 σ458) = some (r, σ') → W p l e (headSpec (gWs yL_acts cL_acts 18 (some (Jvm.ClassFile.FieldType.boolean))) ({ frames := 10, cells := 3, slots := 18, locals := 197 } : Room)).room s m ([.ref (G.1 0), .ref (G.1 136), .ref (G.1 137), .ref (G.1 138), .ref (G.1 139), .ref (G.1 140), .int (gI a6)] : List Value).toArray below meth c H locs 0 0 (MQ below (gQi D G r σ' μ) ([.ref (G.1 0), .ref (G.1 136), .ref (G.1 137), .ref (G.1 138), .ref (G.1 139), .ref (G.1 140), .int (gI a6)] : List Value).toArray s 3 18 (gA G)) (F0 m 458 ls []) := by
                      intro f458
                      induction f458 with
                      | zero => intro x17_458 σ458 H locs ls hH hl h; cases h
                      | succ f458 ih458 =>
                        intro x17_458 σ458 H locs ls hH hl h
                        unfold DL_acts_L458 at h
                        refine lv_iload hx hb0 dL_acts_458 (lv_at hl 0 rfl) ?_
                        refine lv_aload_n hx hb0 dL_acts_460 rfl (lv_at hl 4 rfl) ?_
                        refine lv_iconst (v := gI (5 : Int)) hx hb0 dL_acts_461 (by decide) ?_
                        refine g_iald hx hb0 hX hH (k := 136) (rfl : gKinds[136]? = _) (by decide) dL_acts_462 h (fun h => ?_)
                        refine g_icmp_ge (tgt := 518) hx hb0 dL_acts_463 (by decide) h (fun h => ?_) (fun h => ?_)
                        · exact hK518 _ _ _ _ hH (lv_sub hl [1, 2, 3, 4, 5, 6, 7] rfl) h
                        · refine lv_aload hx hb0 dL_acts_466 (lv_at hl 8 rfl) ?_
                          refine lv_iload hx hb0 dL_acts_468 (lv_at hl 0 rfl) ?_
                          refine lv_dup2_11 hx hb0 dL_acts_470 rfl rfl ?_
                          refine g_iald hx hb0 hX hH (k := 140) (rfl : gKinds[140]? = _) (by decide) dL_acts_471 h (fun h => ?_)
                          refine lv_aload hx hb0 dL_acts_472 (lv_at hl 8 rfl) ?_
                          refine lv_iload hx hb0 dL_acts_474 (lv_at hl 0 rfl) ?_
                          refine g_iald hx hb0 hX hH (k := 140) (rfl : gKinds[140]? = _) (by decide) dL_acts_476 h (fun h => ?_)
                          refine lv_bipush (v := gI (32 : Int)) hx hb0 dL_acts_477 (by decide) ?_
                          refine g_idiv hx hb0 dL_acts_479 h (fun h => ?_)
                          refine lv_iload hx hb0 dL_acts_480 (lv_at hl 2 rfl) ?_
                          have hJ491 : ∀ (t0_491 : Int) (H : Heap) (locs : List Loc) (ls : Array Slot), gH D G s H locs σ458 μ → lv_has ls 18 [(17, .int (gI x17_458)), (16, .int (gI x16_455)), (10, .int (gI q163)), (0, .ref (G.1 0)), (1, .ref (G.1 136)), (2, .ref (G.1 137)), (3, .ref (G.1 138)), (4, .ref (G.1 139)), (5, .ref (G.1 140))] → (DL_acts_J491 q163 (DL_acts_L458 (DL_acts_K518 q163 x16_455) q163 f458) x17_458 σ458 t0_491) = some (r, σ') → W p l e (headSpec (gWs yL_acts cL_acts 18 (some (Jvm.ClassFile.FieldType.boolean))) ({ frames := 10, cells := 3, slots := 18, locals := 197 } : Room)).room s m ([.ref (G.1 0), .ref (G.1 136), .ref (G.1 137), .ref (G.1 138), .ref (G.1 139), .ref (G.1 140), .int (gI a6)] : List Value).toArray below meth c H locs 0 0 (MQ below (gQi D G r σ' μ) ([.ref (G.1 0), .ref (G.1 136), .ref (G.1 137), .ref (G.1 138), .ref (G.1 139), .ref (G.1 140), .int (gI a6)] : List Value).toArray s 3 18 (gA G)) (F0 m 491 ls [.int (gI t0_491), .int (gI (σ458 140 (Int.toNat x17_458))), .int (gI x17_458), .ref (G.1 140)]) := by
                            intro t0_491 H locs ls hH hl h
                            unfold DL_acts_J491 at h
                            refine lv_aload hx hb0 dL_acts_491 (lv_at hl 8 rfl) ?_
                            refine lv_iload hx hb0 dL_acts_493 (lv_at hl 0 rfl) ?_
                            refine g_iald hx hb0 hX hH (k := 140) (rfl : gKinds[140]? = _) (by decide) dL_acts_495 h (fun h => ?_)
                            refine lv_bipush (v := gI (32 : Int)) hx hb0 dL_acts_496 (by decide) ?_
                            refine g_irem hx hb0 dL_acts_498 h (fun h => ?_)
                            refine lv_iload hx hb0 dL_acts_499 (lv_at hl 2 rfl) ?_
                            have hJ509 : ∀ (t0_509 : Int) (H : Heap) (locs : List Loc) (ls : Array Slot), gH D G s H locs σ458 μ → lv_has ls 18 [(17, .int (gI x17_458)), (16, .int (gI x16_455)), (10, .int (gI q163)), (0, .ref (G.1 0)), (1, .ref (G.1 136)), (2, .ref (G.1 137)), (3, .ref (G.1 138)), (4, .ref (G.1 139)), (5, .ref (G.1 140))] → (DL_acts_J509 (DL_acts_L458 (DL_acts_K518 q163 x16_455) q163 f458) x17_458 σ458 t0_491 t0_509) = some (r, σ') → W p l e (headSpec (gWs yL_acts cL_acts 18 (some (Jvm.ClassFile.FieldType.boolean))) ({ frames := 10, cells := 3, slots := 18, locals := 197 } : Room)).room s m ([.ref (G.1 0), .ref (G.1 136), .ref (G.1 137), .ref (G.1 138), .ref (G.1 139), .ref (G.1 140), .int (gI a6)] : List Value).toArray below meth c H locs 0 0 (MQ below (gQi D G r σ' μ) ([.ref (G.1 0), .ref (G.1 136), .ref (G.1 137), .ref (G.1 138), .ref (G.1 139), .ref (G.1 140), .int (gI a6)] : List Value).toArray s 3 18 (gA G)) (F0 m 509 ls [.int (gI t0_509), .int (gI t0_491), .int (gI (σ458 140 (Int.toNat x17_458))), .int (gI x17_458), .ref (G.1 140)]) := by
                              intro t0_509 H locs ls hH hl h
                              unfold DL_acts_J509 at h
                              refine g_iadd hx hb0 dL_acts_509 ?_
                              refine g_isub hx hb0 dL_acts_510 ?_
                              refine g_iast hx hb0 hX hH (k := 140) (rfl : gKinds[140]? = _) (by decide) dL_acts_511 h (fun h H locs hH => ?_)
                              refine g_iinc (k := 0) (n := (1 : Int)) (lv' := [(17, .int (gI (x17_458 + (1 : Int)))), (16, .int (gI x16_455)), (10, .int (gI q163)), (0, .ref (G.1 0)), (1, .ref (G.1 136)), (2, .ref (G.1 137)), (3, .ref (G.1 138)), (4, .ref (G.1 139)), (5, .ref (G.1 140))]) hx hb0 dL_acts_512 hl rfl (by decide) rfl (fun ls hl => ?_)
                              refine lv_goto (tgt := 458) hx hb0 dL_acts_515 (by decide) ?_
                              exact ih458 _ _ _ _ _ hH (lv_sub hl [0, 1, 2, 3, 4, 5, 6, 7, 8] rfl) h
                            refine g_icmp_le (tgt := 508) hx hb0 dL_acts_501 (by decide) h (fun h => ?_) (fun h => ?_)
                            · refine lv_iconst (v := gI (0 : Int)) hx hb0 dL_acts_508 (by decide) ?_
                              exact hJ509 _ _ _ _ hH (lv_sub hl [0, 1, 2, 3, 4, 5, 6, 7, 8] rfl) h
                            · refine lv_iconst (v := gI (1 : Int)) hx hb0 dL_acts_504 (by decide) ?_
                              refine lv_goto (tgt := 509) hx hb0 dL_acts_505 (by decide) ?_
                              exact hJ509 _ _ _ _ hH (lv_sub hl [0, 1, 2, 3, 4, 5, 6, 7, 8] rfl) h
                          refine g_icmp_le (tgt := 490) hx hb0 dL_acts_482 (by decide) h (fun h => ?_) (fun h => ?_)
                          · refine lv_iconst (v := gI (0 : Int)) hx hb0 dL_acts_490 (by decide) ?_
                            exact hJ491 _ _ _ _ hH (lv_sub hl [0, 1, 2, 3, 4, 5, 6, 7, 8] rfl) h
                          · refine lv_bipush (v := gI (32 : Int)) hx hb0 dL_acts_485 (by decide) ?_
                            refine lv_goto (tgt := 491) hx hb0 dL_acts_487 (by decide) ?_
                            exact hJ491 _ _ _ _ hH (lv_sub hl [0, 1, 2, 3, 4, 5, 6, 7, 8] rfl) h
                    exact hL458 gFuel _ _ _ _ _ hH (lv_sub hl [0, 1, 2, 3, 4, 5, 6, 7, 8] rfl) h
                  have hL407 : ∀ (f407 : Nat) (x17_407 : Int) (x16_407 : Int) (σ407 : gSt) (H : Heap) (locs : List Loc) (ls : Array Slot), gH D G s H locs σ407 μ → lv_has ls 18 [(17, .int (gI x17_407)), (16, .int (gI x16_407)), (10, .int (gI q163)), (0, .ref (G.1 0)), (1, .ref (G.1 136)), (2, .ref (G.1 137)), (3, .ref (G.1 138)), (4, .ref (G.1 139)), (5, .ref (G.1 140))] → (DL_acts_L407 (DL_acts_K455 q163) q163 f407 x17_407 x16_407 σ407) = some (r, σ') → W p l e (headSpec (gWs yL_acts cL_acts 18 (some (Jvm.ClassFile.FieldType.boolean))) ({ frames := 10, cells := 3, slots := 18, locals := 197 } : Room)).room s m ([.ref (G.1 0), .ref (G.1 136), .ref (G.1 137), .ref (G.1 138), .ref (G.1 139), .ref (G.1 140), .int (gI a6)] : List Value).toArray below meth c H locs 0 0 (MQ below (gQi D G r σ' μ) ([.ref (G.1 0), .ref (G.1 136), .ref (G.1 137), .ref (G.1 138), .ref (G.1 139), .ref (G.1 140), .int (gI a6)] : List Value).toArray s 3 18 (gA G)) (F0 m 407 ls []) := by
                    intro f407
                    induction f407 with
                    | zero => intro x17_407 x16_407 σ407 H locs ls hH hl h; cases h
                    | succ f407 ih407 =>
                      intro x17_407 x16_407 σ407 H locs ls hH hl h
                      unfold DL_acts_L407 at h
                      refine lv_iload hx hb0 dL_acts_407 (lv_at hl 0 rfl) ?_
                      refine g_if_lt (tgt := 455) hx hb0 dL_acts_409 (by decide) h (fun h => ?_) (fun h => ?_)
                      · exact hK455 _ _ _ _ _ hH (lv_sub hl [1, 2, 3, 4, 5, 6, 7, 8] rfl) h
                      · refine lv_aload hx hb0 dL_acts_412 (lv_at hl 8 rfl) ?_
                        refine lv_iload hx hb0 dL_acts_414 (lv_at hl 0 rfl) ?_
                        refine g_iald hx hb0 hX hH (k := 140) (rfl : gKinds[140]? = _) (by decide) dL_acts_416 h (fun h => ?_)
                        refine lv_bipush (v := gI (32 : Int)) hx hb0 dL_acts_417 (by decide) ?_
                        refine g_idiv hx hb0 dL_acts_419 h (fun h => ?_)
                        refine lv_iload hx hb0 dL_acts_420 (lv_at hl 2 rfl) ?_
                        have hJ449 : ∀ (x16_449 : Int) (σ449 : gSt) (H : Heap) (locs : List Loc) (ls : Array Slot), gH D G s H locs σ449 μ → lv_has ls 18 [(17, .int (gI x17_407)), (16, .int (gI x16_449)), (10, .int (gI q163)), (0, .ref (G.1 0)), (1, .ref (G.1 136)), (2, .ref (G.1 137)), (3, .ref (G.1 138)), (4, .ref (G.1 139)), (5, .ref (G.1 140))] → (DL_acts_J449 (DL_acts_L407 (DL_acts_K455 q163) q163 f407) x17_407 x16_449 σ449) = some (r, σ') → W p l e (headSpec (gWs yL_acts cL_acts 18 (some (Jvm.ClassFile.FieldType.boolean))) ({ frames := 10, cells := 3, slots := 18, locals := 197 } : Room)).room s m ([.ref (G.1 0), .ref (G.1 136), .ref (G.1 137), .ref (G.1 138), .ref (G.1 139), .ref (G.1 140), .int (gI a6)] : List Value).toArray below meth c H locs 0 0 (MQ below (gQi D G r σ' μ) ([.ref (G.1 0), .ref (G.1 136), .ref (G.1 137), .ref (G.1 138), .ref (G.1 139), .ref (G.1 140), .int (gI a6)] : List Value).toArray s 3 18 (gA G)) (F0 m 449 ls []) := by
                          intro x16_449 σ449 H locs ls hH hl h
                          unfold DL_acts_J449 at h
                          refine g_iinc (k := 0) (n := (-1 : Int)) (lv' := [(17, .int (gI (x17_407 + (-1 : Int)))), (16, .int (gI x16_449)), (10, .int (gI q163)), (0, .ref (G.1 0)), (1, .ref (G.1 136)), (2, .ref (G.1 137)), (3, .ref (G.1 138)), (4, .ref (G.1 139)), (5, .ref (G.1 140))]) hx hb0 dL_acts_449 hl rfl (by decide) rfl (fun ls hl => ?_)
                          refine lv_goto (tgt := 407) hx hb0 dL_acts_452 (by decide) ?_
                          exact ih407 _ _ _ _ _ _ hH (lv_sub hl [0, 1, 2, 3, 4, 5, 6, 7, 8] rfl) h
                        have hJ438 : ∀  (H : Heap) (locs : List Loc) (ls : Array Slot), gH D G s H locs σ407 μ → lv_has ls 18 [(17, .int (gI x17_407)), (16, .int (gI x16_407)), (10, .int (gI q163)), (0, .ref (G.1 0)), (1, .ref (G.1 136)), (2, .ref (G.1 137)), (3, .ref (G.1 138)), (4, .ref (G.1 139)), (5, .ref (G.1 140))] → (DL_acts_J438 (DL_acts_L407 (DL_acts_K455 q163) q163 f407) x17_407 x16_407 σ407) = some (r, σ') → W p l e (headSpec (gWs yL_acts cL_acts 18 (some (Jvm.ClassFile.FieldType.boolean))) ({ frames := 10, cells := 3, slots := 18, locals := 197 } : Room)).room s m ([.ref (G.1 0), .ref (G.1 136), .ref (G.1 137), .ref (G.1 138), .ref (G.1 139), .ref (G.1 140), .int (gI a6)] : List Value).toArray below meth c H locs 0 0 (MQ below (gQi D G r σ' μ) ([.ref (G.1 0), .ref (G.1 136), .ref (G.1 137), .ref (G.1 138), .ref (G.1 139), .ref (G.1 140), .int (gI a6)] : List Value).toArray s 3 18 (gA G)) (F0 m 438 ls []) := by
                          intro H locs ls hH hl h
                          unfold DL_acts_J438 at h
                          refine lv_aload_n hx hb0 dL_acts_438 rfl (lv_at hl 4 rfl) ?_
                          refine lv_aload hx hb0 dL_acts_439 (lv_at hl 8 rfl) ?_
                          refine lv_iload hx hb0 dL_acts_441 (lv_at hl 0 rfl) ?_
                          obtain ⟨q443, e443, h⟩ := gBind_some h
                          refine g_callSv (As := [.ref (G.1 136), .ref (G.1 140), .int (gI x17_407)]) (rest := []) ⟨hx, hb0, hml, hown, hts⟩ (metL_drop l D G σ407 μ x17_407 q443 e443) (g_cwS 3 hts q_ml_L_51 q_st_L_drop q_in_L q_co_L_drop ⟨rfl, rfl⟩ (by decide +kernel) ⟨Nat.le_of_ble_eq_true rfl, Nat.le_of_ble_eq_true rfl⟩) hX hH rfl hl.1 rfl (Nat.le_of_ble_eq_true rfl) dL_acts_443 ⟨Nat.le_of_ble_eq_true rfl, Nat.le_of_ble_eq_true rfl⟩ (fun H locs hH => ?_)
                          refine g_iinc (k := 1) (n := (1 : Int)) (lv' := [(16, .int (gI (x16_407 + (1 : Int)))), (17, .int (gI x17_407)), (10, .int (gI q163)), (0, .ref (G.1 0)), (1, .ref (G.1 136)), (2, .ref (G.1 137)), (3, .ref (G.1 138)), (4, .ref (G.1 139)), (5, .ref (G.1 140))]) hx hb0 dL_acts_446 hl rfl (by decide) rfl (fun ls hl => ?_)
                          exact hJ449 _ _ _ _ _ hH (lv_sub hl [1, 0, 2, 3, 4, 5, 6, 7, 8] rfl) h
                        refine g_icmp_eq (tgt := 438) hx hb0 dL_acts_422 (by decide) h (fun h => ?_) (fun h => ?_)
                        · exact hJ438  _ _ _ hH (lv_sub hl [0, 1, 2, 3, 4, 5, 6, 7, 8] rfl) h
                        · refine lv_aload hx hb0 dL_acts_425 (lv_at hl 8 rfl) ?_
                          refine lv_iload hx hb0 dL_acts_427 (lv_at hl 0 rfl) ?_
                          refine g_iald hx hb0 hX hH (k := 140) (rfl : gKinds[140]? = _) (by decide) dL_acts_429 h (fun h => ?_)
                          refine lv_bipush (v := gI (32 : Int)) hx hb0 dL_acts_430 (by decide) ?_
                          refine g_irem hx hb0 dL_acts_432 h (fun h => ?_)
                          refine lv_iload hx hb0 dL_acts_433 (lv_at hl 2 rfl) ?_
                          refine g_icmp_ne (tgt := 449) hx hb0 dL_acts_435 (by decide) h (fun h => ?_) (fun h => ?_)
                          · exact hJ449 _ _ _ _ _ hH (lv_sub hl [0, 1, 2, 3, 4, 5, 6, 7, 8] rfl) h
                          · exact hJ438  _ _ _ hH (lv_sub hl [0, 1, 2, 3, 4, 5, 6, 7, 8] rfl) h
                  exact hL407 gFuel _ _ _ _ _ _ hH (lv_sub hl [0, 1, 3, 7, 8, 9, 10, 11, 12] rfl) h
                · refine lv_aload_n hx hb0 dL_acts_357 rfl (lv_at hl 6 rfl) ?_
                  refine lv_iconst (v := gI (5 : Int)) hx hb0 dL_acts_358 (by decide) ?_
                  refine g_iald hx hb0 hX hH (k := 136) (rfl : gKinds[136]? = _) (by decide) dL_acts_359 h (fun h => ?_)
                  refine g_if_ne (tgt := 381) hx hb0 dL_acts_360 (by decide) h (fun h => ?_) (fun h => ?_)
                  · refine lv_aload_n hx hb0 dL_acts_381 rfl (lv_at hl 5 rfl) ?_
                    refine lv_aload_n hx hb0 dL_acts_382 rfl (lv_at hl 6 rfl) ?_
                    refine lv_aload hx hb0 dL_acts_383 (lv_at hl 10 rfl) ?_
                    refine lv_iload hx hb0 dL_acts_385 (lv_at hl 4 rfl) ?_
                    refine lv_iconst (v := gI (3 : Int)) hx hb0 dL_acts_387 (by decide) ?_
                    refine g_idiv hx hb0 dL_acts_388 h (fun h => ?_)
                    refine lv_aload_n hx hb0 dL_acts_389 rfl (lv_at hl 6 rfl) ?_
                    refine lv_iconst (v := gI (5 : Int)) hx hb0 dL_acts_390 (by decide) ?_
                    refine g_iald hx hb0 hX hH (k := 136) (rfl : gKinds[136]? = _) (by decide) dL_acts_391 h (fun h => ?_)
                    refine g_irem hx hb0 dL_acts_392 h (fun h => ?_)
                    obtain ⟨q393, e393, h⟩ := gBind_some h
                    refine g_callAi (As := [.ref (G.1 0), .ref (G.1 136), .ref (G.1 140), .int (gI ((q7 / (3 : Int)) % (σ 136 (Int.toNat (5 : Int)))))]) (rest := []) ⟨hx, hb0, hml, hown, hts⟩ (metL_goes l hlt D G σ μ ((q7 / (3 : Int)) % (σ 136 (Int.toNat (5 : Int)))) q393.1 q393.2 e393) (g_cwA 4 hts q_ml_L_47 q_st_L_goes q_in_L q_co_L_goes ⟨rfl, rfl⟩ (by decide +kernel) ⟨Nat.le_of_ble_eq_true rfl, Nat.le_of_ble_eq_true rfl⟩) hX hH rfl hl.1 rfl (Nat.le_of_ble_eq_true rfl) dL_acts_393 ⟨Nat.le_of_ble_eq_true rfl, Nat.le_of_ble_eq_true rfl⟩ (fun H locs hH => ?_)
                    refine W.widen (k := 3) (n := 18) (Nat.le_of_ble_eq_true rfl) (Nat.le_of_ble_eq_true rfl) ?_
                    exact g_zretS hx hb0 hr hH hlocks dL_acts_396 h
                  · refine lv_aload_n hx hb0 dL_acts_363 rfl (lv_at hl 5 rfl) ?_
                    refine lv_iconst (v := gI (0 : Int)) hx hb0 dL_acts_364 (by decide) ?_
                    obtain ⟨q365, e365, h⟩ := gBind_some h
                    refine g_callWi (As := [.ref (G.1 0), .int (gI (0 : Int))]) (rest := []) ⟨hx, hb0, hml, hown, hts⟩ (metL_unpoints l hlt D G σ μ (0 : Int) q365.1 q365.2 e365) (g_cwW 2 hts q_ml_L_42 q_st_L_unpoints q_in_L q_cw_L_unpoints ⟨rfl, rfl⟩ (by decide +kernel) ⟨Nat.le_of_ble_eq_true rfl, Nat.le_of_ble_eq_true rfl⟩) hX hH rfl hl.1 rfl (Nat.le_of_ble_eq_true rfl) dL_acts_365 ⟨Nat.le_of_ble_eq_true rfl, Nat.le_of_ble_eq_true rfl⟩ (fun H locs hH => ?_)
                    refine lv_ldc (v := gI (-100001 : Int)) hx hb0 hown (hts _ q_ki_L_46) dL_acts_368 ?_
                    refine g_icmp_ne (tgt := 377) hx hb0 dL_acts_370 (by decide) h (fun h => ?_) (fun h => ?_)
                    · refine lv_iconst (v := gI (0 : Int)) hx hb0 dL_acts_377 (by decide) ?_
                      refine lv_goto (tgt := 396) hx hb0 dL_acts_378 (by decide) ?_
                      refine W.widen (k := 3) (n := 18) (Nat.le_of_ble_eq_true rfl) (Nat.le_of_ble_eq_true rfl) ?_
                      exact g_zretS hx hb0 hr hH hlocks dL_acts_396 h
                    · refine lv_iconst (v := gI (1 : Int)) hx hb0 dL_acts_373 (by decide) ?_
                      refine lv_goto (tgt := 396) hx hb0 dL_acts_374 (by decide) ?_
                      refine W.widen (k := 3) (n := 18) (Nat.le_of_ble_eq_true rfl) (Nat.le_of_ble_eq_true rfl) ?_
                      exact g_zretS hx hb0 hr hH hlocks dL_acts_396 h
              · refine g_tabOut (tgt := 592) hx hb0 dL_acts_177 hgr (by omega) (by decide) ?_
                refine lv_iload hx hb0 dL_acts_592 (lv_at hl 1 rfl) ?_
                refine lv_iload hx hb0 dL_acts_594 (lv_at hl 0 rfl) ?_
                refine g_icmp_ne (tgt := 618) hx hb0 dL_acts_596 (by decide) h (fun h => ?_) (fun h => ?_)
                · refine lv_aload_n hx hb0 dL_acts_618 rfl (lv_at hl 6 rfl) ?_
                  refine lv_aload hx hb0 dL_acts_619 (lv_at hl 10 rfl) ?_
                  refine lv_iload hx hb0 dL_acts_621 (lv_at hl 1 rfl) ?_
                  refine lv_iload hx hb0 dL_acts_623 (lv_at hl 0 rfl) ?_
                  obtain ⟨q625, e625, h⟩ := gBind_some h
                  refine g_callSi (As := [.ref (G.1 136), .ref (G.1 140), .int (gI q163), .int (gI (q7 % (σ 136 (Int.toNat (4 : Int)))))]) (rest := []) ⟨hx, hb0, hml, hown, hts⟩ (metL_indexOf l D G σ μ q163 (q7 % (σ 136 (Int.toNat (4 : Int)))) q625 e625) (g_cwS 4 hts q_ml_L_62 q_st_L_indexOf q_in_L q_co_L_indexOf ⟨rfl, rfl⟩ (by decide +kernel) ⟨Nat.le_of_ble_eq_true rfl, Nat.le_of_ble_eq_true rfl⟩) hX hH rfl hl.1 rfl (Nat.le_of_ble_eq_true rfl) dL_acts_625 ⟨Nat.le_of_ble_eq_true rfl, Nat.le_of_ble_eq_true rfl⟩ (fun H locs hH => ?_)
                  have hJ639 : ∀  (H : Heap) (locs : List Loc) (ls : Array Slot), gH D G s H locs σ μ → lv_has ls 18 [(11, .int (gI (q7 % (σ 136 (Int.toNat (4 : Int)))))), (10, .int (gI q163)), (0, .ref (G.1 0))] → (DL_acts_J639 σ q7 q163) = some (r, σ') → W p l e (headSpec (gWs yL_acts cL_acts 18 (some (Jvm.ClassFile.FieldType.boolean))) ({ frames := 10, cells := 3, slots := 18, locals := 197 } : Room)).room s m ([.ref (G.1 0), .ref (G.1 136), .ref (G.1 137), .ref (G.1 138), .ref (G.1 139), .ref (G.1 140), .int (gI a6)] : List Value).toArray below meth c H locs 0 0 (MQ below (gQi D G r σ' μ) ([.ref (G.1 0), .ref (G.1 136), .ref (G.1 137), .ref (G.1 138), .ref (G.1 139), .ref (G.1 140), .int (gI a6)] : List Value).toArray s 3 18 (gA G)) (F0 m 639 ls []) := by
                    intro H locs ls hH hl h
                    unfold DL_acts_J639 at h
                    refine lv_aload_n hx hb0 dL_acts_639 rfl (lv_at hl 2 rfl) ?_
                    refine lv_iload hx hb0 dL_acts_640 (lv_at hl 1 rfl) ?_
                    refine lv_iload hx hb0 dL_acts_642 (lv_at hl 0 rfl) ?_
                    obtain ⟨q644, e644, h⟩ := gBind_some h
                    refine g_callWi (As := [.ref (G.1 0), .int (gI q163), .int (gI (q7 % (σ 136 (Int.toNat (4 : Int)))))]) (rest := []) ⟨hx, hb0, hml, hown, hts⟩ (metL_points l hlt D G σ μ q163 (q7 % (σ 136 (Int.toNat (4 : Int)))) q644.1 q644.2 e644) (g_cwW 3 hts q_ml_L_58 q_st_L_points q_in_L q_cw_L_points ⟨rfl, rfl⟩ (by decide +kernel) ⟨Nat.le_of_ble_eq_true rfl, Nat.le_of_ble_eq_true rfl⟩) hX hH rfl hl.1 rfl (Nat.le_of_ble_eq_true rfl) dL_acts_644 ⟨Nat.le_of_ble_eq_true rfl, Nat.le_of_ble_eq_true rfl⟩ (fun H locs hH => ?_)
                    refine lv_ldc (v := gI (-100003 : Int)) hx hb0 hown (hts _ q_ki_L_34) dL_acts_647 ?_
                    refine g_icmp_ne (tgt := 656) hx hb0 dL_acts_649 (by decide) h (fun h => ?_) (fun h => ?_)
                    · refine lv_iconst (v := gI (0 : Int)) hx hb0 dL_acts_656 (by decide) ?_
                      refine W.widen (k := 3) (n := 18) (Nat.le_of_ble_eq_true rfl) (Nat.le_of_ble_eq_true rfl) ?_
                      exact g_zretS hx hb0 hr hH hlocks dL_acts_657 h
                    · refine lv_iconst (v := gI (1 : Int)) hx hb0 dL_acts_652 (by decide) ?_
                      refine lv_goto (tgt := 657) hx hb0 dL_acts_653 (by decide) ?_
                      refine W.widen (k := 3) (n := 18) (Nat.le_of_ble_eq_true rfl) (Nat.le_of_ble_eq_true rfl) ?_
                      exact g_zretS hx hb0 hr hH hlocks dL_acts_657 h
                  refine g_if_ge (tgt := 639) hx hb0 dL_acts_628 (by decide) h (fun h => ?_) (fun h => ?_)
                  · exact hJ639  _ _ _ hH (lv_sub hl [0, 1, 5] rfl) h
                  · refine lv_aload_n hx hb0 dL_acts_631 rfl (lv_at hl 6 rfl) ?_
                    refine lv_iconst (v := gI (5 : Int)) hx hb0 dL_acts_632 (by decide) ?_
                    refine g_iald hx hb0 hX hH (k := 136) (rfl : gKinds[136]? = _) (by decide) dL_acts_633 h (fun h => ?_)
                    refine lv_bipush (v := gI (30 : Int)) hx hb0 dL_acts_634 (by decide) ?_
                    refine g_icmp_ne (tgt := 658) hx hb0 dL_acts_636 (by decide) h (fun h => ?_) (fun h => ?_)
                    · refine lv_aload hx hb0 dL_acts_658 (lv_at hl 10 rfl) ?_
                      refine lv_aload_n hx hb0 dL_acts_660 rfl (lv_at hl 6 rfl) ?_
                      refine lv_iconst (v := gI (5 : Int)) hx hb0 dL_acts_661 (by decide) ?_
                      refine g_iald hx hb0 hX hH (k := 136) (rfl : gKinds[136]? = _) (by decide) dL_acts_662 h (fun h => ?_)
                      refine lv_bipush (v := gI (32 : Int)) hx hb0 dL_acts_663 (by decide) ?_
                      refine lv_iload hx hb0 dL_acts_665 (lv_at hl 1 rfl) ?_
                      refine g_imul hx hb0 dL_acts_667 ?_
                      refine lv_iload hx hb0 dL_acts_668 (lv_at hl 0 rfl) ?_
                      refine g_iadd hx hb0 dL_acts_670 ?_
                      refine g_iast hx hb0 hX hH (k := 140) (rfl : gKinds[140]? = _) (by decide) dL_acts_671 h (fun h H locs hH => ?_)
                      refine lv_aload_n hx hb0 dL_acts_672 rfl (lv_at hl 6 rfl) ?_
                      refine lv_iconst (v := gI (5 : Int)) hx hb0 dL_acts_673 (by decide) ?_
                      refine lv_dup2_11 hx hb0 dL_acts_674 rfl rfl ?_
                      refine g_iald hx hb0 hX hH (k := 136) (rfl : gKinds[136]? = _) (by decide) dL_acts_675 h (fun h => ?_)
                      refine lv_iconst (v := gI (1 : Int)) hx hb0 dL_acts_676 (by decide) ?_
                      refine g_iadd hx hb0 dL_acts_677 ?_
                      refine g_iast hx hb0 hX hH (k := 136) (rfl : gKinds[136]? = _) (by decide) dL_acts_678 h (fun h H locs hH => ?_)
                      refine lv_aload_n hx hb0 dL_acts_679 rfl (lv_at hl 5 rfl) ?_
                      refine lv_iload hx hb0 dL_acts_680 (lv_at hl 1 rfl) ?_
                      refine lv_iload hx hb0 dL_acts_682 (lv_at hl 0 rfl) ?_
                      obtain ⟨q684, e684, h⟩ := gBind_some h
                      refine g_callWi (As := [.ref (G.1 0), .int (gI q163), .int (gI (q7 % (σ 136 (Int.toNat (4 : Int)))))]) (rest := []) ⟨hx, hb0, hml, hown, hts⟩ (metL_points l hlt D G (gUp (gUp σ 140 (Int.toNat (σ 136 (Int.toNat (5 : Int)))) (((32 : Int) * q163) + (q7 % (σ 136 (Int.toNat (4 : Int)))))) 136 (Int.toNat (5 : Int)) (((gUp σ 140 (Int.toNat (σ 136 (Int.toNat (5 : Int)))) (((32 : Int) * q163) + (q7 % (σ 136 (Int.toNat (4 : Int)))))) 136 (Int.toNat (5 : Int))) + (1 : Int))) μ q163 (q7 % (σ 136 (Int.toNat (4 : Int)))) q684.1 q684.2 e684) (g_cwW 3 hts q_ml_L_58 q_st_L_points q_in_L q_cw_L_points ⟨rfl, rfl⟩ (by decide +kernel) ⟨Nat.le_of_ble_eq_true rfl, Nat.le_of_ble_eq_true rfl⟩) hX hH rfl hl.1 rfl (Nat.le_of_ble_eq_true rfl) dL_acts_684 ⟨Nat.le_of_ble_eq_true rfl, Nat.le_of_ble_eq_true rfl⟩ (fun H locs hH => ?_)
                      refine lv_aload_n hx hb0 dL_acts_687 rfl (lv_at hl 6 rfl) ?_
                      refine lv_iconst (v := gI (5 : Int)) hx hb0 dL_acts_688 (by decide) ?_
                      refine g_iald hx hb0 hX hH (k := 136) (rfl : gKinds[136]? = _) (by decide) dL_acts_689 h (fun h => ?_)
                      refine lv_iconst (v := gI (1 : Int)) hx hb0 dL_acts_690 (by decide) ?_
                      refine g_isub hx hb0 dL_acts_691 ?_
                      refine g_icmp_ne (tgt := 699) hx hb0 dL_acts_692 (by decide) h (fun h => ?_) (fun h => ?_)
                      · refine lv_iconst (v := gI (0 : Int)) hx hb0 dL_acts_699 (by decide) ?_
                        refine W.widen (k := 3) (n := 18) (Nat.le_of_ble_eq_true rfl) (Nat.le_of_ble_eq_true rfl) ?_
                        exact g_zretS hx hb0 hr hH hlocks dL_acts_700 h
                      · refine lv_iconst (v := gI (1 : Int)) hx hb0 dL_acts_695 (by decide) ?_
                        refine lv_goto (tgt := 700) hx hb0 dL_acts_696 (by decide) ?_
                        refine W.widen (k := 3) (n := 18) (Nat.le_of_ble_eq_true rfl) (Nat.le_of_ble_eq_true rfl) ?_
                        exact g_zretS hx hb0 hr hH hlocks dL_acts_700 h
                    · exact hJ639  _ _ _ hH (lv_sub hl [0, 1, 5] rfl) h
                · refine lv_aload_n hx hb0 dL_acts_599 rfl (lv_at hl 5 rfl) ?_
                  refine lv_iload hx hb0 dL_acts_600 (lv_at hl 1 rfl) ?_
                  refine lv_iload hx hb0 dL_acts_602 (lv_at hl 0 rfl) ?_
                  obtain ⟨q604, e604, h⟩ := gBind_some h
                  refine g_callWi (As := [.ref (G.1 0), .int (gI q163), .int (gI (q7 % (σ 136 (Int.toNat (4 : Int)))))]) (rest := []) ⟨hx, hb0, hml, hown, hts⟩ (metL_points l hlt D G σ μ q163 (q7 % (σ 136 (Int.toNat (4 : Int)))) q604.1 q604.2 e604) (g_cwW 3 hts q_ml_L_58 q_st_L_points q_in_L q_cw_L_points ⟨rfl, rfl⟩ (by decide +kernel) ⟨Nat.le_of_ble_eq_true rfl, Nat.le_of_ble_eq_true rfl⟩) hX hH rfl hl.1 rfl (Nat.le_of_ble_eq_true rfl) dL_acts_604 ⟨Nat.le_of_ble_eq_true rfl, Nat.le_of_ble_eq_true rfl⟩ (fun H locs hH => ?_)
                  refine lv_ldc (v := gI (-100002 : Int)) hx hb0 hown (hts _ q_ki_L_61) dL_acts_607 ?_
                  refine g_icmp_ne (tgt := 616) hx hb0 dL_acts_609 (by decide) h (fun h => ?_) (fun h => ?_)
                  · refine lv_iconst (v := gI (0 : Int)) hx hb0 dL_acts_616 (by decide) ?_
                    refine W.widen (k := 3) (n := 18) (Nat.le_of_ble_eq_true rfl) (Nat.le_of_ble_eq_true rfl) ?_
                    exact g_zretS hx hb0 hr hH hlocks dL_acts_617 h
                  · refine lv_iconst (v := gI (1 : Int)) hx hb0 dL_acts_612 (by decide) ?_
                    refine lv_goto (tgt := 617) hx hb0 dL_acts_613 (by decide) ?_
                    refine W.widen (k := 3) (n := 18) (Nat.le_of_ble_eq_true rfl) (Nat.le_of_ble_eq_true rfl) ?_
                    exact g_zretS hx hb0 hr hH hlocks dL_acts_617 h
    · exact hJ38  _ _ _ hH (lv_sub hl [1, 2, 3, 4, 5, 6, 7, 9] rfl) h
