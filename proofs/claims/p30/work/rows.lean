section
-- ===== PART A: goes FIRST, ahead of the names: the tables' words, and 'selects' of the private methods out of them =====
/-- a private method of a class that the tables say can be made, by its rows of tables_1 -/
def lw_okq (q : MethodName × Nat) : Prop := (q.1.cls ≠ "java/lang/invoke/MethodHandle" ∧ q.1.cls ≠ "java/lang/invoke/VarHandle") ∧ Cond.instantiable q.1.cls q.2 ∈ tables_1 ∧ Cond.privateMethod q.1 ∈ tables_1 ∧ Cond.instanceMethod q.1 ∈ tables_1
theorem lw_p0 : lw_okq (⟨"java/lang/Throwable", "fillInStackTrace", "(I)Ljava/lang/Throwable;"⟩, 6) := ⟨⟨by decide +kernel, by decide +kernel⟩, List.mem_of_getElem? (i := 305) (by decide +kernel), List.mem_of_getElem? (i := 303) (by decide +kernel), List.mem_of_getElem? (i := 304) (by decide +kernel)⟩
theorem lw_p1 : lw_okq (⟨"TaskSheets$History", "slot", "(I)LTaskSheets$Plan;"⟩, 3) := ⟨⟨by decide +kernel, by decide +kernel⟩, List.mem_of_getElem? (i := 74) (by decide +kernel), List.mem_of_getElem? (i := 359) (by decide +kernel), List.mem_of_getElem? (i := 360) (by decide +kernel)⟩
theorem lw_p2 : lw_okq (⟨"TaskSheets", "printAnew", "()V"⟩, 10) := ⟨⟨by decide +kernel, by decide +kernel⟩, List.mem_of_getElem? (i := 18) (by decide +kernel), List.mem_of_getElem? (i := 383) (by decide +kernel), List.mem_of_getElem? (i := 384) (by decide +kernel)⟩
theorem lw_p3 : lw_okq (⟨"TaskSheets$Bands", "gather", "(LTaskSheets$Plan;I)V"⟩, 8) := ⟨⟨by decide +kernel, by decide +kernel⟩, List.mem_of_getElem? (i := 125) (by decide +kernel), List.mem_of_getElem? (i := 399) (by decide +kernel), List.mem_of_getElem? (i := 400) (by decide +kernel)⟩
theorem lw_p4 : lw_okq (⟨"TaskSheets$Bands", "insert", "(LTaskSheets$Plan;I)V"⟩, 8) := ⟨⟨by decide +kernel, by decide +kernel⟩, List.mem_of_getElem? (i := 125) (by decide +kernel), List.mem_of_getElem? (i := 408) (by decide +kernel), List.mem_of_getElem? (i := 409) (by decide +kernel)⟩
theorem lw_p5 : lw_okq (⟨"TaskSheets$Bands", "layGroup", "(IZ)V"⟩, 8) := ⟨⟨by decide +kernel, by decide +kernel⟩, List.mem_of_getElem? (i := 125) (by decide +kernel), List.mem_of_getElem? (i := 419) (by decide +kernel), List.mem_of_getElem? (i := 420) (by decide +kernel)⟩
theorem lw_p6 : lw_okq (⟨"TaskSheets$Bands", "beginBand", "()V"⟩, 8) := ⟨⟨by decide +kernel, by decide +kernel⟩, List.mem_of_getElem? (i := 125) (by decide +kernel), List.mem_of_getElem? (i := 423) (by decide +kernel), List.mem_of_getElem? (i := 424) (by decide +kernel)⟩
theorem lw_p7 : lw_okq (⟨"TaskSheets$Bands", "take", "(I)V"⟩, 8) := ⟨⟨by decide +kernel, by decide +kernel⟩, List.mem_of_getElem? (i := 125) (by decide +kernel), List.mem_of_getElem? (i := 431) (by decide +kernel), List.mem_of_getElem? (i := 432) (by decide +kernel)⟩
theorem lw_p8 : lw_okq (⟨"TaskSheets$Sheets", "numberByBands", "(II)V"⟩, 5) := ⟨⟨by decide +kernel, by decide +kernel⟩, List.mem_of_getElem? (i := 158) (by decide +kernel), List.mem_of_getElem? (i := 467) (by decide +kernel), List.mem_of_getElem? (i := 468) (by decide +kernel)⟩
theorem lw_p9 : lw_okq (⟨"TaskSheets$Sheets", "number", "(II)V"⟩, 5) := ⟨⟨by decide +kernel, by decide +kernel⟩, List.mem_of_getElem? (i := 158) (by decide +kernel), List.mem_of_getElem? (i := 471) (by decide +kernel), List.mem_of_getElem? (i := 472) (by decide +kernel)⟩
theorem lw_p10 : lw_okq (⟨"TaskSheets$Sheets", "numberByStrips", "(II)V"⟩, 5) := ⟨⟨by decide +kernel, by decide +kernel⟩, List.mem_of_getElem? (i := 158) (by decide +kernel), List.mem_of_getElem? (i := 477) (by decide +kernel), List.mem_of_getElem? (i := 478) (by decide +kernel)⟩
theorem lw_p11 : lw_okq (⟨"TaskSheets$Exits", "drawInside", "(II)V"⟩, 7) := ⟨⟨by decide +kernel, by decide +kernel⟩, List.mem_of_getElem? (i := 182) (by decide +kernel), List.mem_of_getElem? (i := 512) (by decide +kernel), List.mem_of_getElem? (i := 513) (by decide +kernel)⟩
theorem lw_p12 : lw_okq (⟨"TaskSheets$Exits", "drawThroughExit", "(III)V"⟩, 7) := ⟨⟨by decide +kernel, by decide +kernel⟩, List.mem_of_getElem? (i := 182) (by decide +kernel), List.mem_of_getElem? (i := 517) (by decide +kernel), List.mem_of_getElem? (i := 518) (by decide +kernel)⟩
theorem lw_p13 : lw_okq (⟨"TaskSheets", "requireTask", "(I)V"⟩, 10) := ⟨⟨by decide +kernel, by decide +kernel⟩, List.mem_of_getElem? (i := 18) (by decide +kernel), List.mem_of_getElem? (i := 550) (by decide +kernel), List.mem_of_getElem? (i := 551) (by decide +kernel)⟩
theorem lw_p14 : lw_okq (⟨"TaskSheets", "requireArrow", "(I)V"⟩, 10) := ⟨⟨by decide +kernel, by decide +kernel⟩, List.mem_of_getElem? (i := 18) (by decide +kernel), List.mem_of_getElem? (i := 585) (by decide +kernel), List.mem_of_getElem? (i := 586) (by decide +kernel)⟩
theorem lw_p15 : lw_okq (⟨"TaskSheets$Plan", "dropArrowsOf", "(I)I"⟩, 8) := ⟨⟨by decide +kernel, by decide +kernel⟩, List.mem_of_getElem? (i := 26) (by decide +kernel), List.mem_of_getElem? (i := 622) (by decide +kernel), List.mem_of_getElem? (i := 623) (by decide +kernel)⟩
def lw_privs_1 : List (MethodName × Nat) := [(⟨"java/lang/Throwable", "fillInStackTrace", "(I)Ljava/lang/Throwable;"⟩, 6), (⟨"TaskSheets$History", "slot", "(I)LTaskSheets$Plan;"⟩, 3), (⟨"TaskSheets", "printAnew", "()V"⟩, 10), (⟨"TaskSheets$Bands", "gather", "(LTaskSheets$Plan;I)V"⟩, 8), (⟨"TaskSheets$Bands", "insert", "(LTaskSheets$Plan;I)V"⟩, 8), (⟨"TaskSheets$Bands", "layGroup", "(IZ)V"⟩, 8), (⟨"TaskSheets$Bands", "beginBand", "()V"⟩, 8), (⟨"TaskSheets$Bands", "take", "(I)V"⟩, 8), (⟨"TaskSheets$Sheets", "numberByBands", "(II)V"⟩, 5), (⟨"TaskSheets$Sheets", "number", "(II)V"⟩, 5), (⟨"TaskSheets$Sheets", "numberByStrips", "(II)V"⟩, 5), (⟨"TaskSheets$Exits", "drawInside", "(II)V"⟩, 7), (⟨"TaskSheets$Exits", "drawThroughExit", "(III)V"⟩, 7), (⟨"TaskSheets", "requireTask", "(I)V"⟩, 10), (⟨"TaskSheets", "requireArrow", "(I)V"⟩, 10), (⟨"TaskSheets$Plan", "dropArrowsOf", "(I)I"⟩, 8)]
theorem lw_r1 : ∀ q ∈ lw_privs_1, lw_okq q := List.forall_mem_cons.mpr ⟨lw_p0, List.forall_mem_cons.mpr ⟨lw_p1, List.forall_mem_cons.mpr ⟨lw_p2, List.forall_mem_cons.mpr ⟨lw_p3, List.forall_mem_cons.mpr ⟨lw_p4, List.forall_mem_cons.mpr ⟨lw_p5, List.forall_mem_cons.mpr ⟨lw_p6, List.forall_mem_cons.mpr ⟨lw_p7, List.forall_mem_cons.mpr ⟨lw_p8, List.forall_mem_cons.mpr ⟨lw_p9, List.forall_mem_cons.mpr ⟨lw_p10, List.forall_mem_cons.mpr ⟨lw_p11, List.forall_mem_cons.mpr ⟨lw_p12, List.forall_mem_cons.mpr ⟨lw_p13, List.forall_mem_cons.mpr ⟨lw_p14, List.forall_mem_cons.mpr ⟨lw_p15, fun _ h => absurd h List.not_mem_nil⟩⟩⟩⟩⟩⟩⟩⟩⟩⟩⟩⟩⟩⟩⟩⟩
theorem lw_p16 : lw_okq (⟨"TaskSheets", "numberOfTask", "(II)I"⟩, 10) := ⟨⟨by decide +kernel, by decide +kernel⟩, List.mem_of_getElem? (i := 18) (by decide +kernel), List.mem_of_getElem? (i := 659) (by decide +kernel), List.mem_of_getElem? (i := 660) (by decide +kernel)⟩
theorem lw_p17 : lw_okq (⟨"TaskSheets", "partsOf", "(I)I"⟩, 10) := ⟨⟨by decide +kernel, by decide +kernel⟩, List.mem_of_getElem? (i := 18) (by decide +kernel), List.mem_of_getElem? (i := 674) (by decide +kernel), List.mem_of_getElem? (i := 675) (by decide +kernel)⟩
theorem lw_p18 : lw_okq (⟨"TaskSheets", "numberOfArrow", "(II)I"⟩, 10) := ⟨⟨by decide +kernel, by decide +kernel⟩, List.mem_of_getElem? (i := 18) (by decide +kernel), List.mem_of_getElem? (i := 687) (by decide +kernel), List.mem_of_getElem? (i := 688) (by decide +kernel)⟩
theorem lw_p19 : lw_okq (⟨"TaskSheets", "numberOfPlan", "(I)I"⟩, 10) := ⟨⟨by decide +kernel, by decide +kernel⟩, List.mem_of_getElem? (i := 18) (by decide +kernel), List.mem_of_getElem? (i := 740) (by decide +kernel), List.mem_of_getElem? (i := 741) (by decide +kernel)⟩
theorem lw_p20 : lw_okq (⟨"TaskSheets", "numberOfPart", "(III)I"⟩, 10) := ⟨⟨by decide +kernel, by decide +kernel⟩, List.mem_of_getElem? (i := 18) (by decide +kernel), List.mem_of_getElem? (i := 766) (by decide +kernel), List.mem_of_getElem? (i := 767) (by decide +kernel)⟩
theorem lw_p21 : lw_okq (⟨"TaskSheets", "requireBand", "(I)V"⟩, 10) := ⟨⟨by decide +kernel, by decide +kernel⟩, List.mem_of_getElem? (i := 18) (by decide +kernel), List.mem_of_getElem? (i := 781) (by decide +kernel), List.mem_of_getElem? (i := 782) (by decide +kernel)⟩
theorem lw_p22 : lw_okq (⟨"TaskSheets", "requireRow", "(I)V"⟩, 10) := ⟨⟨by decide +kernel, by decide +kernel⟩, List.mem_of_getElem? (i := 18) (by decide +kernel), List.mem_of_getElem? (i := 786) (by decide +kernel), List.mem_of_getElem? (i := 787) (by decide +kernel)⟩
theorem lw_p23 : lw_okq (⟨"TaskSheets$Chains", "growOnce", "(LTaskSheets$Plan;)Z"⟩, 1) := ⟨⟨by decide +kernel, by decide +kernel⟩, List.mem_of_getElem? (i := 113) (by decide +kernel), List.mem_of_getElem? (i := 805) (by decide +kernel), List.mem_of_getElem? (i := 806) (by decide +kernel)⟩
def lw_privs_2 : List (MethodName × Nat) := [(⟨"TaskSheets", "numberOfTask", "(II)I"⟩, 10), (⟨"TaskSheets", "partsOf", "(I)I"⟩, 10), (⟨"TaskSheets", "numberOfArrow", "(II)I"⟩, 10), (⟨"TaskSheets", "numberOfPlan", "(I)I"⟩, 10), (⟨"TaskSheets", "numberOfPart", "(III)I"⟩, 10), (⟨"TaskSheets", "requireBand", "(I)V"⟩, 10), (⟨"TaskSheets", "requireRow", "(I)V"⟩, 10), (⟨"TaskSheets$Chains", "growOnce", "(LTaskSheets$Plan;)Z"⟩, 1)]
theorem lw_r2 : ∀ q ∈ lw_privs_2, lw_okq q := List.forall_mem_cons.mpr ⟨lw_p16, List.forall_mem_cons.mpr ⟨lw_p17, List.forall_mem_cons.mpr ⟨lw_p18, List.forall_mem_cons.mpr ⟨lw_p19, List.forall_mem_cons.mpr ⟨lw_p20, List.forall_mem_cons.mpr ⟨lw_p21, List.forall_mem_cons.mpr ⟨lw_p22, List.forall_mem_cons.mpr ⟨lw_p23, fun _ h => absurd h List.not_mem_nil⟩⟩⟩⟩⟩⟩⟩⟩
def lw_privs : List (MethodName × Nat) := lw_privs_1 ++ (lw_privs_2)
def lw_tbl : List Cond := k2_sels lw_privs ++ tables_1
theorem lw_privs_ok : ∀ q ∈ lw_privs, lw_okq q := by
  show ∀ q ∈ lw_privs_1 ++ (lw_privs_2), lw_okq q
  exact List.forall_mem_append.mpr ⟨lw_r1, lw_r2⟩
-- ===== end of PART A; then your names; then what follows =====
end
section
/-! ===== BEGIN words of one list among another's, by their places ===== -/
theorem goodIn_r {big : List Cond} (ws : List Cond) (ps : List Nat) (hp : ws = ps.filterMap (fun i => big[i]?)) (h : ws.all goodWord = true) : GoodIn big ws := by
  intro w hw
  have h1 := List.all_eq_true.mp h w hw
  rw [hp] at hw
  obtain ⟨i, -, hi⟩ := List.mem_filterMap.mp hw
  have hm : w ∈ big := by first | exact List.mem_of_getElem? hi | exact List.getElem?_mem hi
  exact ⟨hm, good_of_word h1⟩
theorem goodIn_app {big a b : List Cond} (ha : GoodIn big a) (hb : GoodIn big b) : GoodIn big (a ++ b) := fun w h => (List.mem_append.mp h).elim (ha w) (hb w)
theorem goodIn_ca {big a b : List Cond} {c : Cond} (ha : GoodIn big (c :: a)) (hb : GoodIn big b) : GoodIn big (c :: (a ++ b)) := fun w h => (List.mem_cons.mp h).elim (fun e => ha w (List.mem_cons.mpr (Or.inl e))) (fun h => (List.mem_append.mp h).elim (fun h => ha w (List.mem_cons.mpr (Or.inr h))) (hb w))
theorem goodIn_sub {big ws : List Cond} (hm : ∀ w ∈ ws, w ∈ big) (h : ws.all goodWord = true) : GoodIn big ws := fun w hw => ⟨hm w hw, good_of_word (List.all_eq_true.mp h w hw)⟩
/-! ===== END ===== -/

/-! ===== BEGIN exceptions that leave a method, and their catching by the caller (launches without stack traces) ===== -/
section VXA
/-! The laws vx_back, vx_callV, vx_callS, vx_callSW, vx_throw0, vx_throwS follow proofs of the library, with one case more: JvmDerived/Free/Laws.lean (Back.of_free), Shelf42/LK1.lean (callV, callS), Shelf/KitTraced.lean (throwNew0V, throwNewS). -/
/-- where a method has thrown q: the class by its name, the cell, what was written, the world -/
def vx_T (XC : String → State → State → Prop) (st : State) (q : Addr) (t : State) (mc ms : Nat) (free : Addr → Prop) : Prop :=
  ∃ (E : String) (ce : Cell) (L : List Loc), XC E st t ∧ t.heap[q]? = some ce ∧ ce.vm = .none ∧ st.vm.findClass E = some ce.cls ∧ st.WarmedH t.vm ∧ st.sameButNew ({ t with vm := st.vm } : State) L mc ms ∧ ∀ z ∈ L, free z.base
def vx_Q (Qc : Array Value → State → Outcome → State → Prop) (XC : String → State → State → Prop) (mc ms : Nat) (free : Addr → Prop) : Array Value → State → Outcome → State → Prop := fun a st o t =>
  (Qc a st o t ∧ ∃ L, FrameEnd st o t L mc ms ∧ ∀ q ∈ L, free q.base) ∨ ∃ q, o = .threw q ∧ vx_T XC st q t mc ms free
/-- a callee that returns or throws -/
def vx_Met (l : Launch) (y : MethodName) (ws : List Cond) (rm : Room) (Pc : Array Value → State → Prop) (Qc : Array Value → State → Outcome → State → Prop) (XC : String → State → State → Prop) (mc ms : Nat) (free : Addr → Prop) : Prop :=
  MetFree l y (headSpec ws rm) Pc (fun _ _ _ _ _ => True) (vx_Q Qc XC mc ms free)
def vx_Post (XC : String → State → State → Prop) (mc ms : Nat) (free : Addr → Prop) : Pt → Array Value → Addr → Pt → Prop := fun A a q B =>
  ∃ (g : JFrame) (mk : MethodId) (t : State) (L : List Loc) (E : String) (ce : Cell), B.U.heap = t.heap ∧ B.U.vm = t.vm ∧ XC E (A.U.calling g mk a) t ∧ t.heap[q]? = some ce ∧ ce.vm = .none ∧ A.U.vm.findClass E = some ce.cls ∧ B.locs = A.locs ++ L ∧ (∀ z ∈ L, free z.base) ∧ B.cells = A.cells + mc ∧ B.slots = A.slots + ms
def vx_Back (l : Launch) (R : Room) (p : Program) (e : Env) (below : List Frame) (s : State) (sargs : Array Value) (y : MethodName) (len W9 : Nat)
    (Pre : Pt → Array Value → Prop) (Post : Pt → Array Value → Option Value → Pt → Prop) (PostX : Pt → Array Value → Addr → Pt → Prop) : Prop :=
  ∀ (m : MethodId) (meth : Method) (c : Code) (A : Pt) (g : JFrame) (ig : Instr) (mk : MethodId) (a : Array Value),
    Stand p l e R s m sargs below meth c A.U A.locs A.cells A.slots → g.method = m → g.locals.size = c.maxLocals → decode c.code g.pc = .ok (ig, len) →
    2 * g.monitorRoom + (g.stack.map fun v => v.category).sum ≤ W9 → A.U.methodNamed? y = some mk → Pre A a →
    (∃ (v : Option Value) (B : Pt), Stand p l e R s m sargs below meth c B.U B.locs B.cells B.slots ∧ Post A a v B ∧
      Steps p.tables e below (doInvoke e (A.U.setTop g) [] mk a).1 (B.U.setTop { g with pc := g.pc + len, stack := v.toList ++ g.stack })) ∨
    (∃ (q : Addr) (B : Pt), Stand p l e R s m sargs below meth c B.U B.locs B.cells B.slots ∧ PostX A a q B ∧
      Steps p.tables e below (doInvoke e (A.U.setTop g) [] mk a).1 ((B.U.setTop g).pushFrame (.throwing q)))
section Payer
variable {l : Launch} {R : Room} {p : Program} {e : Env} {below : List Frame} {s : State} {sargs : Array Value} {y : MethodName} {len W9 : Nat}
theorem vx_back {ws : List Cond} {rm : Room} {Pc : Array Value → State → Prop} {Qc : Array Value → State → Outcome → State → Prop} {XC : String → State → State → Prop} {mc ms : Nat} {free : Addr → Prop} {bytes : ByteArray} {maxL : Nat} {ret : Option FieldType}
    (hM : vx_Met l y ws rm Pc Qc XC mc ms free) (hblind : FrameBlind Pc) (hrc : rm.cells = mc) (hrs : rm.slots = ms)
    (hframes : rm.frames + 1 ≤ R.frames) (hlocals : W9 + (maxL + 11) + rm.locals ≤ R.locals)
    (hws : ∀ w ∈ ws, ∀ a' U, s.WarmedH U.vm → w.before a' U = true) (hcode : Cond.code y bytes maxL ret ∈ ws) (hinit : ∀ a' U, s.WarmedH U.vm → (Cond.initialized y.cls).before a' U = true) :
    vx_Back l R p e below s sargs y len W9 (PreOf R mc ms Pc) (PostOf Qc mc ms free) (vx_Post XC mc ms free) := by
  intro m meth c A g ig mk a X hg hsize hdg hW hn hp
  have h1 : (headSpec ws rm).pre.before a A.U = true := atoms_intro fun w hw => hws w hw _ _ X.warmed
  have h2 : (Cond.code y bytes maxL ret).before a A.U = true := hws _ hcode _ _ X.warmed
  have h3 : (Cond.initialized y.cls).before a A.U = true := hinit _ _ X.warmed
  have h4 : A.cells + (headSpec ws rm).room.cells ≤ R.cells := by rw [show (headSpec ws rm).room.cells = mc from hrc]; exact hp.1
  have h5 : A.slots + (headSpec ws rm).room.slots ≤ R.slots := by rw [show (headSpec ws rm).room.slots = ms from hrs]; exact hp.2.1
  have hPc : Pc a (A.U.calling g mk a) := hblind _ _ _ _ hp.2.2
  obtain ⟨U, Ls, c0, s0⟩ := A
  dsimp only [Pt.U, Pt.locs, Pt.cells, Pt.slots] at h1 h2 h3 h4 h5 X hn hPc ⊢
  obtain ⟨methY, cY, hmY, hcY, -, hlY, -, -, -, -⟩ := Cond.code_spec hn h2
  obtain ⟨kY, hkY, -⟩ := className_of_methodNamed hn
  have hinitY : kY.init = .initialized := Cond.initialized_spec (findClass_of_methodNamed hn) hkY h3
  have h : At U g.method c below := by rw [hg]; exact X.here
  have hlocals9 : W9 + (maxL + 11) + (headSpec ws rm).room.locals ≤ R.locals := hlocals
  have happ : (headSpec ws rm).appliesLoose y e.platform (U.calling g mk a) = true :=
    Spec.appliesLoose_calling (g := g) h hdg hn hkY hinitY
      (X.room_calling (g := g) (R' := (headSpec ws rm).room) hsize hmY hcY hframes (by rw [hlY]; omega) h4 h5) h1
  obtain ⟨mid, hmid⟩ := h.above
  have hfr : (U.setTop g).frames = (.java g :: mid) ++ below := by rw [State.frames_setTop' g h.top, hmid]; rfl
  obtain ⟨o, s₂, hsteps, -, hend, hq⟩ := Steps.callFree hM p X.admits X.cas X.clock (acts := []) hfr happ hPc trivial
  have hq' : vx_Q Qc XC mc ms free a (U.calling g mk a) o s₂ := hq
  rw [State.frames_setTop' g h.top] at hend
  obtain ⟨g₀, hg0⟩ := Option.isSome_iff_exists.mp h.top
  obtain ⟨r, hr⟩ := State.topJava?_eq_some.mp hg0
  have hr' : (({ U with heap := s₂.heap, slotsUsed := s₂.slotsUsed } : State).setVm s₂.vm).frames = .java g₀ :: r := hr
  rcases hq' with ⟨hqc, L, hfe, hL⟩ | ⟨q, rfl, E, ce, L, hx, hce, hcv, hcl, hW₂, hsm, hL⟩
  · obtain ⟨⟨v, rfl⟩, hW₂, e2, q2, q3, q4, q5, q6⟩ := id hfe
    have e3 : s₂ = ({ (U.calling g mk a).setFrames s₂.frames with heap := s₂.heap, slotsUsed := s₂.slotsUsed } : State).setVm s₂.vm := by
      have : s₂ = ({ s₂ with vm := (U.calling g mk a).vm } : State).setVm s₂.vm := rfl
      rw [e2] at this
      exact this
    obtain ⟨c₂, i₂, len₂, hc₂, hd₂, hf₂⟩ := hend
    have hW' : U.WarmedH s₂.vm := hW₂
    have hcc : c₂ = c := by
      have h1 : s₂.code? g.method = U.code? g.method := by
        rw [State.code?_eq, State.code?_eq, hW'.alike.method?]
      exact Option.some.inj (hc₂.symm.trans (h1.trans h.code))
    subst hcc
    have hlen : len₂ = len := by rw [hdg] at hd₂; cases hd₂; rfl
    subst hlen
    have hs₂ : s₂ = (({ U with heap := s₂.heap, slotsUsed := s₂.slotsUsed } : State).setVm s₂.vm).setTop { g with pc := g.pc + len₂, stack := v.toList ++ g.stack } := by
      refine e3.trans ?_
      rw [hf₂, State.calling_eq h.top, State.setFrames_setFrames, State.setTop_of_frames _ hr', hr]
      rfl
    have hsame : U.sameButNew ({ U with heap := s₂.heap, slotsUsed := s₂.slotsUsed } : State) L mc ms := by
      refine ⟨?_, q2, q3, q4, q5, q6⟩
      obtain ⟨t, ht, -⟩ := State.frames_cons hr
      show ({ U with heap := s₂.heap, slotsUsed := s₂.slotsUsed } : State) = { U.setFrames U.frames with heap := s₂.heap, slotsUsed := s₂.slotsUsed }
      rw [State.setFrames_self ht]
    subst hg
    refine Or.inl ⟨v, ⟨(({ U with heap := s₂.heap, slotsUsed := s₂.slotsUsed } : State).setVm s₂.vm), Ls ++ L, c0 + mc, s0 + ms⟩,
      ⟨X.admits, X.cas, X.clock, X.frames, X.room, X.hears, X.method, X.code, (X.here.setHeapUsed s₂.heap s₂.slotsUsed).setVm hW'.alike, X.tail, State.WarmedH.trans X.warmed hW', X.limits, X.bytes, X.same.trans (hsame.setVm s.vm)⟩,
      ⟨g, mk, s₂, L, rfl, rfl, hqc, rfl, hL, rfl, rfl⟩, ?_⟩
    show Steps p.tables e below _ ((({ U with heap := s₂.heap, slotsUsed := s₂.slotsUsed } : State).setVm s₂.vm).setTop { g with pc := g.pc + len₂, stack := v.toList ++ g.stack })
    rw [← hs₂]
    exact hsteps
  · obtain ⟨e2, q2, q3, q4, q5, q6⟩ := id hsm
    have e3 : s₂ = ({ (U.calling g mk a).setFrames s₂.frames with heap := s₂.heap, slotsUsed := s₂.slotsUsed } : State).setVm s₂.vm := by
      have : s₂ = ({ s₂ with vm := (U.calling g mk a).vm } : State).setVm s₂.vm := rfl
      rw [e2] at this
      exact this
    have hf₂ : s₂.frames = .throwing q :: .java g :: U.frames.tail := hend
    have hW' : U.WarmedH s₂.vm := hW₂
    have hs₂ : s₂ = ((({ U with heap := s₂.heap, slotsUsed := s₂.slotsUsed } : State).setVm s₂.vm).setTop g).pushFrame (.throwing q) := by
      refine e3.trans ?_
      rw [hf₂, State.calling_eq h.top, State.setFrames_setFrames, State.pushFrame, State.frames_setTop _ hr', State.setTop_of_frames _ hr', State.setFrames_setFrames, hr]
      rfl
    have hsame : U.sameButNew ({ U with heap := s₂.heap, slotsUsed := s₂.slotsUsed } : State) L mc ms := by
      refine ⟨?_, q2, q3, q4, q5, q6⟩
      obtain ⟨t, ht, -⟩ := State.frames_cons hr
      show ({ U with heap := s₂.heap, slotsUsed := s₂.slotsUsed } : State) = { U.setFrames U.frames with heap := s₂.heap, slotsUsed := s₂.slotsUsed }
      rw [State.setFrames_self ht]
    subst hg
    refine Or.inr ⟨q, ⟨(({ U with heap := s₂.heap, slotsUsed := s₂.slotsUsed } : State).setVm s₂.vm), Ls ++ L, c0 + mc, s0 + ms⟩,
      ⟨X.admits, X.cas, X.clock, X.frames, X.room, X.hears, X.method, X.code, (X.here.setHeapUsed s₂.heap s₂.slotsUsed).setVm hW'.alike, X.tail, State.WarmedH.trans X.warmed hW', X.limits, X.bytes, X.same.trans (hsame.setVm s.vm)⟩,
      ⟨g, mk, s₂, L, E, ce, rfl, rfl, hx, hce, hcv, hcl, rfl, hL, rfl, rfl⟩, ?_⟩
    show Steps p.tables e below _ (((({ U with heap := s₂.heap, slotsUsed := s₂.slotsUsed } : State).setVm s₂.vm).setTop g).pushFrame (.throwing q))
    rw [← hs₂]
    exact hsteps
end Payer
section Calls
variable {p : Program} {l : Launch} {e : Env} {R : Room} {s : State} {m : MethodId} {args : Array Value} {below : List Frame} {meth : Method} {c : Code} {T : State} {locs : List Loc} {cells slots : Nat}
theorem vx_callV (X : Stand p l e R s m args below meth c T locs cells slots) (hexec : p.tables.exec = Jvm.exec) {own C : String} {index : Nat} {y : MethodName} {bytes : ByteArray} {maxL : Nat} {ret : Option FieldType}
    (hown : s.vm.findClass own = some m.cls) (hlink : (Cond.methodLink own index y).before args s = true) (hinst : (Cond.instanceMethod y).before args s = true) (hsel : (Cond.selects C y y).before args s = true)
    (hcode : (Cond.code y bytes maxL ret).before args s = true) (hy : y.cls ≠ "java/lang/invoke/MethodHandle" ∧ y.cls ≠ "java/lang/invoke/VarHandle")
    {W9 : Nat} {Pre : Pt → Array Value → Prop} {Post : Pt → Array Value → Option Value → Pt → Prop} {PostX : Pt → Array Value → Addr → Pt → Prop} (hK : vx_Back l R p e below s args y 3 W9 Pre Post PostX)
    {b : Addr} {cellB : Cell} (hcell : T.heap[b]? = some cellB) (hobj : cellB.vm.isStatics = false) (hcls : s.vm.findClass C = some cellB.cls)
    {g : JFrame} (hg : g.method = m) (hsize : g.locals.size = c.maxLocals) {argsL rest : List Value} (hlen : ∀ sig, parseMethodDescriptor y.desc = some sig → argsL.length = sig.parameters.length)
    (hstack : g.stack = argsL.reverse ++ .ref b :: rest) (hW : 2 * g.monitorRoom + (rest.map fun v => v.category).sum ≤ W9) (hdg : decode c.code g.pc = .ok (.invokevirtual index, 3))
    (hpre : ∀ vm₁, s.WarmedH vm₁ → Pre ⟨T.setVm vm₁, locs, cells, slots⟩ (Value.ref b :: argsL).toArray) :
    (∃ (v : Option Value) (vm₁ : Vm) (B : Pt), s.WarmedH vm₁ ∧ Stand p l e R s m args below meth c B.U B.locs B.cells B.slots ∧ Post ⟨T.setVm vm₁, locs, cells, slots⟩ (Value.ref b :: argsL).toArray v B ∧
      ∀ target, Steps p.tables e below (B.U.setTop { g with pc := g.pc + 3, stack := v.toList ++ rest }) target → Steps p.tables e below (T.setTop g) target) ∨
    (∃ (q : Addr) (vm₁ : Vm) (B : Pt), s.WarmedH vm₁ ∧ Stand p l e R s m args below meth c B.U B.locs B.cells B.slots ∧ PostX ⟨T.setVm vm₁, locs, cells, slots⟩ (Value.ref b :: argsL).toArray q B ∧
      Steps p.tables e below (T.setTop g) ((B.U.setTop { g with stack := rest }).pushFrame (.throwing q))) := by
  obtain ⟨mk, methM, hnamed, hmethM, hstM, habM⟩ := Cond.instanceMethod_spec hinst
  obtain ⟨methM', cM, hmethM', -, -, -, -, -, -, hsigM⟩ := Cond.code_spec hnamed hcode
  cases hmethM.symm.trans hmethM'
  obtain ⟨c2, r2, m2, q1, q2, q3, q4, kP, hkP, hkPi⟩ := Cond.selects_spec hsel
  cases hcls.symm.trans q1
  cases (State.methodFound?_of_named hnamed hy).symm.trans q2
  cases hnamed.symm.trans q3
  have hselP : selectMethod e.platform s.vm cellB.cls mk = .method mk := by rw [Launch.admits_selectMethod X.admits]; exact q4
  obtain ⟨vm₁, X₁, hstep₁⟩ := X.invokevirtual hexec hown hlink hnamed hmethM hstM hkP hkPi hy (a := b) (cell := cellB) hcell
    (fun z h => by rw [h] at hobj; cases hobj) hselP hmethM habM hkP hkPi (g := g) hg (argsL := argsL) (rest := rest) (hlen _ hsigM) hstack hdg
  rcases hK m meth c ⟨T.setVm vm₁, locs, cells, slots⟩ { g with stack := rest } (.invokevirtual index) mk (Value.ref b :: argsL).toArray X₁ hg hsize hdg hW (X₁.named hnamed) (hpre vm₁ X₁.warmed) with ⟨v, B, X', hpost, hsteps⟩ | ⟨q, B, X', hpost, hsteps⟩
  · exact Or.inl ⟨v, vm₁, B, X₁.warmed, X', hpost, fun target h => hstep₁ _ fun acts => by rw [doInvoke_state]; exact hsteps.trans h⟩
  · exact Or.inr ⟨q, vm₁, B, X₁.warmed, X', hpost, hstep₁ _ fun acts => by rw [doInvoke_state]; exact hsteps⟩
theorem vx_callS (X : Stand p l e R s m args below meth c T locs cells slots) (hexec : p.tables.exec = Jvm.exec) {own : String} {index : Nat} {y : MethodName} {bytes : ByteArray} {maxL : Nat} {ret : Option FieldType}
    (hown : s.vm.findClass own = some m.cls) (hlink : (Cond.methodLink own index y).before args s = true) (hstat : (Cond.static y).before args s = true) (hinit : (Cond.initialized y.cls).before args s = true)
    (hcode : (Cond.code y bytes maxL ret).before args s = true) (hy : y.cls ≠ "java/lang/invoke/MethodHandle" ∧ y.cls ≠ "java/lang/invoke/VarHandle")
    {W9 : Nat} {Pre : Pt → Array Value → Prop} {Post : Pt → Array Value → Option Value → Pt → Prop} {PostX : Pt → Array Value → Addr → Pt → Prop} (hK : vx_Back l R p e below s args y 3 W9 Pre Post PostX)
    {g : JFrame} (hg : g.method = m) (hsize : g.locals.size = c.maxLocals) {argsL rest : List Value} (hlen : ∀ sig, parseMethodDescriptor y.desc = some sig → argsL.length = sig.parameters.length)
    (hstack : g.stack = argsL.reverse ++ rest) (hW : 2 * g.monitorRoom + (rest.map fun v => v.category).sum ≤ W9) (hdg : decode c.code g.pc = .ok (.invokestatic index, 3))
    (hpre : ∀ vm₁, s.WarmedH vm₁ → Pre ⟨T.setVm vm₁, locs, cells, slots⟩ argsL.toArray) :
    (∃ (v : Option Value) (vm₁ : Vm) (B : Pt), s.WarmedH vm₁ ∧ Stand p l e R s m args below meth c B.U B.locs B.cells B.slots ∧ Post ⟨T.setVm vm₁, locs, cells, slots⟩ argsL.toArray v B ∧
      ∀ target, Steps p.tables e below (B.U.setTop { g with pc := g.pc + 3, stack := v.toList ++ rest }) target → Steps p.tables e below (T.setTop g) target) ∨
    (∃ (q : Addr) (vm₁ : Vm) (B : Pt), s.WarmedH vm₁ ∧ Stand p l e R s m args below meth c B.U B.locs B.cells B.slots ∧ PostX ⟨T.setVm vm₁, locs, cells, slots⟩ argsL.toArray q B ∧
      Steps p.tables e below (T.setTop g) ((B.U.setTop { g with stack := rest }).pushFrame (.throwing q))) := by
  obtain ⟨mk, hnamed⟩ := Cond.code_named hcode
  obtain ⟨methM, cM, hmethM, -, -, -, -, -, -, hsigM⟩ := Cond.code_spec hnamed hcode
  have hstatic : methM.isStatic = true := Cond.static_spec hnamed hmethM hstat
  obtain ⟨kP, hkP, -⟩ := className_of_methodNamed hnamed
  have hinitP : kP.init = .initialized := Cond.initialized_spec (findClass_of_methodNamed hnamed) hkP hinit
  obtain ⟨vm₁, X₁, hstep₁⟩ := X.invokestatic hexec hown hlink hnamed hmethM hstatic hkP hinitP hy (g := g) hg (argsL := argsL) (rest := rest) (hlen _ hsigM) hstack hdg
  rcases hK m meth c ⟨T.setVm vm₁, locs, cells, slots⟩ { g with stack := rest } (.invokestatic index) mk argsL.toArray X₁ hg hsize hdg hW (X₁.named hnamed) (hpre vm₁ X₁.warmed) with ⟨v, B, X', hpost, hsteps⟩ | ⟨q, B, X', hpost, hsteps⟩
  · exact Or.inl ⟨v, vm₁, B, X₁.warmed, X', hpost, fun target h => hstep₁ _ fun acts => by rw [doInvoke_state]; exact hsteps.trans h⟩
  · exact Or.inr ⟨q, vm₁, B, X₁.warmed, X', hpost, hstep₁ _ fun acts => by rw [doInvoke_state]; exact hsteps⟩
end Calls
theorem vx_cls {s : State} {T : State} {vm₁ : Vm} {E : String} {k : ClassId} (hW : s.WarmedH vm₁) (h : (T.setVm vm₁).vm.findClass E = some k) : s.vm.findClass E = some k := by
  have h1 : vm₁.findClass E = some k := h
  rw [hW.alike.findClass] at h1
  exact h1
/-- the method's frame g, with q thrown over it -/
def vx_W (p : Program) (l : Launch) (e : Env) (R : Room) (s : State) (m : MethodId) (args : Array Value) (below : List Frame) (meth : Method) (c : Code) (H : Heap) (locs : List Loc) (cells slots : Nat) (Q : State → Prop) (g : JFrame) (q : Addr) : Prop :=
  ∀ T : State, T.heap = H → Stand p l e R s m args below meth c T locs cells slots → ∃ t, Steps p.tables e below ((T.setTop g).pushFrame (.throwing q)) t ∧ Q t
def vx_Run (p : Program) (l : Launch) (e : Env) (R : Room) (s : State) (m : MethodId) (args : Array Value) (below : List Frame) (meth : Method) (c : Code) (H : Heap) (locs : List Loc) (cells slots mc ms : Nat) (g : JFrame) (rest : List Value) (Qa : State → Outcome → State → Prop) (XC : String → State → State → Prop) (free : Addr → Prop) : Prop :=
  ∀ T : State, T.heap = H → Stand p l e R s m args below meth c T locs cells slots →
    (∃ (v : Option Value) (st₀ t T' : State) (L : List Loc), st₀.heap = H ∧ Stand p l e R s m args below meth c T' (locs ++ L) (cells + mc) (slots + ms) ∧ (∀ q ∈ L, free q.base) ∧ T'.heap = t.heap ∧ T'.vm = t.vm ∧ Qa st₀ (.returned v) t ∧
      Goes p e below T g T' { g with pc := g.pc + 3, stack := v.toList ++ rest }) ∨
    (∃ (q : Addr) (st₀ t T' : State) (L : List Loc) (E : String) (ce : Cell), st₀.heap = H ∧ Stand p l e R s m args below meth c T' (locs ++ L) (cells + mc) (slots + ms) ∧ (∀ z ∈ L, free z.base) ∧ T'.heap = t.heap ∧ T'.vm = t.vm ∧ XC E st₀ t ∧ t.heap[q]? = some ce ∧ ce.vm = .none ∧ s.vm.findClass E = some ce.cls ∧
      Steps p.tables e below (T.setTop g) ((T'.setTop { g with stack := rest }).pushFrame (.throwing q)))
def vx_X {S : Type} (px : S → Prop) (B : String → S → State → Prop) (A : Nat → Prop) : String → State → State → Prop := fun E st t => ∃ u : S, px u ∧ B E u t ∧ va_F A st t
section Runs
variable {p : Program} {l : Launch} {e : Env} {R : Room} {s : State} {m : MethodId} {args : Array Value} {below : List Frame} {meth : Method} {c : Code} {H : Heap} {locs : List Loc} {cells slots : Nat}
variable {y : MethodName} {bytes cc : ByteArray} {maxL nL mc ms n index : Nat} {ret : Option FieldType} {ws : List Cond} {rm : Room} {Pc : Array Value → State → Prop} {Qc : Array Value → State → Outcome → State → Prop} {XC : String → State → State → Prop} {free : Addr → Prop} {Ts : List Cond} {own C : String} {b : Addr} {As rest : List Value} {g : JFrame}
theorem vx_callBack (cb : CallB R s args own index y bytes maxL ret ws rm mc ms n) (hM : vx_Met l y ws rm Pc Qc XC mc ms free) (hbl : FrameBlind Pc) : vx_Back l R p e below s args y 3 8 (PreOf R mc ms Pc) (PostOf Qc mc ms free) (vx_Post XC mc ms free) := by
  obtain ⟨hrc, hrs, hfr, hlo, hws, hcw, -, hini, -⟩ := cb
  exact vx_back (bytes := bytes) (maxL := maxL) (ret := ret) hM hbl hrc hrs hfr hlo hws hcw (fun a' U hW => word_at hW (Or.inl (by first | rfl | simp [Cond.onTables, Cond.keeps, Cond.steady])) hini)
theorem vx_runV (S : CallFix p m c cc nL s args Ts own) (hM : vx_Met l y ws rm Pc Qc XC mc ms free) (cw : CallW R s args own C index y bytes maxL ret ws rm mc ms n) (hp : PreV s H C b Pc As)
    (hg : g.method = m) (hn : As.length = n) (hsize : g.locals.size = nL) (hstack : g.stack = As.reverse ++ .ref b :: rest) (hW : 2 * g.monitorRoom + (rest.map fun v => v.category).sum ≤ 8) (hdg : decode cc g.pc = .ok (.invokevirtual index, 3)) (hf : cells + mc ≤ R.cells ∧ slots + ms ≤ R.slots) :
    vx_Run p l e R s m args below meth c H locs cells slots mc ms g rest (Qc (Value.ref b :: As).toArray) XC free := by
  have hK : vx_Back l R p e below s args y 3 8 (PreOf R mc ms Pc) (PostOf Qc mc ms free) (vx_Post XC mc ms free) := vx_callBack cw.1 hM hp.1
  obtain ⟨⟨-, -, -, -, -, -, hcode, -, hy, hlen, hl⟩, hin, hse⟩ := cw
  obtain ⟨hx, hb, hml, ho, -⟩ := S
  obtain ⟨-, ⟨cellB, hcB, hoB, hclB⟩, hPc⟩ := hp
  intro T hT X
  rcases vx_callV X hx (C := C) (bytes := bytes) (maxL := maxL) (ret := ret) ho hl hin hse hcode hy hK (by rw [hT]; exact hcB) hoB hclB hg (hsize.trans hml.symm) (argsL := As) (rest := rest) (fun sig h => hn.trans (hlen sig h)) hstack hW (by rw [hb]; exact hdg)
    (fun vm₁ hW₁ => ⟨hf.1, hf.2, hPc (T.setVm vm₁) hT hW₁⟩) with ⟨v, vm₁, ⟨U', l2, c2, s2⟩, hW₁, X', ⟨g', mk, t, L, e1, e2, hq, h1, hL, h2, h3⟩, st⟩ | ⟨q, vm₁, ⟨U', l2, c2, s2⟩, hW₁, X', ⟨g', mk, t, L, E, ce, e1, e2, hq, hce, hcv, hcl, h1, hL, h2, h3⟩, st⟩
  · dsimp only [Pt.U, Pt.locs, Pt.cells, Pt.slots] at X' e1 e2 h1 h2 h3 st
    subst h1; subst h2; subst h3
    exact Or.inl ⟨v, (T.setVm vm₁).calling g' mk (Value.ref b :: As).toArray, t, U', L, hT, X', hL, e1, e2, hq, st⟩
  · dsimp only [Pt.U, Pt.locs, Pt.cells, Pt.slots] at X' e1 e2 h1 h2 h3 st hcl
    subst h1; subst h2; subst h3
    exact Or.inr ⟨q, (T.setVm vm₁).calling g' mk (Value.ref b :: As).toArray, t, U', L, E, ce, hT, X', hL, e1, e2, hq, hce, hcv, vx_cls hW₁ hcl, st⟩
theorem vx_runS (S : CallFix p m c cc nL s args Ts own) (hM : vx_Met l y ws rm Pc Qc XC mc ms free) (cw : CallB R s args own index y bytes maxL ret ws rm mc ms n ∧ (Cond.static y).before args s = true) (hp : PreS s H Pc As)
    (hg : g.method = m) (hn : As.length = n) (hsize : g.locals.size = nL) (hstack : g.stack = As.reverse ++ rest) (hW : 2 * g.monitorRoom + (rest.map fun v => v.category).sum ≤ 8) (hdg : decode cc g.pc = .ok (.invokestatic index, 3)) (hf : cells + mc ≤ R.cells ∧ slots + ms ≤ R.slots) :
    vx_Run p l e R s m args below meth c H locs cells slots mc ms g rest (Qc As.toArray) XC free := by
  have hK : vx_Back l R p e below s args y 3 8 (PreOf R mc ms Pc) (PostOf Qc mc ms free) (vx_Post XC mc ms free) := vx_callBack cw.1 hM hp.1
  obtain ⟨⟨-, -, -, -, -, -, hcode, hini, hy, hlen, hl⟩, hstt⟩ := cw
  obtain ⟨hx, hb, hml, ho, -⟩ := S
  intro T hT X
  rcases vx_callS X hx (bytes := bytes) (maxL := maxL) (ret := ret) ho hl hstt hini hcode hy hK hg (hsize.trans hml.symm) (argsL := As) (rest := rest) (fun sig h => hn.trans (hlen sig h)) hstack hW (by rw [hb]; exact hdg)
    (fun vm₁ hW₁ => ⟨hf.1, hf.2, hp.2 (T.setVm vm₁) hT hW₁⟩) with ⟨v, vm₁, ⟨U', l2, c2, s2⟩, hW₁, X', ⟨g', mk, t, L, e1, e2, hq, h1, hL, h2, h3⟩, st⟩ | ⟨q, vm₁, ⟨U', l2, c2, s2⟩, hW₁, X', ⟨g', mk, t, L, E, ce, e1, e2, hq, hce, hcv, hcl, h1, hL, h2, h3⟩, st⟩
  · dsimp only [Pt.U, Pt.locs, Pt.cells, Pt.slots] at X' e1 e2 h1 h2 h3 st
    subst h1; subst h2; subst h3
    exact Or.inl ⟨v, (T.setVm vm₁).calling g' mk As.toArray, t, U', L, hT, X', hL, e1, e2, hq, st⟩
  · dsimp only [Pt.U, Pt.locs, Pt.cells, Pt.slots] at X' e1 e2 h1 h2 h3 st hcl
    subst h1; subst h2; subst h3
    exact Or.inr ⟨q, (T.setVm vm₁).calling g' mk As.toArray, t, U', L, E, ce, hT, X', hL, e1, e2, hq, hce, hcv, vx_cls hW₁ hcl, st⟩
end Runs
section Rows
variable {p : Program} {l : Launch} {e : Env} {R : Room} {s : State} {m : MethodId} {args : Array Value} {below : List Frame} {meth : Method} {c : Code} {H : Heap} {locs : List Loc} {cells slots : Nat} {Q : State → Prop}
variable {mc ms : Nat} {free : Addr → Prop} {A0 A1 : Nat → Prop} {H0 : Heap} {a : Array Value} {pc : Nat} {ls : Array Slot} {st0 rest : List Value}
theorem vx_keep {st₀ t T' : State} {L : List Loc} (h0 : st₀.heap = H) (e1 : T'.heap = t.heap) (hS : va_S A0 H0 H locs) (hA : ∀ q, q < H.size → A1 q → A0 q) (hf : ∀ q, free q → A0 q) (hL : ∀ q ∈ L, free q.base) (hF : va_F A1 st₀ t) :
    H.size ≤ T'.heap.size ∧ (∀ q : Nat, q < H.size → ¬ A1 q → T'.heap[q]? = H[q]?) ∧ va_S A0 H0 T'.heap (locs ++ L) := by
  obtain ⟨hz, hk⟩ := hF
  rw [h0] at hz hk
  exact ⟨by rw [e1]; exact hz, fun q h1 h2 => by rw [e1]; exact hk q h1 h2,
    ⟨Nat.le_trans hS.1 (by rw [e1]; exact hz), fun q h1 h2 => by rw [e1, hk q (Nat.lt_of_lt_of_le h1 hS.1) (fun z => h2 (hA q (Nat.lt_of_lt_of_le h1 hS.1) z))]; exact hS.2.1 q h1 h2, fun q hq => by
      rcases List.mem_append.mp hq with h | h
      · exact hS.2.2 q h
      · exact hf _ (hL q h)⟩⟩
theorem vx_calli {S SX : Type} {post : Int32 → S → Prop} {px : SX → Prop} {B : S → State → Prop} {BX : String → SX → State → Prop} {AX : Nat → Prop} (hr : vx_Run p l e R s m args below meth c H locs cells slots mc ms (F0 m pc ls st0) rest (va_Qi post B A1 a) (vx_X px BX AX) free) (hS : va_S A0 H0 H locs) (hA : ∀ q, q < H.size → A1 q → A0 q) (hf : ∀ q, free q → A0 q) (hAX : ∀ q, q < H.size → AX q → A0 q)
    (kx : ∀ (E : String) (ce : Cell) (q9 : Addr) (u : SX) (t : State) (H1 : Heap) (locs1 : List Loc), t.heap = H1 → s.vm.Alike t.vm → px u → BX E u t → H.size ≤ H1.size → (∀ q : Nat, q < H.size → ¬ AX q → H1[q]? = H[q]?) → va_S A0 H0 H1 locs1 → H1[q9]? = some ce → ce.vm = .none → s.vm.findClass E = some ce.cls → vx_W p l e R s m args below meth c H1 locs1 (cells + mc) (slots + ms) Q (F0 m pc ls rest) q9)
    (kk : ∀ (r : Int32) (u : S) (t : State) (H1 : Heap) (locs1 : List Loc), t.heap = H1 → s.vm.Alike t.vm → post r u → B u t → H.size ≤ H1.size → (∀ q : Nat, q < H.size → ¬ A1 q → H1[q]? = H[q]?) → va_S A0 H0 H1 locs1 → W p l e R s m args below meth c H1 locs1 (cells + mc) (slots + ms) Q (F0 m (pc + 3) ls (.int r :: rest))) : W p l e R s m args below meth c H locs cells slots Q (F0 m pc ls st0) := by
  intro T hT X
  rcases hr T hT X with ⟨v, st₀, t, T', L, h0, X', hL, e1, e2, ⟨⟨r, u, hv, hp, hb⟩, hF⟩, st⟩ | ⟨q, st₀, t, T', L, E, ce, h0, X', hL, e1, e2, ⟨u, hp, hb, hF⟩, hce, hcv, hcl, st⟩
  · cases hv
    obtain ⟨k1, k2, k3⟩ := vx_keep h0 e1 hS hA hf hL hF
    obtain ⟨t2, a1, b1⟩ := kk r u t T'.heap (locs ++ L) e1.symm (by rw [← e2]; exact X'.warmed.alike) hp hb k1 k2 k3 T' rfl X'
    exact ⟨t2, st t2 a1, b1⟩
  · obtain ⟨k1, k2, k3⟩ := vx_keep h0 e1 hS hAX hf hL hF
    obtain ⟨t2, a1, b1⟩ := kx E ce q u t T'.heap (locs ++ L) e1.symm (by rw [← e2]; exact X'.warmed.alike) hp hb k1 k2 k3 (by rw [e1]; exact hce) hcv hcl T' rfl X'
    exact ⟨t2, st.trans a1, b1⟩
theorem vx_calll {S SX : Type} {post : Int64 → S → Prop} {px : SX → Prop} {B : S → State → Prop} {BX : String → SX → State → Prop} {AX : Nat → Prop} (hr : vx_Run p l e R s m args below meth c H locs cells slots mc ms (F0 m pc ls st0) rest (va_Ql post B A1 a) (vx_X px BX AX) free) (hS : va_S A0 H0 H locs) (hA : ∀ q, q < H.size → A1 q → A0 q) (hf : ∀ q, free q → A0 q) (hAX : ∀ q, q < H.size → AX q → A0 q)
    (kx : ∀ (E : String) (ce : Cell) (q9 : Addr) (u : SX) (t : State) (H1 : Heap) (locs1 : List Loc), t.heap = H1 → s.vm.Alike t.vm → px u → BX E u t → H.size ≤ H1.size → (∀ q : Nat, q < H.size → ¬ AX q → H1[q]? = H[q]?) → va_S A0 H0 H1 locs1 → H1[q9]? = some ce → ce.vm = .none → s.vm.findClass E = some ce.cls → vx_W p l e R s m args below meth c H1 locs1 (cells + mc) (slots + ms) Q (F0 m pc ls rest) q9)
    (kk : ∀ (r : Int64) (u : S) (t : State) (H1 : Heap) (locs1 : List Loc), t.heap = H1 → s.vm.Alike t.vm → post r u → B u t → H.size ≤ H1.size → (∀ q : Nat, q < H.size → ¬ A1 q → H1[q]? = H[q]?) → va_S A0 H0 H1 locs1 → W p l e R s m args below meth c H1 locs1 (cells + mc) (slots + ms) Q (F0 m (pc + 3) ls (.long r :: rest))) : W p l e R s m args below meth c H locs cells slots Q (F0 m pc ls st0) := by
  intro T hT X
  rcases hr T hT X with ⟨v, st₀, t, T', L, h0, X', hL, e1, e2, ⟨⟨r, u, hv, hp, hb⟩, hF⟩, st⟩ | ⟨q, st₀, t, T', L, E, ce, h0, X', hL, e1, e2, ⟨u, hp, hb, hF⟩, hce, hcv, hcl, st⟩
  · cases hv
    obtain ⟨k1, k2, k3⟩ := vx_keep h0 e1 hS hA hf hL hF
    obtain ⟨t2, a1, b1⟩ := kk r u t T'.heap (locs ++ L) e1.symm (by rw [← e2]; exact X'.warmed.alike) hp hb k1 k2 k3 T' rfl X'
    exact ⟨t2, st t2 a1, b1⟩
  · obtain ⟨k1, k2, k3⟩ := vx_keep h0 e1 hS hAX hf hL hF
    obtain ⟨t2, a1, b1⟩ := kx E ce q u t T'.heap (locs ++ L) e1.symm (by rw [← e2]; exact X'.warmed.alike) hp hb k1 k2 k3 (by rw [e1]; exact hce) hcv hcl T' rfl X'
    exact ⟨t2, st.trans a1, b1⟩
theorem vx_callf {S SX : Type} {post : UInt32 → S → Prop} {px : SX → Prop} {B : S → State → Prop} {BX : String → SX → State → Prop} {AX : Nat → Prop} (hr : vx_Run p l e R s m args below meth c H locs cells slots mc ms (F0 m pc ls st0) rest (va_Qf post B A1 a) (vx_X px BX AX) free) (hS : va_S A0 H0 H locs) (hA : ∀ q, q < H.size → A1 q → A0 q) (hf : ∀ q, free q → A0 q) (hAX : ∀ q, q < H.size → AX q → A0 q)
    (kx : ∀ (E : String) (ce : Cell) (q9 : Addr) (u : SX) (t : State) (H1 : Heap) (locs1 : List Loc), t.heap = H1 → s.vm.Alike t.vm → px u → BX E u t → H.size ≤ H1.size → (∀ q : Nat, q < H.size → ¬ AX q → H1[q]? = H[q]?) → va_S A0 H0 H1 locs1 → H1[q9]? = some ce → ce.vm = .none → s.vm.findClass E = some ce.cls → vx_W p l e R s m args below meth c H1 locs1 (cells + mc) (slots + ms) Q (F0 m pc ls rest) q9)
    (kk : ∀ (r : UInt32) (u : S) (t : State) (H1 : Heap) (locs1 : List Loc), t.heap = H1 → s.vm.Alike t.vm → post r u → B u t → H.size ≤ H1.size → (∀ q : Nat, q < H.size → ¬ A1 q → H1[q]? = H[q]?) → va_S A0 H0 H1 locs1 → W p l e R s m args below meth c H1 locs1 (cells + mc) (slots + ms) Q (F0 m (pc + 3) ls (.float r :: rest))) : W p l e R s m args below meth c H locs cells slots Q (F0 m pc ls st0) := by
  intro T hT X
  rcases hr T hT X with ⟨v, st₀, t, T', L, h0, X', hL, e1, e2, ⟨⟨r, u, hv, hp, hb⟩, hF⟩, st⟩ | ⟨q, st₀, t, T', L, E, ce, h0, X', hL, e1, e2, ⟨u, hp, hb, hF⟩, hce, hcv, hcl, st⟩
  · cases hv
    obtain ⟨k1, k2, k3⟩ := vx_keep h0 e1 hS hA hf hL hF
    obtain ⟨t2, a1, b1⟩ := kk r u t T'.heap (locs ++ L) e1.symm (by rw [← e2]; exact X'.warmed.alike) hp hb k1 k2 k3 T' rfl X'
    exact ⟨t2, st t2 a1, b1⟩
  · obtain ⟨k1, k2, k3⟩ := vx_keep h0 e1 hS hAX hf hL hF
    obtain ⟨t2, a1, b1⟩ := kx E ce q u t T'.heap (locs ++ L) e1.symm (by rw [← e2]; exact X'.warmed.alike) hp hb k1 k2 k3 (by rw [e1]; exact hce) hcv hcl T' rfl X'
    exact ⟨t2, st.trans a1, b1⟩
theorem vx_calld {S SX : Type} {post : UInt64 → S → Prop} {px : SX → Prop} {B : S → State → Prop} {BX : String → SX → State → Prop} {AX : Nat → Prop} (hr : vx_Run p l e R s m args below meth c H locs cells slots mc ms (F0 m pc ls st0) rest (va_Qd post B A1 a) (vx_X px BX AX) free) (hS : va_S A0 H0 H locs) (hA : ∀ q, q < H.size → A1 q → A0 q) (hf : ∀ q, free q → A0 q) (hAX : ∀ q, q < H.size → AX q → A0 q)
    (kx : ∀ (E : String) (ce : Cell) (q9 : Addr) (u : SX) (t : State) (H1 : Heap) (locs1 : List Loc), t.heap = H1 → s.vm.Alike t.vm → px u → BX E u t → H.size ≤ H1.size → (∀ q : Nat, q < H.size → ¬ AX q → H1[q]? = H[q]?) → va_S A0 H0 H1 locs1 → H1[q9]? = some ce → ce.vm = .none → s.vm.findClass E = some ce.cls → vx_W p l e R s m args below meth c H1 locs1 (cells + mc) (slots + ms) Q (F0 m pc ls rest) q9)
    (kk : ∀ (r : UInt64) (u : S) (t : State) (H1 : Heap) (locs1 : List Loc), t.heap = H1 → s.vm.Alike t.vm → post r u → B u t → H.size ≤ H1.size → (∀ q : Nat, q < H.size → ¬ A1 q → H1[q]? = H[q]?) → va_S A0 H0 H1 locs1 → W p l e R s m args below meth c H1 locs1 (cells + mc) (slots + ms) Q (F0 m (pc + 3) ls (.double r :: rest))) : W p l e R s m args below meth c H locs cells slots Q (F0 m pc ls st0) := by
  intro T hT X
  rcases hr T hT X with ⟨v, st₀, t, T', L, h0, X', hL, e1, e2, ⟨⟨r, u, hv, hp, hb⟩, hF⟩, st⟩ | ⟨q, st₀, t, T', L, E, ce, h0, X', hL, e1, e2, ⟨u, hp, hb, hF⟩, hce, hcv, hcl, st⟩
  · cases hv
    obtain ⟨k1, k2, k3⟩ := vx_keep h0 e1 hS hA hf hL hF
    obtain ⟨t2, a1, b1⟩ := kk r u t T'.heap (locs ++ L) e1.symm (by rw [← e2]; exact X'.warmed.alike) hp hb k1 k2 k3 T' rfl X'
    exact ⟨t2, st t2 a1, b1⟩
  · obtain ⟨k1, k2, k3⟩ := vx_keep h0 e1 hS hAX hf hL hF
    obtain ⟨t2, a1, b1⟩ := kx E ce q u t T'.heap (locs ++ L) e1.symm (by rw [← e2]; exact X'.warmed.alike) hp hb k1 k2 k3 (by rw [e1]; exact hce) hcv hcl T' rfl X'
    exact ⟨t2, st.trans a1, b1⟩
theorem vx_callv {S SX : Type} {post : S → Prop} {px : SX → Prop} {B : S → State → Prop} {BX : String → SX → State → Prop} {AX : Nat → Prop} (hr : vx_Run p l e R s m args below meth c H locs cells slots mc ms (F0 m pc ls st0) rest (va_Qv post B A1 a) (vx_X px BX AX) free) (hS : va_S A0 H0 H locs) (hA : ∀ q, q < H.size → A1 q → A0 q) (hf : ∀ q, free q → A0 q) (hAX : ∀ q, q < H.size → AX q → A0 q)
    (kx : ∀ (E : String) (ce : Cell) (q9 : Addr) (u : SX) (t : State) (H1 : Heap) (locs1 : List Loc), t.heap = H1 → s.vm.Alike t.vm → px u → BX E u t → H.size ≤ H1.size → (∀ q : Nat, q < H.size → ¬ AX q → H1[q]? = H[q]?) → va_S A0 H0 H1 locs1 → H1[q9]? = some ce → ce.vm = .none → s.vm.findClass E = some ce.cls → vx_W p l e R s m args below meth c H1 locs1 (cells + mc) (slots + ms) Q (F0 m pc ls rest) q9)
    (kk : ∀ (u : S) (t : State) (H1 : Heap) (locs1 : List Loc), t.heap = H1 → s.vm.Alike t.vm → post u → B u t → H.size ≤ H1.size → (∀ q : Nat, q < H.size → ¬ A1 q → H1[q]? = H[q]?) → va_S A0 H0 H1 locs1 → W p l e R s m args below meth c H1 locs1 (cells + mc) (slots + ms) Q (F0 m (pc + 3) ls (rest))) : W p l e R s m args below meth c H locs cells slots Q (F0 m pc ls st0) := by
  intro T hT X
  rcases hr T hT X with ⟨v, st₀, t, T', L, h0, X', hL, e1, e2, ⟨⟨u, hv, hp, hb⟩, hF⟩, st⟩ | ⟨q, st₀, t, T', L, E, ce, h0, X', hL, e1, e2, ⟨u, hp, hb, hF⟩, hce, hcv, hcl, st⟩
  · cases hv
    obtain ⟨k1, k2, k3⟩ := vx_keep h0 e1 hS hA hf hL hF
    obtain ⟨t2, a1, b1⟩ := kk u t T'.heap (locs ++ L) e1.symm (by rw [← e2]; exact X'.warmed.alike) hp hb k1 k2 k3 T' rfl X'
    exact ⟨t2, st t2 a1, b1⟩
  · obtain ⟨k1, k2, k3⟩ := vx_keep h0 e1 hS hAX hf hL hF
    obtain ⟨t2, a1, b1⟩ := kx E ce q u t T'.heap (locs ++ L) e1.symm (by rw [← e2]; exact X'.warmed.alike) hp hb k1 k2 k3 (by rw [e1]; exact hce) hcv hcl T' rfl X'
    exact ⟨t2, st.trans a1, b1⟩
/-- caught by the row x of this method's table; the rows ahead don't take it -/
theorem vx_catch {own name : String} {E : String} {ce : Cell} {q : Addr} (hown : s.vm.findClass own = some m.cls) (pre : List ExceptionTableEntry) (x : ExceptionTableEntry) (suf : List ExceptionTableEntry) (hsplit : c.exceptionTable.toList = pre ++ x :: suf)
    (hpass : ∀ z ∈ pre, covers z pc = false ∨ (z.catchType ≠ 0 ∧ ∃ nm : String, (Cond.classLink own z.catchType nm).before args s = true ∧ va_Nc E nm s)) (hx : covers x pc = true) (h0 : x.catchType ≠ 0)
    (hlink : (Cond.classLink own x.catchType name).before args s = true) (hcast : (Cond.castable E name).before args s = true) (hcell : H[q]? = some ce) (hv : ce.vm = .none) (hcl : s.vm.findClass E = some ce.cls)
    (kk : W p l e R s m args below meth c H locs cells slots Q (F0 m x.handlerPc ls [.ref q])) : vx_W p l e R s m args below meth c H locs cells slots Q (F0 m pc ls rest) q := by
  intro T hT X
  have hpl : e.platform.magicAccessors = ({} : Platform).magicAccessors := by rw [X.admits.platform]
  obtain ⟨c3, c4, hc3, hc4, hasg⟩ := Cond.castable_spec hcast
  cases Option.some.inj (hc3.symm.trans hcl)
  obtain ⟨c5, hc5, hcl5⟩ := Cond.classLink_spec hown hlink e.platform hpl
  cases Option.some.inj (hc4.symm.trans hc5)
  obtain ⟨vm', X', st⟩ := X.thenCaughtThrough q (g := F0 m pc ls rest) rfl (Steps.refl _) (by rw [hT]; exact hcell) (by rw [hv]; rfl) (by obtain ⟨k9, h9, -⟩ := Vm.findClass_spec hcl; exact ⟨k9, h9⟩) pre x suf hsplit
    (fun z hz => by
      rcases hpass z hz with h | ⟨hz0, nm, hl1, hn1⟩
      · exact Or.inl h
      · obtain ⟨c6, hc6, hcl6⟩ := Cond.classLink_spec hown hl1 e.platform hpl
        obtain ⟨a8, b8, h1, h2, h3⟩ := hn1
        cases Option.some.inj (h1.symm.trans hcl)
        cases Option.some.inj (h2.symm.trans hc6)
        exact Or.inr ⟨hz0, _, hcl6, h3⟩) hx (Or.inr ⟨h0, c4, hcl5, hasg⟩)
  obtain ⟨t, a1, b1⟩ := kk (T.setVm vm') hT X'
  exact ⟨t, st.trans a1, b1⟩
end Rows
section Ends
variable {p : Program} {l : Launch} {e : Env} {R : Room} {s : State} {m : MethodId} {args : Array Value} {below : List Frame} {meth : Method} {c : Code} {H : Heap} {locs : List Loc} {cells slots : Nat} {Q : State → Prop}
variable {mc ms : Nat} {free : Addr → Prop} {A0 A1 : Nat → Prop} {H0 : Heap} {a : Array Value} {ls : Array Slot} {st0 rest : List Value}
variable {Qc : Array Value → State → Outcome → State → Prop} {XC : String → State → State → Prop}
/-- what a body that may throw owes at its end -/
def vx_MQ (below : List Frame) (Qc : Array Value → State → Outcome → State → Prop) (XC : String → State → State → Prop) (a : Array Value) (s : State) (mc ms : Nat) (free : Addr → Prop) : State → Prop := fun t =>
  ∃ o, t.status = .running ∧ Ended t below o ∧ vx_Q Qc XC mc ms free a s o t
theorem vx_ret {g : JFrame} {mc ms : Nat} (k : W p l e R s m args below meth c H locs cells slots (MQ below Qc args s mc ms free) g) : W p l e R s m args below meth c H locs cells slots (vx_MQ below Qc XC args s mc ms free) g := by
  intro T hT X
  obtain ⟨t, a1, o, b1, b2, b3, b4⟩ := k T hT X
  exact ⟨t, a1, o, b1, b2, Or.inl ⟨b3, b4⟩⟩
/-- not caught here: it goes on to the caller -/
theorem vx_widen {g : JFrame} {q : Addr} {k n : Nat} (h1 : cells ≤ k) (h2 : slots ≤ n) (kk : vx_W p l e R s m args below meth c H locs k n Q g q) : vx_W p l e R s m args below meth c H locs cells slots Q g q := fun T hT X => kk T hT (stand_widen X h1 h2)
theorem vx_out {pc : Nat} {E : String} {ce : Cell} {q : Addr} {mc ms : Nat} (hout : ∀ x ∈ c.exceptionTable.toList, covers x pc = false) (hlocks : meth.locks = false) (hcell : H[q]? = some ce) (hv : ce.vm = .none) (hcl : s.vm.findClass E = some ce.cls)
    (hx : ∀ t : State, t.heap = H → s.vm.Alike t.vm → XC E s t) (hf : ∀ z ∈ locs, free z.base) (hc : cells ≤ mc) (hs : slots ≤ ms) :
    vx_W p l e R s m args below meth c H locs cells slots (vx_MQ below Qc XC args s mc ms free) (F0 m pc ls rest) q := by
  intro T hT X
  obtain ⟨st1, hrun, hend, hW, hsm⟩ := X.leaveThrown q (g := F0 m pc ls rest) rfl rfl rfl hout hlocks
  have hcell9 : (T.setFrames (.throwing q :: below)).heap[q]? = some ce := by
    show T.heap[q]? = some ce
    rw [hT]; exact hcell
  exact ⟨_, st1, .threw q, hrun, hend, Or.inr ⟨q, rfl, E, ce, locs, hx _ hT hW.alike, hcell9, hv, hcl, hW, hsm.mono hc hs, hf⟩⟩
theorem vx_frame {U : State} {k n : Nat} (h : s.sameButNew ({ U with vm := s.vm } : State) locs k n) : s.heap.size ≤ U.heap.size ∧ ∀ q : Nat, q < s.heap.size → (∀ z ∈ locs, z.base ≠ q) → U.heap[q]? = s.heap[q]? := by
  obtain ⟨-, h2, -, -, -, h6⟩ := h
  refine ⟨h2, fun q hq hz => ?_⟩
  obtain ⟨c9, e1, e2, e3, e4⟩ := h6 q _ (Array.getElem?_eq_getElem hq)
  have hs : c9.slots = (s.heap[q]).slots := Array.ext_getElem? fun i => e4 i fun hm => hz _ hm rfl
  have h9 : c9 = s.heap[q] := by
    rw [hs] at e2
    exact e2
  have e5 : U.heap[q]? = some c9 := e1
  rw [e5, h9, Array.getElem?_eq_getElem hq]
/-- the words of a throw but the four that speak of the heap -/
def vx_no (w : Cond) : Bool := decide (w ≠ .isRef (.static Bundle.tN "UNASSIGNED_STACK" Bundle.steD)) && decide (w ≠ .isRef (.static Bundle.tN "SUPPRESSED_SENTINEL" Bundle.listD)) && decide (w ≠ .laysStatic Bundle.tN "UNASSIGNED_STACK" Bundle.steD) && decide (w ≠ .laysStatic Bundle.tN "SUPPRESSED_SENTINEL" Bundle.listD)
def vx_at0 (own : String) (ic : Nat) (X : String) (names : List String) : List Cond := (Bundle.ownAtoms0 own ic X names).filter vx_no
def vx_atS (own : String) (ic : Nat) (X : String) (names : List String) : List Cond := (Bundle.ownAtoms own ic X names).filter vx_no
/-- a word that the tables alone decide, or a good one -/
def vx_ot (w : Cond) : Bool := w.onTables || goodWord w
theorem vx_ot_at {args a' : Array Value} {s U : State} {w : Cond} (hW : s.WarmedH U.vm) (hvm : s.vm = U.vm) (hg : vx_ot w = true) (h : w.before args s = true) : w.before a' U = true := by
  simp only [vx_ot, Bool.or_eq_true] at hg
  rcases hg with hg | hg
  · exact va_tabs hg hvm h
  · exact word_at hW (good_of_word hg) h
/-- a list's words: the good ones out of the method's own list, the others by premises of their own -/
theorem vx_hat {args : Array Value} {s : State} {L B : List Cond} (h1 : ∀ w ∈ L.filter goodWord, w.before args s = true) (h2 : ∀ w ∈ L.filter (fun w => !goodWord w), w ∈ B) (h3 : ∀ w ∈ B, w.before args s = true) : ∀ w ∈ L, w.before args s = true := by
  intro w hw
  by_cases g : goodWord w = true
  · exact h1 w (List.mem_filter.mpr ⟨hw, g⟩)
  · refine h3 w (h2 w (List.mem_filter.mpr ⟨hw, ?_⟩))
    show (!goodWord w) = true
    cases hgw : goodWord w
    · rfl
    · exact absurd hgw g
theorem vx_c {args : Array Value} {s : State} {w : Cond} {B : List Cond} (h : w.before args s = true) (t : ∀ w ∈ B, w.before args s = true) : ∀ w' ∈ w :: B, w'.before args s = true := fun w' h' => (List.mem_cons.mp h').elim (fun e => by rw [e]; exact h) (t w')
theorem vx_n {args : Array Value} {s : State} : ∀ w ∈ ([] : List Cond), w.before args s = true := fun _ h => nomatch h
theorem vx_own {args : Array Value} {s : State} {L : List Cond} (h1 : ∀ w ∈ L.filter vx_no, w.before args s = true)
    (hU : (Cond.isRef (.static Bundle.tN "UNASSIGNED_STACK" Bundle.steD)).before args s = true) (hN : (Cond.isRef (.static Bundle.tN "SUPPRESSED_SENTINEL" Bundle.listD)).before args s = true)
    (lU : (Cond.laysStatic Bundle.tN "UNASSIGNED_STACK" Bundle.steD).before args s = true) (lN : (Cond.laysStatic Bundle.tN "SUPPRESSED_SENTINEL" Bundle.listD).before args s = true) : ∀ w ∈ L, w.before args s = true := by
  intro w hw
  by_cases e1 : w = .isRef (.static Bundle.tN "UNASSIGNED_STACK" Bundle.steD)
  · rw [e1]; exact hU
  · by_cases e2 : w = .isRef (.static Bundle.tN "SUPPRESSED_SENTINEL" Bundle.listD)
    · rw [e2]; exact hN
    · by_cases e3 : w = .laysStatic Bundle.tN "UNASSIGNED_STACK" Bundle.steD
      · rw [e3]; exact lU
      · by_cases e4 : w = .laysStatic Bundle.tN "SUPPRESSED_SENTINEL" Bundle.listD
        · rw [e4]; exact lN
        · exact h1 w (List.mem_filter.mpr ⟨hw, by unfold vx_no; rw [decide_eq_true e1, decide_eq_true e2, decide_eq_true e3, decide_eq_true e4]; rfl⟩)
/-- where a static field lies, its class's statics cell in H -/
def vx_L (C n d : String) (A : Nat → Prop) (U : State) (H : Heap) : Prop := ∃ (c : ClassId) (k : Class) (i : Nat) (f : Field) (a : Nat) (cell : Cell), U.vm.findClass C = some c ∧ U.fieldFound? C n d = some (c, k, i, f) ∧ f.isStatic = true ∧ k.statics = some a ∧ H[a]? = some cell ∧ cell.vm.isStatics = true ∧ cell.cls = c ∧ f.slot < cell.slots.size ∧ k.staticTypes[f.slot]? = some f.type ∧ ¬ A a
theorem vx_L.moved {C n d : String} {A : Nat → Prop} {u U : State} {H : Heap} (hvm : u.vm.Alike U.vm) (h : vx_L C n d A u H) : vx_L C n d A U H := by
  obtain ⟨c, k, i, f, a, cell, h1, h2, h3, h4, h5, h6, h7, h8, h9, h10⟩ := h
  obtain ⟨k', hi', he⟩ := State.fieldFound?_setVm hvm h2
  exact ⟨c, k', i, f, a, cell, by rw [hvm.findClass]; exact h1, hi', h3, by rw [he]; exact h4, h5, h6, h7, h8, by rw [he]; exact h9, h10⟩
theorem vx_L.kept {C n d : String} {A : Nat → Prop} {U : State} {H H1 : Heap} (h : vx_L C n d A U H) (hq : ∀ a : Nat, a < H.size → ¬ A a → H1[a]? = H[a]?) : vx_L C n d A U H1 := by
  obtain ⟨c, k, i, f, a, cell, h1, h2, h3, h4, h5, h6, h7, h8, h9, h10⟩ := h
  exact ⟨c, k, i, f, a, cell, h1, h2, h3, h4, by rw [hq a (Array.getElem?_eq_some_iff.mp h5).1 h10]; exact h5, h6, h7, h8, h9, h10⟩
theorem vx_L.narrow {C n d : String} {A B : Nat → Prop} {U : State} {H : Heap} (h : vx_L C n d A U H) (hAB : ∀ q, B q → A q) : vx_L C n d B U H := by
  obtain ⟨c, k, i, f, a, cell, h1, h2, h3, h4, h5, h6, h7, h8, h9, h10⟩ := h
  exact ⟨c, k, i, f, a, cell, h1, h2, h3, h4, h5, h6, h7, h8, h9, fun z => h10 (hAB _ z)⟩
theorem vx_L.word {C n d : String} {A : Nat → Prop} {s : State} {args : Array Value} (h : vx_L C n d A s s.heap) : (Cond.laysStatic C n d).before args s = true := by
  obtain ⟨c, k, i, f, a, cell, h1, h2, h3, h4, h5, h6, h7, h8, h9, -⟩ := h
  show (Cond.laysStatic C n d).holds args s none s [] = true
  exact Cond.laysStatic_of h1 h2 h3 h4 h5 h6 h7 h8 h9
/-- .. and what it holds: null or some reference -/
def vx_Zq (C n d : String) (A : Nat → Prop) (U : State) (H : Heap) : Prop := va_Zq C n d A U H ∧ vx_L C n d A U H
theorem vx_Zq.moved {C n d : String} {A : Nat → Prop} {u U : State} {H : Heap} (hvm : u.vm.Alike U.vm) (h : vx_Zq C n d A u H) : vx_Zq C n d A U H := ⟨va_Zq.moved hvm h.1, vx_L.moved hvm h.2⟩
theorem vx_Zq.kept {C n d : String} {A : Nat → Prop} {U : State} {H H1 : Heap} (h : vx_Zq C n d A U H) (hq : ∀ a : Nat, a < H.size → ¬ A a → H1[a]? = H[a]?) : vx_Zq C n d A U H1 := ⟨va_Zq.kept h.1 hq, vx_L.kept h.2 hq⟩
theorem vx_Zq.narrow {C n d : String} {A B : Nat → Prop} {U : State} {H : Heap} (h : vx_Zq C n d A U H) (hAB : ∀ q, B q → A q) : vx_Zq C n d B U H := ⟨va_Zq.narrow h.1 hAB, vx_L.narrow h.2 hAB⟩
theorem vx_Zqof {args : Array Value} {s : State} {C n d : String} {A : Nat → Prop} (hl : (Cond.laysStatic C n d).before args s = true) (hini : (Cond.initialized C).before args s = true) (h : (Cond.isRef (.static C n d)).before args s = true) (hA : ∀ a : Nat, a < s.heap.size → ¬ A a) : vx_Zq C n d A s s.heap := by
  refine ⟨va_Zqof hl hini h hA, ?_⟩
  obtain ⟨c, k, i, f, a, cell, h1, h2, h3, h4, h5, h6, h7, h8, h9⟩ := Cond.laysStatic_spec hl
  exact ⟨c, k, i, f, a, cell, h1, h2, h3, h4, h5, h6, h7, h8, h9, hA a (Array.getElem?_eq_some_iff.mp h5).1⟩
theorem vx_isRef {C n d : String} {v : Value} {A : Nat → Prop} {s : State} {args : Array Value} (h : va_Z C n d v A s s.heap) (hv : v.isRef = true) : (Cond.isRef (.static C n d)).before args s = true := by
  obtain ⟨cf, kf, fi, f, a, cell, h1, h2, h3, h4, h5, h6, h7, -⟩ := h
  have he : (Term.static C n d).eval args s none [] s = some v := by
    simp [Term.eval, State.fieldNamed?, h1, h2, h4, h5, h6, h7]
  simp only [Cond.before, Cond.holds, Cond.value, he]
  cases v <;> simp_all [Value.isRef]
theorem vx_isRefq {C n d : String} {A : Nat → Prop} {s : State} {args : Array Value} (h : va_Zq C n d A s s.heap) : (Cond.isRef (.static C n d)).before args s = true := by
  rcases h with h | ⟨t, h⟩
  · exact vx_isRef h rfl
  · exact vx_isRef h rfl
/-- the same frame, seen from here: as if the method were called anew in this heap -/
theorem vx_rebase {T : State} (X : Stand p l e R s m args below meth c T locs cells slots) {R' : Room} (hf : R'.frames ≤ R.frames) (hl : R'.locals ≤ R.locals) (hc : cells + R'.cells ≤ R.cells) (hs : slots + R'.slots ≤ R.slots) :
    Stand p l e R' ((T.setVm s.vm).setFrames (.invoking m args :: below)) m args below meth c T [] 0 0 := by
  have htop : (T.setVm s.vm).topJava?.isSome := X.here.top
  have hF : ((T.setVm s.vm).setFrames (.invoking m args :: below)).frames = .invoking m args :: below := State.frames_setFrames _ (State.cur_lt_of_top htop)
  obtain ⟨g₀, hg0⟩ := Option.isSome_iff_exists.mp htop
  obtain ⟨r, hr⟩ := State.topJava?_eq_some.mp hg0
  have hl9 : e.platform.stackLimits (T.setVm s.vm).me = e.platform.stackLimits s.me := X.limits
  have hb9 : (T.setVm s.vm).me.stackBytes = s.me.stackBytes := X.bytes
  refine ⟨X.admits, X.cas, X.clock, hF, ?_, X.hears, X.method, X.code, X.here, X.tail, X.warmed, ?_, ?_, ?_⟩
  · have h := X.room
    have hU : ((T.setVm s.vm).setFrames (.invoking m args :: below)).localsInUse = s.localsInUse := by
      rw [State.localsInUse_invoking hF (meth := meth) (c := c) X.method X.code, State.localsInUse_invoking X.frames X.method X.code]
    simp only [State.hasRoom, Bool.and_eq_true, decide_eq_true_eq] at h ⊢
    obtain ⟨⟨⟨⟨h1, h2, h3, h4, h5, h6⟩, h7⟩, h8⟩, h9⟩ := h
    rw [X.frames, List.length_cons] at h2 h3
    have q1 := X.heapSize
    have q2 := X.used
    simp only [hF, hU, List.length_cons, State.stackLimits_setFrames, State.stackBytes_setFrames, hl9, hb9]
    refine ⟨⟨⟨⟨by omega, by omega, by omega, by omega, by omega, h6⟩, ?_⟩, ?_⟩, X.book⟩
    · show T.heap.size + R'.cells ≤ e.platform.maxCells
      omega
    · show T.slotsUsed + R'.slots ≤ e.platform.maxSlots
      omega
  · rw [State.stackLimits_setFrames]; rfl
  · rw [State.stackBytes_setFrames]; rfl
  · refine ⟨?_, Nat.le_refl _, Nat.le_refl _, ?_, ?_, fun a c9 h9 => ⟨c9, h9, rfl, rfl, fun _ _ => rfl⟩⟩
    · obtain ⟨t, ht, -⟩ := State.frames_cons hr
      show T.setVm s.vm = { ((T.setVm s.vm).setFrames (.invoking m args :: below)).setFrames (T.setVm s.vm).frames with heap := T.heap, slotsUsed := T.slotsUsed }
      rw [State.setFrames_setFrames, State.setFrames_self ht]
      rfl
    · show T.slotsUsed = T.slotsUsed + ((T.heap.toList.drop T.heap.size).map (·.slots.size)).sum
      rw [List.drop_eq_nil_of_le (Nat.le_of_eq Array.length_toList)]
      rfl
    · show ((T.heap.toList.drop T.heap.size).map (·.slots.size)).sum ≤ 0
      rw [List.drop_eq_nil_of_le (Nat.le_of_eq Array.length_toList)]
      exact Nat.le_refl _
/-- 'throw new E()': new; dup; invokespecial; athrow -/
theorem vx_throw0 {cc : ByteArray} {pc : Nat} (hexec : p.tables.exec = Jvm.exec) (hb : c.code = cc) (hl : l.stackTraces = false) {own cls : String} {names : List String} {ik ic mc ms : Nat} {A : Nat → Prop}
    (hown : s.vm.findClass own = some m.cls) (hcls : Bundle.fit cls = true) (hnames : ∀ n ∈ names, Bundle.fit n = true)
    (hk : (Cond.classLink own ik cls).before args s = true) (hini : (Cond.initialized cls).before args s = true) (hat : ∀ w ∈ vx_at0 own ic cls names, w.before args s = true)
    (hgood : ∀ w ∈ Cond.classLink own ik cls :: Cond.initialized cls :: vx_at0 own ic cls names, vx_ot w = true)
    (hU : vx_Zq Bundle.tN "UNASSIGNED_STACK" Bundle.steD A s s.heap) (hN : vx_Zq Bundle.tN "SUPPRESSED_SENTINEL" Bundle.listD A s s.heap) (hS : va_S A s.heap H locs) (hsize : ls.size = c.maxLocals)
    (d0 : decode cc pc = .ok (.new ik, 3)) (d3 : decode cc (pc + 3) = .ok (.dup, 1)) (d4 : decode cc (pc + 4) = .ok (.invokespecial ic, 3)) (d7 : decode cc (pc + 7) = .ok (.athrow, 1))
    (hout : ∀ x ∈ c.exceptionTable.toList, covers x (pc + 7) = false)
    (hRframes : names.length + 3 < R.frames) (hRlocals : (rest.map fun v => v.category).sum + (13 * (names.length + 1) + 42) ≤ R.locals) (hRcells : cells + 1 ≤ R.cells) (hRslots : slots + 6 ≤ R.slots) (hlocks : meth.locks = false)
    (hx : ∀ t : State, s.vm.Alike t.vm → H.size ≤ t.heap.size → (∀ q : Nat, q < H.size → t.heap[q]? = H[q]?) → XC cls s t)
    (hf : ∀ z ∈ locs, free z.base) (hc : cells + 1 ≤ mc) (hs : slots + 6 ≤ ms) :
    W p l e R s m args below meth c H locs cells slots (vx_MQ below Qc XC args s mc ms free) (F0 m pc ls rest) := by
  intro T hT X
  have htr : e.platform.stackTraces = false := (show e.platform.stackTraces = l.stackTraces by rw [X.admits.platform]).trans hl
  have Y := vx_rebase X (R' := { frames := R.frames, locals := R.locals, cells := 1, slots := 6 }) (Nat.le_refl _) (Nat.le_refl _) hRcells hRslots
  obtain ⟨s', hA⟩ : ∃ z, z = (T.setVm s.vm).setFrames (.invoking m args :: below) := ⟨_, rfl⟩
  rw [← hA] at Y
  have hvm : s'.vm = s.vm := by rw [hA]; rfl
  have hhp : s'.heap = H := by rw [hA]; exact hT
  have hW0 : s.WarmedH s'.vm := by rw [hvm]; exact State.WarmedH.refl s
  have hat' : ∀ w ∈ vx_at0 own ic cls names, w.before args s' = true := fun w hw => vx_ot_at hW0 hvm.symm (hgood w (List.mem_cons_of_mem _ (List.mem_cons_of_mem _ hw))) (hat w hw)
  have hk' : (Cond.classLink own ik cls).before args s' = true := vx_ot_at hW0 hvm.symm (hgood _ List.mem_cons_self) hk
  have hini' : (Cond.initialized cls).before args s' = true := vx_ot_at hW0 hvm.symm (hgood _ (List.mem_cons_of_mem _ List.mem_cons_self)) hini
  have hU' : vx_Zq Bundle.tN "UNASSIGNED_STACK" Bundle.steD A s' s'.heap := by rw [hhp]; exact vx_Zq.moved hW0.alike (hU.kept hS.2.1)
  have hN' : vx_Zq Bundle.tN "SUPPRESSED_SENTINEL" Bundle.listD A s' s'.heap := by rw [hhp]; exact vx_Zq.moved hW0.alike (hN.kept hS.2.1)
  have h : ∀ w ∈ Bundle.ownAtoms0 own ic cls names, w.before args s' = true := vx_own hat' (vx_isRefq hU'.1) (vx_isRefq hN'.1) hU'.2.word hN'.2.word
  have hown' : s'.vm.findClass own = some m.cls := by rw [hvm]; exact hown
  have hins : (Cond.instantiable cls 6).before args s' = true := h _ (by simp [Bundle.ownAtoms0])
  obtain ⟨vm₁, cX, kX, hfX, hkX, -, -, X₁, st1⟩ := Y.newCold hexec (own := own) (C := cls) (index := ik) (n := 6) hown' hk' hins hini'
    (g := F0 m pc ls rest) rfl (by rw [hb]; exact d0) (Nat.le_refl _) (Nat.le_refl _)
  generalize hT1 : (T.setVm vm₁).pushCell { cls := cX, slots := kX.instanceTypes.map defaultValue, vm := .none } = T1 at X₁ st1
  have hcat : (Value.ref T.heap.size).category = 1 := rfl
  have hcellA : T1.heap[T.heap.size]? = some (freshCell cX kX) := by rw [← hT1]; exact State.heap_pushCell_size _ _
  have d3' : decode c.code (pc + 3) = .ok (.dup, 1) := by rw [hb]; exact d3
  obtain ⟨U, hsteps, hrun, hend, hW, hsame, ce, hce, hO⟩ := X₁.ctorThrow0 hexec htr (own := own) (cls := cls) (names := names) (ic := ic) hown' hcls hnames h (fun x hx => nomatch hx) hfX hkX hcellA (by rw [hhp, hT]; exact Nat.le_refl _)
    (g := { method := m, pc := pc + 4, locals := ls, stack := .ref T.heap.size :: .ref T.heap.size :: rest, locked := none }) rfl hsize rfl rfl (rest := rest) rfl
    (by rw [hb]; exact d4) (by rw [hb]; exact d7) hout hRframes (by simp only [List.map_cons, List.sum_cons, hcat]; omega) hlocks
  obtain ⟨f1, f2⟩ := vx_frame hsame
  rw [hhp] at f1 f2
  have hWs : s.WarmedH U.vm := State.WarmedH.trans hW0 hW
  have hcl : s.vm.findClass cls = some ce.cls := by
    have h9 := hO.cls
    rw [hvm] at h9
    exact h9
  have hall : s.sameButNew ({ U with vm := s.vm } : State) locs mc ms := by
    subst hA
    obtain ⟨e1, e2⟩ := hsame
    rw [State.setFrames_setFrames] at e1
    have h2 : (T.setVm s.vm).sameButNew ({ U with vm := s.vm } : State) [] (0 + 1) (0 + 6) := ⟨e1, e2⟩
    have h3 := X.same.trans h2
    rw [List.append_nil] at h3
    exact h3.mono hc hs
  refine ⟨U, ?_, .threw T.heap.size, hrun, hend, Or.inr ⟨T.heap.size, rfl, cls, ce, locs, hx U hWs.alike f1 (fun q hq => f2 q hq (fun z hz => nomatch hz)), hce, hO.vm, hcl, hWs, hall, hf⟩⟩
  refine st1 _ ?_
  show Steps p.tables e below (T1.setTop { method := m, pc := pc + 3, locals := ls, stack := .ref T.heap.size :: rest, locked := none }) _
  jvm_step X₁.here [X₁.here.top, hexec, d3', Value.category]
  exact hsteps
/-- 'throw new E("text")': new; dup; ldc; invokespecial; athrow -/
theorem vx_throwS {cc : ByteArray} {pc : Nat} (hexec : p.tables.exec = Jvm.exec) (hb : c.code = cc) (hl : l.stackTraces = false) {own cls text : String} {names : List String} {ik is ic mc ms sa : Nat} {A : Nat → Prop}
    (hown : s.vm.findClass own = some m.cls) (hcls : Bundle.fit cls = true) (hnames : ∀ n ∈ names, Bundle.fit n = true)
    (hk : (Cond.classLink own ik cls).before args s = true) (hini : (Cond.initialized cls).before args s = true) (hstr : vk_R own is text sa s) (hat : ∀ w ∈ vx_atS own ic cls names, w.before args s = true)
    (hgood : ∀ w ∈ Cond.classLink own ik cls :: Cond.initialized cls :: vx_atS own ic cls names, vx_ot w = true)
    (hU : vx_Zq Bundle.tN "UNASSIGNED_STACK" Bundle.steD A s s.heap) (hN : vx_Zq Bundle.tN "SUPPRESSED_SENTINEL" Bundle.listD A s s.heap) (hS : va_S A s.heap H locs) (hsize : ls.size = c.maxLocals)
    (d0 : decode cc pc = .ok (.new ik, 3)) (d3 : decode cc (pc + 3) = .ok (.dup, 1)) (d4 : decode cc (pc + 4) = .ok (.ldc is, 2)) (d6 : decode cc (pc + 6) = .ok (.invokespecial ic, 3)) (d9 : decode cc (pc + 9) = .ok (.athrow, 1))
    (hout : ∀ x ∈ c.exceptionTable.toList, covers x (pc + 9) = false)
    (hRframes : names.length + 3 < R.frames) (hRlocals : (rest.map fun v => v.category).sum + (13 * (names.length + 1) + 43) ≤ R.locals) (hRcells : cells + 1 ≤ R.cells) (hRslots : slots + 6 ≤ R.slots) (hlocks : meth.locks = false)
    (hx : ∀ t : State, s.vm.Alike t.vm → H.size ≤ t.heap.size → (∀ q : Nat, q < H.size → t.heap[q]? = H[q]?) → XC cls s t)
    (hf : ∀ z ∈ locs, free z.base) (hc : cells + 1 ≤ mc) (hs : slots + 6 ≤ ms) :
    W p l e R s m args below meth c H locs cells slots (vx_MQ below Qc XC args s mc ms free) (F0 m pc ls rest) := by
  intro T hT X
  have htr : e.platform.stackTraces = false := (show e.platform.stackTraces = l.stackTraces by rw [X.admits.platform]).trans hl
  have Y := vx_rebase X (R' := { frames := R.frames, locals := R.locals, cells := 1, slots := 6 }) (Nat.le_refl _) (Nat.le_refl _) hRcells hRslots
  obtain ⟨s', hA⟩ : ∃ z, z = (T.setVm s.vm).setFrames (.invoking m args :: below) := ⟨_, rfl⟩
  rw [← hA] at Y
  have hvm : s'.vm = s.vm := by rw [hA]; rfl
  have hhp : s'.heap = H := by rw [hA]; exact hT
  have hW0 : s.WarmedH s'.vm := by rw [hvm]; exact State.WarmedH.refl s
  have hat' : ∀ w ∈ vx_atS own ic cls names, w.before args s' = true := fun w hw => vx_ot_at hW0 hvm.symm (hgood w (List.mem_cons_of_mem _ (List.mem_cons_of_mem _ hw))) (hat w hw)
  have hk' : (Cond.classLink own ik cls).before args s' = true := vx_ot_at hW0 hvm.symm (hgood _ List.mem_cons_self) hk
  have hini' : (Cond.initialized cls).before args s' = true := vx_ot_at hW0 hvm.symm (hgood _ (List.mem_cons_of_mem _ List.mem_cons_self)) hini
  have hU' : vx_Zq Bundle.tN "UNASSIGNED_STACK" Bundle.steD A s' s'.heap := by rw [hhp]; exact vx_Zq.moved hW0.alike (hU.kept hS.2.1)
  have hN' : vx_Zq Bundle.tN "SUPPRESSED_SENTINEL" Bundle.listD A s' s'.heap := by rw [hhp]; exact vx_Zq.moved hW0.alike (hN.kept hS.2.1)
  have h : ∀ w ∈ Bundle.ownAtoms own ic cls names, w.before args s' = true := vx_own hat' (vx_isRefq hU'.1) (vx_isRefq hN'.1) hU'.2.word hN'.2.word
  have hown' : s'.vm.findClass own = some m.cls := by rw [hvm]; exact hown
  have hins : (Cond.instantiable cls 6).before args s' = true := h _ (by simp [Bundle.ownAtoms])
  obtain ⟨vm₁, cX, kX, hfX, hkX, -, -, X₁, st1⟩ := Y.newCold hexec (own := own) (C := cls) (index := ik) (n := 6) hown' hk' hins hini'
    (g := F0 m pc ls rest) rfl (by rw [hb]; exact d0) (Nat.le_refl _) (Nat.le_refl _)
  generalize hT1 : (T.setVm vm₁).pushCell { cls := cX, slots := kX.instanceTypes.map defaultValue, vm := .none } = T1 at X₁ st1
  have hcat : (Value.ref T.heap.size).category = 1 := rfl
  have hcellA : T1.heap[T.heap.size]? = some (freshCell cX kX) := by rw [← hT1]; exact State.heap_pushCell_size _ _
  have d3' : decode c.code (pc + 3) = .ok (.dup, 1) := by rw [hb]; exact d3
  have d4' : decode c.code (pc + 4) = .ok (.ldc is, 2) := by rw [hb]; exact d4
  have hstr' : vk_R own is text sa s' := vk_R.warm hW0 hstr
  obtain ⟨U, hsteps, hrun, hend, hW, hsame, ce, hce, hO⟩ := X₁.ctorThrowS hexec htr (own := own) (cls := cls) (names := names) (ic := ic) hown' hcls hnames h (fun x hx => nomatch hx) hfX hkX hcellA (by rw [hhp, hT]; exact Nat.le_refl _) (msg := .ref sa) rfl
    (g := { method := m, pc := pc + 6, locals := ls, stack := .ref sa :: .ref T.heap.size :: .ref T.heap.size :: rest, locked := none }) rfl hsize rfl rfl (rest := rest) rfl
    (by rw [hb]; exact d6) (by rw [hb]; exact d9) hout hRframes (by simp only [List.map_cons, List.sum_cons, hcat]; omega) hlocks
  obtain ⟨f1, f2⟩ := vx_frame hsame
  rw [hhp] at f1 f2
  have hWs : s.WarmedH U.vm := State.WarmedH.trans hW0 hW
  have hcl : s.vm.findClass cls = some ce.cls := by
    have h9 := hO.cls
    rw [hvm] at h9
    exact h9
  have hall : s.sameButNew ({ U with vm := s.vm } : State) locs mc ms := by
    subst hA
    obtain ⟨e1, e2⟩ := hsame
    rw [State.setFrames_setFrames] at e1
    have h2 : (T.setVm s.vm).sameButNew ({ U with vm := s.vm } : State) [] (0 + 1) (0 + 6) := ⟨e1, e2⟩
    have h3 := X.same.trans h2
    rw [List.append_nil] at h3
    exact h3.mono hc hs
  refine ⟨U, ?_, .threw T.heap.size, hrun, hend, Or.inr ⟨T.heap.size, rfl, cls, ce, locs, hx U hWs.alike f1 (fun q hq => f2 q hq (fun z hz => nomatch hz)), hce, hO.vm, hcl, hWs, hall, hf⟩⟩
  refine st1 _ ?_
  show Steps p.tables e below (T1.setTop { method := m, pc := pc + 3, locals := ls, stack := .ref T.heap.size :: rest, locked := none }) _
  jvm_step X₁.here [X₁.here.top, hexec, d3', Value.category]
  exact X₁.ldcString hexec (own := own) (text := text) (index := is) (a := sa) hown' hstr'.1 hstr'.2
    (g := { method := m, pc := pc + 4, locals := ls, stack := .ref T.heap.size :: .ref T.heap.size :: rest, locked := none }) rfl d4' _ hsteps
/-- 'throw new E("text")', the text by a wide index -/
theorem vx_throwSW {cc : ByteArray} {pc : Nat} (hexec : p.tables.exec = Jvm.exec) (hb : c.code = cc) (hl : l.stackTraces = false) {own cls text : String} {names : List String} {ik is ic mc ms sa : Nat} {A : Nat → Prop}
    (hown : s.vm.findClass own = some m.cls) (hcls : Bundle.fit cls = true) (hnames : ∀ n ∈ names, Bundle.fit n = true)
    (hk : (Cond.classLink own ik cls).before args s = true) (hini : (Cond.initialized cls).before args s = true) (hstr : vk_R own is text sa s) (hat : ∀ w ∈ vx_atS own ic cls names, w.before args s = true)
    (hgood : ∀ w ∈ Cond.classLink own ik cls :: Cond.initialized cls :: vx_atS own ic cls names, vx_ot w = true)
    (hU : vx_Zq Bundle.tN "UNASSIGNED_STACK" Bundle.steD A s s.heap) (hN : vx_Zq Bundle.tN "SUPPRESSED_SENTINEL" Bundle.listD A s s.heap) (hS : va_S A s.heap H locs) (hsize : ls.size = c.maxLocals)
    (d0 : decode cc pc = .ok (.new ik, 3)) (d3 : decode cc (pc + 3) = .ok (.dup, 1)) (d4 : decode cc (pc + 4) = .ok (.ldc_w is, 3)) (d7 : decode cc (pc + 7) = .ok (.invokespecial ic, 3)) (d10 : decode cc (pc + 10) = .ok (.athrow, 1))
    (hout : ∀ x ∈ c.exceptionTable.toList, covers x (pc + 10) = false)
    (hRframes : names.length + 3 < R.frames) (hRlocals : (rest.map fun v => v.category).sum + (13 * (names.length + 1) + 43) ≤ R.locals) (hRcells : cells + 1 ≤ R.cells) (hRslots : slots + 6 ≤ R.slots) (hlocks : meth.locks = false)
    (hx : ∀ t : State, s.vm.Alike t.vm → H.size ≤ t.heap.size → (∀ q : Nat, q < H.size → t.heap[q]? = H[q]?) → XC cls s t)
    (hf : ∀ z ∈ locs, free z.base) (hc : cells + 1 ≤ mc) (hs : slots + 6 ≤ ms) :
    W p l e R s m args below meth c H locs cells slots (vx_MQ below Qc XC args s mc ms free) (F0 m pc ls rest) := by
  intro T hT X
  have htr : e.platform.stackTraces = false := (show e.platform.stackTraces = l.stackTraces by rw [X.admits.platform]).trans hl
  have Y := vx_rebase X (R' := { frames := R.frames, locals := R.locals, cells := 1, slots := 6 }) (Nat.le_refl _) (Nat.le_refl _) hRcells hRslots
  obtain ⟨s', hA⟩ : ∃ z, z = (T.setVm s.vm).setFrames (.invoking m args :: below) := ⟨_, rfl⟩
  rw [← hA] at Y
  have hvm : s'.vm = s.vm := by rw [hA]; rfl
  have hhp : s'.heap = H := by rw [hA]; exact hT
  have hW0 : s.WarmedH s'.vm := by rw [hvm]; exact State.WarmedH.refl s
  have hat' : ∀ w ∈ vx_atS own ic cls names, w.before args s' = true := fun w hw => vx_ot_at hW0 hvm.symm (hgood w (List.mem_cons_of_mem _ (List.mem_cons_of_mem _ hw))) (hat w hw)
  have hk' : (Cond.classLink own ik cls).before args s' = true := vx_ot_at hW0 hvm.symm (hgood _ List.mem_cons_self) hk
  have hini' : (Cond.initialized cls).before args s' = true := vx_ot_at hW0 hvm.symm (hgood _ (List.mem_cons_of_mem _ List.mem_cons_self)) hini
  have hU' : vx_Zq Bundle.tN "UNASSIGNED_STACK" Bundle.steD A s' s'.heap := by rw [hhp]; exact vx_Zq.moved hW0.alike (hU.kept hS.2.1)
  have hN' : vx_Zq Bundle.tN "SUPPRESSED_SENTINEL" Bundle.listD A s' s'.heap := by rw [hhp]; exact vx_Zq.moved hW0.alike (hN.kept hS.2.1)
  have h : ∀ w ∈ Bundle.ownAtoms own ic cls names, w.before args s' = true := vx_own hat' (vx_isRefq hU'.1) (vx_isRefq hN'.1) hU'.2.word hN'.2.word
  have hown' : s'.vm.findClass own = some m.cls := by rw [hvm]; exact hown
  have hins : (Cond.instantiable cls 6).before args s' = true := h _ (by simp [Bundle.ownAtoms])
  obtain ⟨vm₁, cX, kX, hfX, hkX, -, -, X₁, st1⟩ := Y.newCold hexec (own := own) (C := cls) (index := ik) (n := 6) hown' hk' hins hini'
    (g := F0 m pc ls rest) rfl (by rw [hb]; exact d0) (Nat.le_refl _) (Nat.le_refl _)
  generalize hT1 : (T.setVm vm₁).pushCell { cls := cX, slots := kX.instanceTypes.map defaultValue, vm := .none } = T1 at X₁ st1
  have hcat : (Value.ref T.heap.size).category = 1 := rfl
  have hcellA : T1.heap[T.heap.size]? = some (freshCell cX kX) := by rw [← hT1]; exact State.heap_pushCell_size _ _
  have d3' : decode c.code (pc + 3) = .ok (.dup, 1) := by rw [hb]; exact d3
  have d4' : decode c.code (pc + 4) = .ok (.ldc_w is, 3) := by rw [hb]; exact d4
  have hstr' : vk_R own is text sa s' := vk_R.warm hW0 hstr
  obtain ⟨U, hsteps, hrun, hend, hW, hsame, ce, hce, hO⟩ := X₁.ctorThrowS hexec htr (own := own) (cls := cls) (names := names) (ic := ic) hown' hcls hnames h (fun x hx => nomatch hx) hfX hkX hcellA (by rw [hhp, hT]; exact Nat.le_refl _) (msg := .ref sa) rfl
    (g := { method := m, pc := pc + 7, locals := ls, stack := .ref sa :: .ref T.heap.size :: .ref T.heap.size :: rest, locked := none }) rfl hsize rfl rfl (rest := rest) rfl
    (by rw [hb]; exact d7) (by rw [hb]; exact d10) hout hRframes (by simp only [List.map_cons, List.sum_cons, hcat]; omega) hlocks
  obtain ⟨f1, f2⟩ := vx_frame hsame
  rw [hhp] at f1 f2
  have hWs : s.WarmedH U.vm := State.WarmedH.trans hW0 hW
  have hcl : s.vm.findClass cls = some ce.cls := by
    have h9 := hO.cls
    rw [hvm] at h9
    exact h9
  have hall : s.sameButNew ({ U with vm := s.vm } : State) locs mc ms := by
    subst hA
    obtain ⟨e1, e2⟩ := hsame
    rw [State.setFrames_setFrames] at e1
    have h2 : (T.setVm s.vm).sameButNew ({ U with vm := s.vm } : State) [] (0 + 1) (0 + 6) := ⟨e1, e2⟩
    have h3 := X.same.trans h2
    rw [List.append_nil] at h3
    exact h3.mono hc hs
  refine ⟨U, ?_, .threw T.heap.size, hrun, hend, Or.inr ⟨T.heap.size, rfl, cls, ce, locs, hx U hWs.alike f1 (fun q hq => f2 q hq (fun z hz => nomatch hz)), hce, hO.vm, hcl, hWs, hall, hf⟩⟩
  refine st1 _ ?_
  show Steps p.tables e below (T1.setTop { method := m, pc := pc + 3, locals := ls, stack := .ref T.heap.size :: rest, locked := none }) _
  jvm_step X₁.here [X₁.here.top, hexec, d3', Value.category]
  exact X₁.ldcStringW hexec (own := own) (text := text) (index := is) (a := sa) hown' hstr'.1 hstr'.2
    (g := { method := m, pc := pc + 4, locals := ls, stack := .ref T.heap.size :: .ref T.heap.size :: rest, locked := none }) rfl d4' _ hsteps
end Ends
section Bodies
variable {l : Launch}
theorem vx_ofW {y : MethodName} {ws ws' : List Cond} {rm : Room} {Pc : Array Value → State → Prop} {Qc : Array Value → State → Outcome → State → Prop} {XC : String → State → State → Prop} {mc ms : Nat} {free : Addr → Prop} {cc : ByteArray} {maxL : Nat} {ret : Option FieldType}
    (hy : plainName y.cls = true) (hw : ws = Cond.code y cc maxL ret :: ws')
    (body : ∀ p e s m args below meth c s₁, BodyLoose p l y (headSpec ws rm) cc maxL ret e s m args below meth c s₁ → c.maxLocals = maxL → (∀ x ∈ c.exceptionTable.toList, False) → Pc args s →
      W p l e (headSpec ws rm).room s m args below meth c s.heap [] 0 0 (vx_MQ below Qc XC args s mc ms free) (entryFrame m args maxL)) : vx_Met l y ws rm Pc Qc XC mc ms free := by
  refine MetFree.of_bodyS (code := cc) (maxLocals := maxL) (ret := ret) hy ?_ ?_
  · intro args s m h hn
    obtain ⟨meth, c, h1, h2, h3, h4, h5, h6, -, -⟩ := Cond.code_spec hn (atoms_spec (ws := ws) h _ (by rw [hw]; exact List.mem_cons_self))
    exact ⟨meth, c, h1, h2, h3, h4, h5, h6⟩
  · intro p e s m args below meth c s₁ B hml hP _
    have hh0 : s₁.heap = s.heap := by rw [B.state]; rfl
    have ht : ∀ x ∈ c.exceptionTable.toList, False := by
      obtain ⟨meth9, c9, h1, h2, -, -, -, -, h7, -⟩ := Cond.code_spec B.named (atoms_spec (ws := ws) B.pre _ (by rw [hw]; exact List.mem_cons_self))
      cases Option.some.inj (h1.symm.trans B.method)
      cases Option.some.inj (h2.symm.trans (Stand.of_body B).code)
      intro x hx
      rw [Array.isEmpty_iff.mp h7] at hx
      cases hx
    obtain ⟨t, a1, o, b1, b2, b3⟩ := body p e s m args below meth c s₁ B hml ht hP s₁ hh0 (Stand.of_body B)
    exact ⟨t, o, a1, b1, b2, b3⟩
/-- the table of a body with handlers -/
theorem vx_table {p : Program} {x y : MethodName} {S : Spec} {cc bytes : ByteArray} {maxL maxL' : Nat} {ret ret' : Option FieldType} {e : Env} {s s₁ : State} {m : MethodId} {args : Array Value} {below : List Frame} {meth : Method} {c : Code} {hh : List (Nat × Nat × Nat × Nat)}
    (B : BodyLoose p l y S cc maxL ret e s m args below meth c s₁) (h : (Cond.codeWith y bytes maxL' ret' hh).before args s = true) : c.exceptionTable.toList = tableOf hh := by
  obtain ⟨m9, meth9, c9, hn9, h1, h2, -, -, h6, -⟩ := Cond.codeWith_spec h
  cases Option.some.inj (hn9.symm.trans B.named)
  cases Option.some.inj (h1.symm.trans B.method)
  cases Option.some.inj (h2.symm.trans (Stand.of_body B).code)
  rw [← h6, table_eq]
end Bodies
end VXA
/-! ===== END ===== -/
/-! ===== BEGIN a static call of a method with an exception table ===== -/
section VXS
variable {p : Program} {l : Launch} {e : Env} {R : Room} {s : State} {m : MethodId} {args : Array Value} {below : List Frame} {meth : Method} {c : Code} {T : State} {H : Heap} {locs : List Loc} {cells slots : Nat}
abbrev vx_CSW (R : Room) (s : State) (args : Array Value) (own : String) (index : Nat) (y : MethodName) (bytes : ByteArray) (maxL : Nat) (ret : Option FieldType) (hh : List (Nat × Nat × Nat × Nat)) (ws : List Cond) (rm : Room) (mc ms n : Nat) : Prop :=
  (rm.cells = mc ∧ rm.slots = ms ∧ rm.frames + 1 ≤ R.frames ∧ 8 + (maxL + 11) + rm.locals ≤ R.locals ∧ (∀ w ∈ ws, ∀ (a' : Array Value) (U : State), s.WarmedH U.vm → w.before a' U = true) ∧ Cond.codeWith y bytes maxL ret hh ∈ ws) ∧
  (Cond.codeWith y bytes maxL ret hh).before args s = true ∧ (Cond.initialized y.cls).before args s = true ∧ (y.cls ≠ "java/lang/invoke/MethodHandle" ∧ y.cls ≠ "java/lang/invoke/VarHandle") ∧
  (∀ sig, parseMethodDescriptor y.desc = some sig → n = sig.parameters.length) ∧ (Cond.methodLink own index y).before args s = true ∧ (Cond.static y).before args s = true
theorem vx_cwSW {own : String} {index maxL mc ms : Nat} {y : MethodName} {bytes : ByteArray} {ret : Option FieldType} {hh : List (Nat × Nat × Nat × Nat)} {Ts ws ws' : List Cond} {rm : Room} (n : Nat) (ht : ∀ w ∈ Ts, w.before args s = true) (hT : GoodIn Ts (va_wsS own index y ws)) (hw : ws = Cond.codeWith y bytes maxL ret hh :: ws') (hrc : rm.cells = mc) (hrs : rm.slots = ms)
    (hd : y.cls ≠ "java/lang/invoke/MethodHandle" ∧ y.cls ≠ "java/lang/invoke/VarHandle" ∧ (parseMethodDescriptor y.desc).map (fun d => d.parameters.length) = some n) (hR : rm.frames + 1 ≤ R.frames ∧ 8 + (maxL + 11) + rm.locals ≤ R.locals) :
    vx_CSW R s args own index y bytes maxL ret hh ws rm mc ms n := by
  have ok : ∀ w ∈ va_wsS own index y ws, w.before args s = true := fun w h => ht w (hT w h).1
  have hG : GoodIn Ts ws := fun w h => hT w (by unfold va_wsS; exact List.mem_append_right _ h)
  have hc : Cond.codeWith y bytes maxL ret hh ∈ ws := by rw [hw]; exact List.mem_cons_self
  refine ⟨⟨hrc, hrs, hR.1, hR.2, pay_in ht hG, hc⟩, ht _ (hG _ hc).1, ok _ (by simp [va_wsS]), ⟨hd.1, hd.2.1⟩, fun sig h => ?_, ok _ (by simp [va_wsS]), ok _ (by simp [va_wsS])⟩
  have h2 := hd.2.2
  rw [h] at h2
  exact (Option.some.inj h2).symm
theorem vx_callSW (X : Stand p l e R s m args below meth c T locs cells slots) (hexec : p.tables.exec = Jvm.exec) {own : String} {index : Nat} {y : MethodName} {bytes : ByteArray} {maxL : Nat} {ret : Option FieldType} {hh : List (Nat × Nat × Nat × Nat)}
    (hown : s.vm.findClass own = some m.cls) (hlink : (Cond.methodLink own index y).before args s = true) (hstat : (Cond.static y).before args s = true) (hinit : (Cond.initialized y.cls).before args s = true)
    (hcode : (Cond.codeWith y bytes maxL ret hh).before args s = true) (hy : y.cls ≠ "java/lang/invoke/MethodHandle" ∧ y.cls ≠ "java/lang/invoke/VarHandle")
    {W9 : Nat} {Pre : Pt → Array Value → Prop} {Post : Pt → Array Value → Option Value → Pt → Prop} (hK : Back l R p e below s args y 3 W9 Pre Post)
    {g : JFrame} (hg : g.method = m) (hsize : g.locals.size = c.maxLocals) {argsL rest : List Value} (hlen : ∀ sig, parseMethodDescriptor y.desc = some sig → argsL.length = sig.parameters.length)
    (hstack : g.stack = argsL.reverse ++ rest) (hW : 2 * g.monitorRoom + (rest.map fun v => v.category).sum ≤ W9) (hdg : decode c.code g.pc = .ok (.invokestatic index, 3))
    (hpre : ∀ vm₁, s.WarmedH vm₁ → Pre ⟨T.setVm vm₁, locs, cells, slots⟩ argsL.toArray) :
    ∃ (v : Option Value) (vm₁ : Vm) (B : Pt), s.WarmedH vm₁ ∧ Stand p l e R s m args below meth c B.U B.locs B.cells B.slots ∧ Post ⟨T.setVm vm₁, locs, cells, slots⟩ argsL.toArray v B ∧
      ∀ target, Steps p.tables e below (B.U.setTop { g with pc := g.pc + 3, stack := v.toList ++ rest }) target → Steps p.tables e below (T.setTop g) target := by
  obtain ⟨mk, methM, cM, hnamed, hmethM, -, -, -, -, -, -, hsigM⟩ := Cond.codeWith_spec hcode
  have hstatic : methM.isStatic = true := Cond.static_spec hnamed hmethM hstat
  obtain ⟨kP, hkP, -⟩ := className_of_methodNamed hnamed
  have hinitP : kP.init = .initialized := Cond.initialized_spec (findClass_of_methodNamed hnamed) hkP hinit
  obtain ⟨vm₁, X₁, hstep₁⟩ := X.invokestatic hexec hown hlink hnamed hmethM hstatic hkP hinitP hy (g := g) hg (argsL := argsL) (rest := rest) (hlen _ hsigM) hstack hdg
  obtain ⟨v, B, X', hpost, hsteps⟩ := hK m meth c ⟨T.setVm vm₁, locs, cells, slots⟩ { g with stack := rest } (.invokestatic index) mk argsL.toArray X₁ hg hsize hdg hW (X₁.named hnamed) (hpre vm₁ X₁.warmed)
  exact ⟨v, vm₁, B, X₁.warmed, X', hpost, fun target h => hstep₁ _ fun acts => by rw [doInvoke_state]; exact hsteps.trans h⟩
theorem vx_runSW {y : MethodName} {bytes cc : ByteArray} {maxL nL mc ms n index : Nat} {ret : Option FieldType} {hh : List (Nat × Nat × Nat × Nat)} {ws : List Cond} {rm : Room} {Pc : Array Value → State → Prop} {Qc : Array Value → State → Outcome → State → Prop} {free : Addr → Prop} {Ts : List Cond} {own : String} {As rest : List Value} {g : JFrame}
    (S : CallFix p m c cc nL s args Ts own) (hM : Met l y ws rm Pc Qc mc ms free) (cw : vx_CSW R s args own index y bytes maxL ret hh ws rm mc ms n) (hp : PreS s H Pc As)
    (hg : g.method = m) (hn : As.length = n) (hsize : g.locals.size = nL) (hstack : g.stack = As.reverse ++ rest) (hW : 2 * g.monitorRoom + (rest.map fun v => v.category).sum ≤ 8) (hdg : decode cc g.pc = .ok (.invokestatic index, 3)) (hf : cells + mc ≤ R.cells ∧ slots + ms ≤ R.slots) :
    va_Run p l e R s m args below meth c H locs cells slots mc ms g rest (Qc As.toArray) (free) := by
  obtain ⟨⟨hrc, hrs, hfr, hlo, hws, hcw⟩, hcode, hini, hy, hlen, hl, hstt⟩ := cw
  have hK : Back l R p e below s args y 3 8 (PreOf R mc ms Pc) (PostOf Qc mc ms free) := va_backW (hh := hh) (bytes := bytes) (maxL := maxL) (ret := ret) hM hp.1 hrc hrs hfr hlo hws hcw (fun a' U hW => word_at hW (Or.inl (by first | rfl | simp [Cond.onTables, Cond.keeps, Cond.steady])) hini)
  obtain ⟨hx, hb, hml, ho, -⟩ := S
  intro T hT X
  obtain ⟨v, vm₁, ⟨U', l2, c2, s2⟩, hW₁, X', ⟨g', mk, t, L, e1, e2, hq, h1, hL, h2, h3⟩, st⟩ := vx_callSW X hx (hh := hh) (bytes := bytes) (maxL := maxL) (ret := ret) ho hl hstt hini hcode hy hK hg (hsize.trans hml.symm) (argsL := As) (rest := rest) (fun sig h => hn.trans (hlen sig h)) hstack hW (by rw [hb]; exact hdg)
    (fun vm₁ hW₁ => ⟨hf.1, hf.2, hp.2 (T.setVm vm₁) hT hW₁⟩)
  dsimp only [Pt.U, Pt.locs, Pt.cells, Pt.slots] at X' e1 e2 h1 h2 h3 st
  subst h1; subst h2; subst h3
  exact ⟨v, (T.setVm vm₁).calling g' mk As.toArray, t, U', L, hT, X', hL, e1, e2, hq, st⟩
/-- not caught here, past rows that name other classes: it goes on to the caller -/
theorem vx_outP {p : Program} {l : Launch} {e : Env} {R : Room} {s : State} {m : MethodId} {args : Array Value} {below : List Frame} {meth : Method} {c : Code} {H : Heap} {locs : List Loc} {cells slots : Nat} {free : Addr → Prop} {ls : Array Slot} {rest : List Value} {Qc : Array Value → State → Outcome → State → Prop} {XC : String → State → State → Prop}
    {pc : Nat} {own E : String} {ce : Cell} {q : Addr} {mc ms : Nat} (hown : s.vm.findClass own = some m.cls) (hlocks : meth.locks = false)
    (hpass : ∀ z ∈ c.exceptionTable.toList, covers z pc = false ∨ (z.catchType ≠ 0 ∧ ∃ nm : String, (Cond.classLink own z.catchType nm).before args s = true ∧ va_Nc E nm s)) (hcell : H[q]? = some ce) (hv : ce.vm = .none) (hcl : s.vm.findClass E = some ce.cls)
    (hx : ∀ t : State, t.heap = H → s.vm.Alike t.vm → XC E s t) (hf : ∀ z ∈ locs, free z.base) (hc : cells ≤ mc) (hs : slots ≤ ms) :
    vx_W p l e R s m args below meth c H locs cells slots (vx_MQ below Qc XC args s mc ms free) (F0 m pc ls rest) q := by
  intro T hT X
  have hpl : e.platform.magicAccessors = ({} : Platform).magicAccessors := by rw [X.admits.platform]
  obtain ⟨vm', hW', X', st⟩ := X.outThrough hlocks q (g := F0 m pc ls rest) rfl rfl rfl (cell := ce) (by rw [hT]; exact hcell) (by rw [hv]; rfl)
    (by obtain ⟨k9, h9, -⟩ := Vm.findClass_spec hcl; exact ⟨k9, h9⟩) (fun z hz => by
      rcases hpass z hz with h | ⟨hz0, nm, hl1, hn1⟩
      · exact Or.inl h
      · obtain ⟨c6, hc6, hcl6⟩ := Cond.classLink_spec hown hl1 e.platform hpl
        obtain ⟨a8, b8, h1, h2, h3⟩ := hn1
        cases Option.some.inj (h1.symm.trans hcl)
        cases Option.some.inj (h2.symm.trans hc6)
        exact Or.inr ⟨hz0, _, hcl6, h3⟩)
  obtain ⟨g₀, hfr⟩ := X'.frames_eq
  have hcell9 : ((T.setVm vm').setFrames (.throwing q :: below)).heap[q]? = some ce := by
    show T.heap[q]? = some ce
    rw [hT]; exact hcell
  have hend : Ended ((T.setVm vm').setFrames (.throwing q :: below)) below (.threw q) := State.frames_setFrames _ (State.cur_lt_of_frames hfr)
  refine ⟨(T.setVm vm').setFrames (.throwing q :: below), ?_, .threw q, X'.here.running, hend, Or.inr ⟨q, rfl, E, ce, locs, hx _ hT (X'.ends _).1.alike, hcell9, hv, hcl, (X'.ends _).1, (X'.ends _).2.mono hc hs, hf⟩⟩
  rw [X.pushThrowing_eq]
  exact st
/-- a thing of a world lies in the heap -/
theorem vx_lt {D : va_G} {cl : List vw_C} {ws : va_W} {H1 : Heap} (h : va_P D cl ws H1) {k : Nat} {q : Nat × va_E} (hk : ws[k]? = some q) : q.1 < H1.size := (h k q hk).lt
end VXS
/-! ===== END ===== -/
/-! ===== BEGIN methods with a table of their own: called by a name, returning or throwing ===== -/
section VXH
/-! vx_backW, vx_callVX, vx_callSX, vx_callVW, vx_runVW, vx_runVX, vx_runSX, vx_ofWH follow the same proofs as their sisters above (Free/Laws.lean, Shelf42/LK1.lean); vx_outP calls Shelf42/NT130.lean (outThrough). -/
section
variable {l : Launch} {R : Room} {p : Program} {e : Env} {below : List Frame} {s : State} {sargs : Array Value} {y : MethodName} {len W9 : Nat}
theorem vx_backW {ws : List Cond} {rm : Room} {Pc : Array Value → State → Prop} {Qc : Array Value → State → Outcome → State → Prop} {XC : String → State → State → Prop} {mc ms : Nat} {free : Addr → Prop} {bytes : ByteArray} {maxL : Nat} {ret : Option FieldType} {hh : List (Nat × Nat × Nat × Nat)}
    (hM : vx_Met l y ws rm Pc Qc XC mc ms free) (hblind : FrameBlind Pc) (hrc : rm.cells = mc) (hrs : rm.slots = ms)
    (hframes : rm.frames + 1 ≤ R.frames) (hlocals : W9 + (maxL + 11) + rm.locals ≤ R.locals)
    (hws : ∀ w ∈ ws, ∀ a' U, s.WarmedH U.vm → w.before a' U = true) (hcode : Cond.codeWith y bytes maxL ret hh ∈ ws) (hinit : ∀ a' U, s.WarmedH U.vm → (Cond.initialized y.cls).before a' U = true) :
    vx_Back l R p e below s sargs y len W9 (PreOf R mc ms Pc) (PostOf Qc mc ms free) (vx_Post XC mc ms free) := by
  intro m meth c A g ig mk a X hg hsize hdg hW hn hp
  have h1 : (headSpec ws rm).pre.before a A.U = true := atoms_intro fun w hw => hws w hw _ _ X.warmed
  have h2 : (Cond.codeWith y bytes maxL ret hh).before a A.U = true := hws _ hcode _ _ X.warmed
  have h3 : (Cond.initialized y.cls).before a A.U = true := hinit _ _ X.warmed
  have h4 : A.cells + (headSpec ws rm).room.cells ≤ R.cells := by rw [show (headSpec ws rm).room.cells = mc from hrc]; exact hp.1
  have h5 : A.slots + (headSpec ws rm).room.slots ≤ R.slots := by rw [show (headSpec ws rm).room.slots = ms from hrs]; exact hp.2.1
  have hPc : Pc a (A.U.calling g mk a) := hblind _ _ _ _ hp.2.2
  obtain ⟨U, Ls, c0, s0⟩ := A
  dsimp only [Pt.U, Pt.locs, Pt.cells, Pt.slots] at h1 h2 h3 h4 h5 X hn hPc ⊢
  obtain ⟨m9, methY, cY, hn9, hmY, hcY, -, hlY, -⟩ := Cond.codeWith_spec h2
  cases Option.some.inj (hn9.symm.trans hn)
  obtain ⟨kY, hkY, -⟩ := className_of_methodNamed hn
  have hinitY : kY.init = .initialized := Cond.initialized_spec (findClass_of_methodNamed hn) hkY h3
  have h : At U g.method c below := by rw [hg]; exact X.here
  have hlocals9 : W9 + (maxL + 11) + (headSpec ws rm).room.locals ≤ R.locals := hlocals
  have happ : (headSpec ws rm).appliesLoose y e.platform (U.calling g mk a) = true :=
    Spec.appliesLoose_calling (g := g) h hdg hn hkY hinitY
      (X.room_calling (g := g) (R' := (headSpec ws rm).room) hsize hmY hcY hframes (by rw [hlY]; omega) h4 h5) h1
  obtain ⟨mid, hmid⟩ := h.above
  have hfr : (U.setTop g).frames = (.java g :: mid) ++ below := by rw [State.frames_setTop' g h.top, hmid]; rfl
  obtain ⟨o, s₂, hsteps, -, hend, hq⟩ := Steps.callFree hM p X.admits X.cas X.clock (acts := []) hfr happ hPc trivial
  have hq' : vx_Q Qc XC mc ms free a (U.calling g mk a) o s₂ := hq
  rw [State.frames_setTop' g h.top] at hend
  obtain ⟨g₀, hg0⟩ := Option.isSome_iff_exists.mp h.top
  obtain ⟨r, hr⟩ := State.topJava?_eq_some.mp hg0
  have hr' : (({ U with heap := s₂.heap, slotsUsed := s₂.slotsUsed } : State).setVm s₂.vm).frames = .java g₀ :: r := hr
  rcases hq' with ⟨hqc, L, hfe, hL⟩ | ⟨q, rfl, E, ce, L, hx, hce, hcv, hcl, hW₂, hsm, hL⟩
  · obtain ⟨⟨v, rfl⟩, hW₂, e2, q2, q3, q4, q5, q6⟩ := id hfe
    have e3 : s₂ = ({ (U.calling g mk a).setFrames s₂.frames with heap := s₂.heap, slotsUsed := s₂.slotsUsed } : State).setVm s₂.vm := by
      have : s₂ = ({ s₂ with vm := (U.calling g mk a).vm } : State).setVm s₂.vm := rfl
      rw [e2] at this
      exact this
    obtain ⟨c₂, i₂, len₂, hc₂, hd₂, hf₂⟩ := hend
    have hW' : U.WarmedH s₂.vm := hW₂
    have hcc : c₂ = c := by
      have h1 : s₂.code? g.method = U.code? g.method := by
        rw [State.code?_eq, State.code?_eq, hW'.alike.method?]
      exact Option.some.inj (hc₂.symm.trans (h1.trans h.code))
    subst hcc
    have hlen : len₂ = len := by rw [hdg] at hd₂; cases hd₂; rfl
    subst hlen
    have hs₂ : s₂ = (({ U with heap := s₂.heap, slotsUsed := s₂.slotsUsed } : State).setVm s₂.vm).setTop { g with pc := g.pc + len₂, stack := v.toList ++ g.stack } := by
      refine e3.trans ?_
      rw [hf₂, State.calling_eq h.top, State.setFrames_setFrames, State.setTop_of_frames _ hr', hr]
      rfl
    have hsame : U.sameButNew ({ U with heap := s₂.heap, slotsUsed := s₂.slotsUsed } : State) L mc ms := by
      refine ⟨?_, q2, q3, q4, q5, q6⟩
      obtain ⟨t, ht, -⟩ := State.frames_cons hr
      show ({ U with heap := s₂.heap, slotsUsed := s₂.slotsUsed } : State) = { U.setFrames U.frames with heap := s₂.heap, slotsUsed := s₂.slotsUsed }
      rw [State.setFrames_self ht]
    subst hg
    refine Or.inl ⟨v, ⟨(({ U with heap := s₂.heap, slotsUsed := s₂.slotsUsed } : State).setVm s₂.vm), Ls ++ L, c0 + mc, s0 + ms⟩,
      ⟨X.admits, X.cas, X.clock, X.frames, X.room, X.hears, X.method, X.code, (X.here.setHeapUsed s₂.heap s₂.slotsUsed).setVm hW'.alike, X.tail, State.WarmedH.trans X.warmed hW', X.limits, X.bytes, X.same.trans (hsame.setVm s.vm)⟩,
      ⟨g, mk, s₂, L, rfl, rfl, hqc, rfl, hL, rfl, rfl⟩, ?_⟩
    show Steps p.tables e below _ ((({ U with heap := s₂.heap, slotsUsed := s₂.slotsUsed } : State).setVm s₂.vm).setTop { g with pc := g.pc + len₂, stack := v.toList ++ g.stack })
    rw [← hs₂]
    exact hsteps
  · obtain ⟨e2, q2, q3, q4, q5, q6⟩ := id hsm
    have e3 : s₂ = ({ (U.calling g mk a).setFrames s₂.frames with heap := s₂.heap, slotsUsed := s₂.slotsUsed } : State).setVm s₂.vm := by
      have : s₂ = ({ s₂ with vm := (U.calling g mk a).vm } : State).setVm s₂.vm := rfl
      rw [e2] at this
      exact this
    have hf₂ : s₂.frames = .throwing q :: .java g :: U.frames.tail := hend
    have hW' : U.WarmedH s₂.vm := hW₂
    have hs₂ : s₂ = ((({ U with heap := s₂.heap, slotsUsed := s₂.slotsUsed } : State).setVm s₂.vm).setTop g).pushFrame (.throwing q) := by
      refine e3.trans ?_
      rw [hf₂, State.calling_eq h.top, State.setFrames_setFrames, State.pushFrame, State.frames_setTop _ hr', State.setTop_of_frames _ hr', State.setFrames_setFrames, hr]
      rfl
    have hsame : U.sameButNew ({ U with heap := s₂.heap, slotsUsed := s₂.slotsUsed } : State) L mc ms := by
      refine ⟨?_, q2, q3, q4, q5, q6⟩
      obtain ⟨t, ht, -⟩ := State.frames_cons hr
      show ({ U with heap := s₂.heap, slotsUsed := s₂.slotsUsed } : State) = { U.setFrames U.frames with heap := s₂.heap, slotsUsed := s₂.slotsUsed }
      rw [State.setFrames_self ht]
    subst hg
    refine Or.inr ⟨q, ⟨(({ U with heap := s₂.heap, slotsUsed := s₂.slotsUsed } : State).setVm s₂.vm), Ls ++ L, c0 + mc, s0 + ms⟩,
      ⟨X.admits, X.cas, X.clock, X.frames, X.room, X.hears, X.method, X.code, (X.here.setHeapUsed s₂.heap s₂.slotsUsed).setVm hW'.alike, X.tail, State.WarmedH.trans X.warmed hW', X.limits, X.bytes, X.same.trans (hsame.setVm s.vm)⟩,
      ⟨g, mk, s₂, L, E, ce, rfl, rfl, hx, hce, hcv, hcl, rfl, hL, rfl, rfl⟩, ?_⟩
    show Steps p.tables e below _ (((({ U with heap := s₂.heap, slotsUsed := s₂.slotsUsed } : State).setVm s₂.vm).setTop g).pushFrame (.throwing q))
    rw [← hs₂]
    exact hsteps
end
variable {p : Program} {l : Launch} {e : Env} {R : Room} {s : State} {m : MethodId} {args : Array Value} {below : List Frame} {meth : Method} {c : Code} {T : State} {H : Heap} {locs : List Loc} {cells slots : Nat}
theorem vx_callVX (X : Stand p l e R s m args below meth c T locs cells slots) (hexec : p.tables.exec = Jvm.exec) {own C : String} {index : Nat} {y : MethodName} {bytes : ByteArray} {maxL : Nat} {ret : Option FieldType} {hh : List (Nat × Nat × Nat × Nat)}
    (hown : s.vm.findClass own = some m.cls) (hlink : (Cond.methodLink own index y).before args s = true) (hinst : (Cond.instanceMethod y).before args s = true) (hsel : (Cond.selects C y y).before args s = true)
    (hcode : (Cond.codeWith y bytes maxL ret hh).before args s = true) (hy : y.cls ≠ "java/lang/invoke/MethodHandle" ∧ y.cls ≠ "java/lang/invoke/VarHandle")
    {W9 : Nat} {Pre : Pt → Array Value → Prop} {Post : Pt → Array Value → Option Value → Pt → Prop} {PostX : Pt → Array Value → Addr → Pt → Prop} (hK : vx_Back l R p e below s args y 3 W9 Pre Post PostX)
    {b : Addr} {cellB : Cell} (hcell : T.heap[b]? = some cellB) (hobj : cellB.vm.isStatics = false) (hcls : s.vm.findClass C = some cellB.cls)
    {g : JFrame} (hg : g.method = m) (hsize : g.locals.size = c.maxLocals) {argsL rest : List Value} (hlen : ∀ sig, parseMethodDescriptor y.desc = some sig → argsL.length = sig.parameters.length)
    (hstack : g.stack = argsL.reverse ++ .ref b :: rest) (hW : 2 * g.monitorRoom + (rest.map fun v => v.category).sum ≤ W9) (hdg : decode c.code g.pc = .ok (.invokevirtual index, 3))
    (hpre : ∀ vm₁, s.WarmedH vm₁ → Pre ⟨T.setVm vm₁, locs, cells, slots⟩ (Value.ref b :: argsL).toArray) :
    (∃ (v : Option Value) (vm₁ : Vm) (B : Pt), s.WarmedH vm₁ ∧ Stand p l e R s m args below meth c B.U B.locs B.cells B.slots ∧ Post ⟨T.setVm vm₁, locs, cells, slots⟩ (Value.ref b :: argsL).toArray v B ∧
      ∀ target, Steps p.tables e below (B.U.setTop { g with pc := g.pc + 3, stack := v.toList ++ rest }) target → Steps p.tables e below (T.setTop g) target) ∨
    (∃ (q : Addr) (vm₁ : Vm) (B : Pt), s.WarmedH vm₁ ∧ Stand p l e R s m args below meth c B.U B.locs B.cells B.slots ∧ PostX ⟨T.setVm vm₁, locs, cells, slots⟩ (Value.ref b :: argsL).toArray q B ∧
      Steps p.tables e below (T.setTop g) ((B.U.setTop { g with stack := rest }).pushFrame (.throwing q))) := by
  obtain ⟨mk, methM, hnamed, hmethM, hstM, habM⟩ := Cond.instanceMethod_spec hinst
  obtain ⟨m8, methM', cM, hn8, hmethM', -, -, -, -, -, -, hsigM⟩ := Cond.codeWith_spec hcode
  cases Option.some.inj (hn8.symm.trans hnamed)
  cases hmethM.symm.trans hmethM'
  obtain ⟨c2, r2, m2, q1, q2, q3, q4, kP, hkP, hkPi⟩ := Cond.selects_spec hsel
  cases hcls.symm.trans q1
  cases (State.methodFound?_of_named hnamed hy).symm.trans q2
  cases hnamed.symm.trans q3
  have hselP : selectMethod e.platform s.vm cellB.cls mk = .method mk := by rw [Launch.admits_selectMethod X.admits]; exact q4
  obtain ⟨vm₁, X₁, hstep₁⟩ := X.invokevirtual hexec hown hlink hnamed hmethM hstM hkP hkPi hy (a := b) (cell := cellB) hcell
    (fun z h => by rw [h] at hobj; cases hobj) hselP hmethM habM hkP hkPi (g := g) hg (argsL := argsL) (rest := rest) (hlen _ hsigM) hstack hdg
  rcases hK m meth c ⟨T.setVm vm₁, locs, cells, slots⟩ { g with stack := rest } (.invokevirtual index) mk (Value.ref b :: argsL).toArray X₁ hg hsize hdg hW (X₁.named hnamed) (hpre vm₁ X₁.warmed) with ⟨v, B, X', hpost, hsteps⟩ | ⟨q, B, X', hpost, hsteps⟩
  · exact Or.inl ⟨v, vm₁, B, X₁.warmed, X', hpost, fun target h => hstep₁ _ fun acts => by rw [doInvoke_state]; exact hsteps.trans h⟩
  · exact Or.inr ⟨q, vm₁, B, X₁.warmed, X', hpost, hstep₁ _ fun acts => by rw [doInvoke_state]; exact hsteps⟩
theorem vx_callSX (X : Stand p l e R s m args below meth c T locs cells slots) (hexec : p.tables.exec = Jvm.exec) {own : String} {index : Nat} {y : MethodName} {bytes : ByteArray} {maxL : Nat} {ret : Option FieldType} {hh : List (Nat × Nat × Nat × Nat)}
    (hown : s.vm.findClass own = some m.cls) (hlink : (Cond.methodLink own index y).before args s = true) (hstat : (Cond.static y).before args s = true) (hinit : (Cond.initialized y.cls).before args s = true)
    (hcode : (Cond.codeWith y bytes maxL ret hh).before args s = true) (hy : y.cls ≠ "java/lang/invoke/MethodHandle" ∧ y.cls ≠ "java/lang/invoke/VarHandle")
    {W9 : Nat} {Pre : Pt → Array Value → Prop} {Post : Pt → Array Value → Option Value → Pt → Prop} {PostX : Pt → Array Value → Addr → Pt → Prop} (hK : vx_Back l R p e below s args y 3 W9 Pre Post PostX)
    {g : JFrame} (hg : g.method = m) (hsize : g.locals.size = c.maxLocals) {argsL rest : List Value} (hlen : ∀ sig, parseMethodDescriptor y.desc = some sig → argsL.length = sig.parameters.length)
    (hstack : g.stack = argsL.reverse ++ rest) (hW : 2 * g.monitorRoom + (rest.map fun v => v.category).sum ≤ W9) (hdg : decode c.code g.pc = .ok (.invokestatic index, 3))
    (hpre : ∀ vm₁, s.WarmedH vm₁ → Pre ⟨T.setVm vm₁, locs, cells, slots⟩ argsL.toArray) :
    (∃ (v : Option Value) (vm₁ : Vm) (B : Pt), s.WarmedH vm₁ ∧ Stand p l e R s m args below meth c B.U B.locs B.cells B.slots ∧ Post ⟨T.setVm vm₁, locs, cells, slots⟩ argsL.toArray v B ∧
      ∀ target, Steps p.tables e below (B.U.setTop { g with pc := g.pc + 3, stack := v.toList ++ rest }) target → Steps p.tables e below (T.setTop g) target) ∨
    (∃ (q : Addr) (vm₁ : Vm) (B : Pt), s.WarmedH vm₁ ∧ Stand p l e R s m args below meth c B.U B.locs B.cells B.slots ∧ PostX ⟨T.setVm vm₁, locs, cells, slots⟩ argsL.toArray q B ∧
      Steps p.tables e below (T.setTop g) ((B.U.setTop { g with stack := rest }).pushFrame (.throwing q))) := by
  obtain ⟨mk, methM, cM, hnamed, hmethM, -, -, -, -, -, -, hsigM⟩ := Cond.codeWith_spec hcode
  have hstatic : methM.isStatic = true := Cond.static_spec hnamed hmethM hstat
  obtain ⟨kP, hkP, -⟩ := className_of_methodNamed hnamed
  have hinitP : kP.init = .initialized := Cond.initialized_spec (findClass_of_methodNamed hnamed) hkP hinit
  obtain ⟨vm₁, X₁, hstep₁⟩ := X.invokestatic hexec hown hlink hnamed hmethM hstatic hkP hinitP hy (g := g) hg (argsL := argsL) (rest := rest) (hlen _ hsigM) hstack hdg
  rcases hK m meth c ⟨T.setVm vm₁, locs, cells, slots⟩ { g with stack := rest } (.invokestatic index) mk argsL.toArray X₁ hg hsize hdg hW (X₁.named hnamed) (hpre vm₁ X₁.warmed) with ⟨v, B, X', hpost, hsteps⟩ | ⟨q, B, X', hpost, hsteps⟩
  · exact Or.inl ⟨v, vm₁, B, X₁.warmed, X', hpost, fun target h => hstep₁ _ fun acts => by rw [doInvoke_state]; exact hsteps.trans h⟩
  · exact Or.inr ⟨q, vm₁, B, X₁.warmed, X', hpost, hstep₁ _ fun acts => by rw [doInvoke_state]; exact hsteps⟩
theorem vx_callVW (X : Stand p l e R s m args below meth c T locs cells slots) (hexec : p.tables.exec = Jvm.exec) {own C : String} {index : Nat} {y : MethodName} {bytes : ByteArray} {maxL : Nat} {ret : Option FieldType} {hh : List (Nat × Nat × Nat × Nat)}
    (hown : s.vm.findClass own = some m.cls) (hlink : (Cond.methodLink own index y).before args s = true) (hinst : (Cond.instanceMethod y).before args s = true) (hsel : (Cond.selects C y y).before args s = true)
    (hcode : (Cond.codeWith y bytes maxL ret hh).before args s = true) (hy : y.cls ≠ "java/lang/invoke/MethodHandle" ∧ y.cls ≠ "java/lang/invoke/VarHandle")
    {W9 : Nat} {Pre : Pt → Array Value → Prop} {Post : Pt → Array Value → Option Value → Pt → Prop} (hK : Back l R p e below s args y 3 W9 Pre Post)
    {b : Addr} {cellB : Cell} (hcell : T.heap[b]? = some cellB) (hobj : cellB.vm.isStatics = false) (hcls : s.vm.findClass C = some cellB.cls)
    {g : JFrame} (hg : g.method = m) (hsize : g.locals.size = c.maxLocals) {argsL rest : List Value} (hlen : ∀ sig, parseMethodDescriptor y.desc = some sig → argsL.length = sig.parameters.length)
    (hstack : g.stack = argsL.reverse ++ .ref b :: rest) (hW : 2 * g.monitorRoom + (rest.map fun v => v.category).sum ≤ W9) (hdg : decode c.code g.pc = .ok (.invokevirtual index, 3))
    (hpre : ∀ vm₁, s.WarmedH vm₁ → Pre ⟨T.setVm vm₁, locs, cells, slots⟩ (Value.ref b :: argsL).toArray) :
    ∃ (v : Option Value) (vm₁ : Vm) (B : Pt), s.WarmedH vm₁ ∧ Stand p l e R s m args below meth c B.U B.locs B.cells B.slots ∧ Post ⟨T.setVm vm₁, locs, cells, slots⟩ (Value.ref b :: argsL).toArray v B ∧
      ∀ target, Steps p.tables e below (B.U.setTop { g with pc := g.pc + 3, stack := v.toList ++ rest }) target → Steps p.tables e below (T.setTop g) target := by
  obtain ⟨mk, methM, hnamed, hmethM, hstM, habM⟩ := Cond.instanceMethod_spec hinst
  obtain ⟨m8, methM', cM, hn8, hmethM', -, -, -, -, -, -, hsigM⟩ := Cond.codeWith_spec hcode
  cases Option.some.inj (hn8.symm.trans hnamed)
  cases hmethM.symm.trans hmethM'
  obtain ⟨c2, r2, m2, q1, q2, q3, q4, kP, hkP, hkPi⟩ := Cond.selects_spec hsel
  cases hcls.symm.trans q1
  cases (State.methodFound?_of_named hnamed hy).symm.trans q2
  cases hnamed.symm.trans q3
  have hselP : selectMethod e.platform s.vm cellB.cls mk = .method mk := by rw [Launch.admits_selectMethod X.admits]; exact q4
  obtain ⟨vm₁, X₁, hstep₁⟩ := X.invokevirtual hexec hown hlink hnamed hmethM hstM hkP hkPi hy (a := b) (cell := cellB) hcell
    (fun z h => by rw [h] at hobj; cases hobj) hselP hmethM habM hkP hkPi (g := g) hg (argsL := argsL) (rest := rest) (hlen _ hsigM) hstack hdg
  obtain ⟨v, B, X', hpost, hsteps⟩ := hK m meth c ⟨T.setVm vm₁, locs, cells, slots⟩ { g with stack := rest } (.invokevirtual index) mk (Value.ref b :: argsL).toArray X₁ hg hsize hdg hW (X₁.named hnamed) (hpre vm₁ X₁.warmed)
  exact ⟨v, vm₁, B, X₁.warmed, X', hpost, fun target h => hstep₁ _ fun acts => by rw [doInvoke_state]; exact hsteps.trans h⟩
abbrev vx_CVW (R : Room) (s : State) (args : Array Value) (own C : String) (index : Nat) (y : MethodName) (bytes : ByteArray) (maxL : Nat) (ret : Option FieldType) (hh : List (Nat × Nat × Nat × Nat)) (ws : List Cond) (rm : Room) (mc ms n : Nat) : Prop :=
  (rm.cells = mc ∧ rm.slots = ms ∧ rm.frames + 1 ≤ R.frames ∧ 8 + (maxL + 11) + rm.locals ≤ R.locals ∧ (∀ w ∈ ws, ∀ (a' : Array Value) (U : State), s.WarmedH U.vm → w.before a' U = true) ∧ Cond.codeWith y bytes maxL ret hh ∈ ws) ∧
  (Cond.codeWith y bytes maxL ret hh).before args s = true ∧ (Cond.initialized y.cls).before args s = true ∧ (y.cls ≠ "java/lang/invoke/MethodHandle" ∧ y.cls ≠ "java/lang/invoke/VarHandle") ∧
  (∀ sig, parseMethodDescriptor y.desc = some sig → n = sig.parameters.length) ∧ (Cond.methodLink own index y).before args s = true ∧ (Cond.instanceMethod y).before args s = true ∧ (Cond.selects C y y).before args s = true
theorem vx_cwVW {own C : String} {index maxL mc ms : Nat} {y : MethodName} {bytes : ByteArray} {ret : Option FieldType} {hh : List (Nat × Nat × Nat × Nat)} {Ts ws ws' : List Cond} {rm : Room} (n : Nat) (ht : ∀ w ∈ Ts, w.before args s = true) (hT : GoodIn Ts (wsV own index C y ws)) (hw : ws = Cond.codeWith y bytes maxL ret hh :: ws') (hrc : rm.cells = mc) (hrs : rm.slots = ms)
    (hd : y.cls = C ∧ y.cls ≠ "java/lang/invoke/MethodHandle" ∧ y.cls ≠ "java/lang/invoke/VarHandle" ∧ (parseMethodDescriptor y.desc).map (fun d => d.parameters.length) = some n) (hR : rm.frames + 1 ≤ R.frames ∧ 8 + (maxL + 11) + rm.locals ≤ R.locals) :
    vx_CVW R s args own C index y bytes maxL ret hh ws rm mc ms n := by
  obtain ⟨hC, hd⟩ := hd
  subst hC
  have ok : ∀ w ∈ wsV own index y.cls y ws, w.before args s = true := fun w h => ht w (hT w h).1
  have hG : GoodIn Ts ws := fun w h => hT w (by unfold wsV; exact List.mem_append_right _ h)
  have hc : Cond.codeWith y bytes maxL ret hh ∈ ws := by rw [hw]; exact List.mem_cons_self
  refine ⟨⟨hrc, hrs, hR.1, hR.2, pay_in ht hG, hc⟩, ht _ (hG _ hc).1, ok _ (by simp [wsV]), ⟨hd.1, hd.2.1⟩, fun sig h => ?_, ok _ (by simp [wsV]), ok _ (by simp [wsV]), ok _ (by simp [wsV])⟩
  have h2 := hd.2.2
  rw [h] at h2
  exact (Option.some.inj h2).symm
theorem vx_runVW {y : MethodName} {bytes cc : ByteArray} {maxL nL mc ms n index : Nat} {ret : Option FieldType} {hh : List (Nat × Nat × Nat × Nat)} {ws : List Cond} {rm : Room} {Pc : Array Value → State → Prop} {Qc : Array Value → State → Outcome → State → Prop} {free : Addr → Prop} {Ts : List Cond} {own C : String} {b : Addr} {As rest : List Value} {g : JFrame}
    (S : CallFix p m c cc nL s args Ts own) (hM : Met l y ws rm Pc Qc mc ms free) (cw : vx_CVW R s args own C index y bytes maxL ret hh ws rm mc ms n) (hp : PreV s H C b Pc As)
    (hg : g.method = m) (hn : As.length = n) (hsize : g.locals.size = nL) (hstack : g.stack = As.reverse ++ .ref b :: rest) (hW : 2 * g.monitorRoom + (rest.map fun v => v.category).sum ≤ 8) (hdg : decode cc g.pc = .ok (.invokevirtual index, 3)) (hf : cells + mc ≤ R.cells ∧ slots + ms ≤ R.slots) :
    va_Run p l e R s m args below meth c H locs cells slots mc ms g rest (Qc (Value.ref b :: As).toArray) free := by
  obtain ⟨⟨hrc, hrs, hfr, hlo, hws, hcw⟩, hcode, hini, hy, hlen, hl, hin, hse⟩ := cw
  have hK : Back l R p e below s args y 3 8 (PreOf R mc ms Pc) (PostOf Qc mc ms free) := va_backW (hh := hh) (bytes := bytes) (maxL := maxL) (ret := ret) hM hp.1 hrc hrs hfr hlo hws hcw (fun a' U hW => word_at hW (Or.inl (by first | rfl | simp [Cond.onTables, Cond.keeps, Cond.steady])) hini)
  obtain ⟨hx, hb, hml, ho, -⟩ := S
  obtain ⟨-, ⟨cellB, hcB, hoB, hclB⟩, hPc⟩ := hp
  intro T hT X
  obtain ⟨v, vm₁, ⟨U', l2, c2, s2⟩, hW₁, X', ⟨g', mk, t, L, e1, e2, hq, h1, hL, h2, h3⟩, st⟩ := vx_callVW X hx (C := C) (hh := hh) (bytes := bytes) (maxL := maxL) (ret := ret) ho hl hin hse hcode hy hK (by rw [hT]; exact hcB) hoB hclB hg (hsize.trans hml.symm) (argsL := As) (rest := rest) (fun sig h => hn.trans (hlen sig h)) hstack hW (by rw [hb]; exact hdg)
    (fun vm₁ hW₁ => ⟨hf.1, hf.2, hPc (T.setVm vm₁) hT hW₁⟩)
  dsimp only [Pt.U, Pt.locs, Pt.cells, Pt.slots] at X' e1 e2 h1 h2 h3 st
  subst h1; subst h2; subst h3
  exact ⟨v, (T.setVm vm₁).calling g' mk (Value.ref b :: As).toArray, t, U', L, hT, X', hL, e1, e2, hq, st⟩
section
variable {y : MethodName} {bytes cc : ByteArray} {maxL nL mc ms n index : Nat} {ret : Option FieldType} {ws : List Cond} {rm : Room} {Pc : Array Value → State → Prop} {Qc : Array Value → State → Outcome → State → Prop} {XC : String → State → State → Prop} {free : Addr → Prop} {Ts : List Cond} {own C : String} {b : Addr} {As rest : List Value} {g : JFrame}
theorem vx_runVX {hh : List (Nat × Nat × Nat × Nat)} (S : CallFix p m c cc nL s args Ts own) (hM : vx_Met l y ws rm Pc Qc XC mc ms free) (cw : vx_CVW R s args own C index y bytes maxL ret hh ws rm mc ms n) (hp : PreV s H C b Pc As)
    (hg : g.method = m) (hn : As.length = n) (hsize : g.locals.size = nL) (hstack : g.stack = As.reverse ++ .ref b :: rest) (hW : 2 * g.monitorRoom + (rest.map fun v => v.category).sum ≤ 8) (hdg : decode cc g.pc = .ok (.invokevirtual index, 3)) (hf : cells + mc ≤ R.cells ∧ slots + ms ≤ R.slots) :
    vx_Run p l e R s m args below meth c H locs cells slots mc ms g rest (Qc (Value.ref b :: As).toArray) XC free := by
  obtain ⟨⟨hrc, hrs, hfr, hlo, hws, hcw⟩, hcode, hini, hy, hlen, hl, hin, hse⟩ := cw
  have hK : vx_Back l R p e below s args y 3 8 (PreOf R mc ms Pc) (PostOf Qc mc ms free) (vx_Post XC mc ms free) := vx_backW (hh := hh) (bytes := bytes) (maxL := maxL) (ret := ret) hM hp.1 hrc hrs hfr hlo hws hcw (fun a' U hW => word_at hW (Or.inl (by first | rfl | simp [Cond.onTables, Cond.keeps, Cond.steady])) hini)
  obtain ⟨hx, hb, hml, ho, -⟩ := S
  obtain ⟨-, ⟨cellB, hcB, hoB, hclB⟩, hPc⟩ := hp
  intro T hT X
  rcases vx_callVX X hx (C := C) (hh := hh) (bytes := bytes) (maxL := maxL) (ret := ret) ho hl hin hse hcode hy hK (by rw [hT]; exact hcB) hoB hclB hg (hsize.trans hml.symm) (argsL := As) (rest := rest) (fun sig h => hn.trans (hlen sig h)) hstack hW (by rw [hb]; exact hdg)
    (fun vm₁ hW₁ => ⟨hf.1, hf.2, hPc (T.setVm vm₁) hT hW₁⟩) with ⟨v, vm₁, ⟨U', l2, c2, s2⟩, hW₁, X', ⟨g', mk, t, L, e1, e2, hq, h1, hL, h2, h3⟩, st⟩ | ⟨q, vm₁, ⟨U', l2, c2, s2⟩, hW₁, X', ⟨g', mk, t, L, E, ce, e1, e2, hq, hce, hcv, hcl, h1, hL, h2, h3⟩, st⟩
  · dsimp only [Pt.U, Pt.locs, Pt.cells, Pt.slots] at X' e1 e2 h1 h2 h3 st
    subst h1; subst h2; subst h3
    exact Or.inl ⟨v, (T.setVm vm₁).calling g' mk (Value.ref b :: As).toArray, t, U', L, hT, X', hL, e1, e2, hq, st⟩
  · dsimp only [Pt.U, Pt.locs, Pt.cells, Pt.slots] at X' e1 e2 h1 h2 h3 st hcl
    subst h1; subst h2; subst h3
    exact Or.inr ⟨q, (T.setVm vm₁).calling g' mk (Value.ref b :: As).toArray, t, U', L, E, ce, hT, X', hL, e1, e2, hq, hce, hcv, vx_cls hW₁ hcl, st⟩
theorem vx_runSX {hh : List (Nat × Nat × Nat × Nat)} (S : CallFix p m c cc nL s args Ts own) (hM : vx_Met l y ws rm Pc Qc XC mc ms free) (cw : vx_CSW R s args own index y bytes maxL ret hh ws rm mc ms n) (hp : PreS s H Pc As)
    (hg : g.method = m) (hn : As.length = n) (hsize : g.locals.size = nL) (hstack : g.stack = As.reverse ++ rest) (hW : 2 * g.monitorRoom + (rest.map fun v => v.category).sum ≤ 8) (hdg : decode cc g.pc = .ok (.invokestatic index, 3)) (hf : cells + mc ≤ R.cells ∧ slots + ms ≤ R.slots) :
    vx_Run p l e R s m args below meth c H locs cells slots mc ms g rest (Qc As.toArray) XC free := by
  obtain ⟨⟨hrc, hrs, hfr, hlo, hws, hcw⟩, hcode, hini, hy, hlen, hl, hstt⟩ := cw
  have hK : vx_Back l R p e below s args y 3 8 (PreOf R mc ms Pc) (PostOf Qc mc ms free) (vx_Post XC mc ms free) := vx_backW (hh := hh) (bytes := bytes) (maxL := maxL) (ret := ret) hM hp.1 hrc hrs hfr hlo hws hcw (fun a' U hW => word_at hW (Or.inl (by first | rfl | simp [Cond.onTables, Cond.keeps, Cond.steady])) hini)
  obtain ⟨hx, hb, hml, ho, -⟩ := S
  intro T hT X
  rcases vx_callSX X hx (hh := hh) (bytes := bytes) (maxL := maxL) (ret := ret) ho hl hstt hini hcode hy hK hg (hsize.trans hml.symm) (argsL := As) (rest := rest) (fun sig h => hn.trans (hlen sig h)) hstack hW (by rw [hb]; exact hdg)
    (fun vm₁ hW₁ => ⟨hf.1, hf.2, hp.2 (T.setVm vm₁) hT hW₁⟩) with ⟨v, vm₁, ⟨U', l2, c2, s2⟩, hW₁, X', ⟨g', mk, t, L, e1, e2, hq, h1, hL, h2, h3⟩, st⟩ | ⟨q, vm₁, ⟨U', l2, c2, s2⟩, hW₁, X', ⟨g', mk, t, L, E, ce, e1, e2, hq, hce, hcv, hcl, h1, hL, h2, h3⟩, st⟩
  · dsimp only [Pt.U, Pt.locs, Pt.cells, Pt.slots] at X' e1 e2 h1 h2 h3 st
    subst h1; subst h2; subst h3
    exact Or.inl ⟨v, (T.setVm vm₁).calling g' mk As.toArray, t, U', L, hT, X', hL, e1, e2, hq, st⟩
  · dsimp only [Pt.U, Pt.locs, Pt.cells, Pt.slots] at X' e1 e2 h1 h2 h3 st hcl
    subst h1; subst h2; subst h3
    exact Or.inr ⟨q, (T.setVm vm₁).calling g' mk As.toArray, t, U', L, E, ce, hT, X', hL, e1, e2, hq, hce, hcv, vx_cls hW₁ hcl, st⟩
end
end VXH
theorem vx_ofWH {l : Launch} {y : MethodName} {ws ws' : List Cond} {rm : Room} {Pc : Array Value → State → Prop} {Qc : Array Value → State → Outcome → State → Prop} {XC : String → State → State → Prop} {mc ms : Nat} {free : Addr → Prop} {cc : ByteArray} {maxL : Nat} {ret : Option FieldType} {hh : List (Nat × Nat × Nat × Nat)}
    (hy : plainName y.cls = true) (hw : ws = Cond.codeWith y cc maxL ret hh :: ws')
    (body : ∀ p e s m args below meth c s₁, BodyLoose p l y (headSpec ws rm) cc maxL ret e s m args below meth c s₁ → c.maxLocals = maxL → Pc args s →
      W p l e (headSpec ws rm).room s m args below meth c s.heap [] 0 0 (vx_MQ below Qc XC args s mc ms free) (entryFrame m args maxL)) : vx_Met l y ws rm Pc Qc XC mc ms free := by
  refine MetFree.of_bodyS (code := cc) (maxLocals := maxL) (ret := ret) hy ?_ ?_
  · intro args s m h hn
    obtain ⟨m9, meth, c, hn9, h1, h2, h3, h4, -, h5, h6, -⟩ := Cond.codeWith_spec (atoms_spec (ws := ws) h _ (by rw [hw]; exact List.mem_cons_self))
    cases hn.symm.trans hn9
    exact ⟨meth, c, h1, h2, h3, h4, h5, h6⟩
  · intro p e s m args below meth c s₁ B hml hP _
    have hh0 : s₁.heap = s.heap := by rw [B.state]; rfl
    obtain ⟨t, a1, o, b1, b2, b3⟩ := body p e s m args below meth c s₁ B hml hP s₁ hh0 (Stand.of_body B)
    exact ⟨t, o, a1, b1, b2, b3⟩
/-! ===== END ===== -/

/-! ===== BEGIN printed: names, fields, word lists, decode rows ===== -/
def RX0 : String := "TaskSheets$Bands"
def TX0 : u_T := fun k => match k with
  | 0 => ("TaskSheets$Bands", "contents", "LTaskSheets$Numbers;", true)
  | 1 => ("TaskSheets$Bands", "bandOfTask", "LTaskSheets$Numbers;", true)
  | 2 => ("TaskSheets$Bands", "rowOfTask", "LTaskSheets$Numbers;", true)
  | 3 => ("TaskSheets$Bands", "members", "LTaskSheets$Numbers;", true)
  | 4 => ("TaskSheets$Bands", "memberCount", "I", false)
  | 5 => ("TaskSheets$Bands", "rows", "I", false)
  | 6 => ("TaskSheets$Bands", "count", "I", false)
  | _ => ("TaskSheets$Bands", "free", "I", false)
def tyX0 : Nat → FieldType := fun k => match k with
  | 0 => .object "TaskSheets$Numbers"
  | 1 => .object "TaskSheets$Numbers"
  | 2 => .object "TaskSheets$Numbers"
  | 3 => .object "TaskSheets$Numbers"
  | 4 => .int
  | 5 => .int
  | 6 => .int
  | _ => .int
abbrev wsX00 : List Cond := u_ws RX0 TX0 8
theorem nmX0 : ∀ a, a < 8 → ∀ b, b < 8 → a ≠ b → (TX0 a).2.1 ≠ (TX0 b).2.1 := by decide +kernel
theorem tyX0_ok : ∀ k, k < 8 → parseFieldDescriptor (TX0 k).2.2.1 = some (tyX0 k) := by decide +kernel
abbrev cX0_init : ByteArray := prog_2_method_1_code
def yX0_init : MethodName := ⟨RX0, "<init>", "()V"⟩
abbrev cX0_count : ByteArray := prog_2_method_2_code
def yX0_count : MethodName := ⟨RX0, "count", "()I"⟩
abbrev cX0_content : ByteArray := prog_2_method_3_code
def yX0_content : MethodName := ⟨RX0, "content", "(II)I"⟩
abbrev cX0_bandOf : ByteArray := prog_2_method_4_code
def yX0_bandOf : MethodName := ⟨RX0, "bandOf", "(I)I"⟩
abbrev cX0_rowOf : ByteArray := prog_2_method_5_code
def yX0_rowOf : MethodName := ⟨RX0, "rowOf", "(I)I"⟩
abbrev cX0_lay : ByteArray := prog_2_method_6_code
def yX0_lay : MethodName := ⟨RX0, "lay", "(LTaskSheets$Plan;I)V"⟩
abbrev cX0_gather : ByteArray := prog_2_method_7_code
def yX0_gather : MethodName := ⟨RX0, "gather", "(LTaskSheets$Plan;I)V"⟩
abbrev cX0_insert : ByteArray := prog_2_method_8_code
def yX0_insert : MethodName := ⟨RX0, "insert", "(LTaskSheets$Plan;I)V"⟩
abbrev cX0_layGroup : ByteArray := prog_2_method_9_code
def yX0_layGroup : MethodName := ⟨RX0, "layGroup", "(IZ)V"⟩
abbrev cX0_beginBand : ByteArray := prog_2_method_10_code
def yX0_beginBand : MethodName := ⟨RX0, "beginBand", "()V"⟩
abbrev cX0_take : ByteArray := prog_2_method_11_code
def yX0_take : MethodName := ⟨RX0, "take", "(I)V"⟩
def RX1 : String := "TaskSheets$Chains"
def TX1 : u_T := fun k => match k with
  | _ => ("TaskSheets$Chains", "longestTo", "LTaskSheets$Numbers;", true)
def tyX1 : Nat → FieldType := fun k => match k with
  | _ => .object "TaskSheets$Numbers"
abbrev wsX10 : List Cond := u_ws RX1 TX1 1
theorem nmX1 : ∀ a, a < 1 → ∀ b, b < 1 → a ≠ b → (TX1 a).2.1 ≠ (TX1 b).2.1 := by decide +kernel
theorem tyX1_ok : ∀ k, k < 1 → parseFieldDescriptor (TX1 k).2.2.1 = some (tyX1 k) := by decide +kernel
abbrev cX1_init : ByteArray := prog_3_method_1_code
def yX1_init : MethodName := ⟨RX1, "<init>", "()V"⟩
abbrev cX1_longest : ByteArray := prog_3_method_2_code
def yX1_longest : MethodName := ⟨RX1, "longest", "(LTaskSheets$Plan;)I"⟩
abbrev cX1_growOnce : ByteArray := prog_3_method_3_code
def yX1_growOnce : MethodName := ⟨RX1, "growOnce", "(LTaskSheets$Plan;)Z"⟩
def RX2 : String := "TaskSheets$Exits"
def TX2 : u_T := fun k => match k with
  | 0 => ("TaskSheets$Exits", "leaveSheets", "LTaskSheets$Numbers;", true)
  | 1 => ("TaskSheets$Exits", "arriveSheets", "LTaskSheets$Numbers;", true)
  | 2 => ("TaskSheets$Exits", "exitOfArrow", "LTaskSheets$Numbers;", true)
  | 3 => ("TaskSheets$Exits", "arrowOfExit", "LTaskSheets$Numbers;", true)
  | 4 => ("TaskSheets$Exits", "exitsOfSheet", "LTaskSheets$Numbers;", true)
  | 5 => ("TaskSheets$Exits", "drawnOfSheet", "LTaskSheets$Numbers;", true)
  | _ => ("TaskSheets$Exits", "count", "I", false)
def tyX2 : Nat → FieldType := fun k => match k with
  | 0 => .object "TaskSheets$Numbers"
  | 1 => .object "TaskSheets$Numbers"
  | 2 => .object "TaskSheets$Numbers"
  | 3 => .object "TaskSheets$Numbers"
  | 4 => .object "TaskSheets$Numbers"
  | 5 => .object "TaskSheets$Numbers"
  | _ => .int
abbrev wsX20 : List Cond := u_ws RX2 TX2 7
theorem nmX2 : ∀ a, a < 7 → ∀ b, b < 7 → a ≠ b → (TX2 a).2.1 ≠ (TX2 b).2.1 := by decide +kernel
theorem tyX2_ok : ∀ k, k < 7 → parseFieldDescriptor (TX2 k).2.2.1 = some (tyX2 k) := by decide +kernel
abbrev cX2_init : ByteArray := prog_4_method_1_code
def yX2_init : MethodName := ⟨RX2, "<init>", "()V"⟩
abbrev cX2_leavesOn : ByteArray := prog_4_method_3_code
def yX2_leavesOn : MethodName := ⟨RX2, "leavesOn", "(I)I"⟩
abbrev cX2_arrivesOn : ByteArray := prog_4_method_4_code
def yX2_arrivesOn : MethodName := ⟨RX2, "arrivesOn", "(I)I"⟩
abbrev cX2_exitOf : ByteArray := prog_4_method_5_code
def yX2_exitOf : MethodName := ⟨RX2, "exitOf", "(I)I"⟩
abbrev cX2_draw : ByteArray := prog_4_method_9_code
def yX2_draw : MethodName := ⟨RX2, "draw", "(LTaskSheets$Plan;LTaskSheets$Bands;LTaskSheets$Sheets;)V"⟩
abbrev cX2_drawInside : ByteArray := prog_4_method_10_code
def yX2_drawInside : MethodName := ⟨RX2, "drawInside", "(II)V"⟩
abbrev cX2_drawThroughExit : ByteArray := prog_4_method_11_code
def yX2_drawThroughExit : MethodName := ⟨RX2, "drawThroughExit", "(III)V"⟩
def RX3 : String := "TaskSheets$History"
def TX3 : u_T := fun k => match k with
  | 0 => ("TaskSheets$History", "saved", "[LTaskSheets$Plan;", true)
  | 1 => ("TaskSheets$History", "next", "I", false)
  | _ => ("TaskSheets$History", "count", "I", false)
def tyX3 : Nat → FieldType := fun k => match k with
  | 0 => .array (.object "TaskSheets$Plan")
  | 1 => .int
  | _ => .int
abbrev wsX30 : List Cond := u_ws RX3 TX3 3
theorem nmX3 : ∀ a, a < 3 → ∀ b, b < 3 → a ≠ b → (TX3 a).2.1 ≠ (TX3 b).2.1 := by decide +kernel
theorem tyX3_ok : ∀ k, k < 3 → parseFieldDescriptor (TX3 k).2.2.1 = some (tyX3 k) := by decide +kernel
abbrev cX3_init : ByteArray := prog_5_method_1_code
def yX3_init : MethodName := ⟨RX3, "<init>", "()V"⟩
abbrev cX3_save : ByteArray := prog_5_method_3_code
def yX3_save : MethodName := ⟨RX3, "save", "(LTaskSheets$Plan;)V"⟩
abbrev cX3_slot : ByteArray := prog_5_method_5_code
def yX3_slot : MethodName := ⟨RX3, "slot", "(I)LTaskSheets$Plan;"⟩
def RX4 : String := "TaskSheets$Numbers"
def TX4 : u_T := fun k => match k with
  | _ => ("TaskSheets$Numbers", "places", "[I", true)
def tyX4 : Nat → FieldType := fun k => match k with
  | _ => .array .int
abbrev wsX40 : List Cond := u_ws RX4 TX4 1
theorem nmX4 : ∀ a, a < 1 → ∀ b, b < 1 → a ≠ b → (TX4 a).2.1 ≠ (TX4 b).2.1 := by decide +kernel
theorem tyX4_ok : ∀ k, k < 1 → parseFieldDescriptor (TX4 k).2.2.1 = some (tyX4 k) := by decide +kernel
abbrev cX4_init : ByteArray := prog_6_method_1_code
def yX4_init : MethodName := ⟨RX4, "<init>", "(I)V"⟩
abbrev cX4_at : ByteArray := prog_6_method_2_code
def yX4_at : MethodName := ⟨RX4, "at", "(I)I"⟩
abbrev cX4_put : ByteArray := prog_6_method_3_code
def yX4_put : MethodName := ⟨RX4, "put", "(II)V"⟩
abbrev cX4_increase : ByteArray := prog_6_method_4_code
def yX4_increase : MethodName := ⟨RX4, "increase", "(I)V"⟩
abbrev cX4_fill : ByteArray := prog_6_method_5_code
def yX4_fill : MethodName := ⟨RX4, "fill", "(III)V"⟩
abbrev cX4_copy : ByteArray := prog_6_method_6_code
def yX4_copy : MethodName := ⟨RX4, "copy", "(LTaskSheets$Numbers;)V"⟩
abbrev cX4_closeGap : ByteArray := prog_6_method_7_code
def yX4_closeGap : MethodName := ⟨RX4, "closeGap", "(I)V"⟩
def RX5 : String := "TaskSheets$Plan"
def TX5 : u_T := fun k => match k with
  | 0 => ("TaskSheets$Plan", "settings", "LTaskSheets$Numbers;", true)
  | 1 => ("TaskSheets$Plan", "groups", "LTaskSheets$Numbers;", true)
  | 2 => ("TaskSheets$Plan", "firsts", "LTaskSheets$Numbers;", true)
  | 3 => ("TaskSheets$Plan", "lengths", "LTaskSheets$Numbers;", true)
  | 4 => ("TaskSheets$Plan", "froms", "LTaskSheets$Numbers;", true)
  | 5 => ("TaskSheets$Plan", "tos", "LTaskSheets$Numbers;", true)
  | 6 => ("TaskSheets$Plan", "tasks", "I", false)
  | _ => ("TaskSheets$Plan", "arrows", "I", false)
def tyX5 : Nat → FieldType := fun k => match k with
  | 0 => .object "TaskSheets$Numbers"
  | 1 => .object "TaskSheets$Numbers"
  | 2 => .object "TaskSheets$Numbers"
  | 3 => .object "TaskSheets$Numbers"
  | 4 => .object "TaskSheets$Numbers"
  | 5 => .object "TaskSheets$Numbers"
  | 6 => .int
  | _ => .int
abbrev wsX50 : List Cond := u_ws RX5 TX5 8
theorem nmX5 : ∀ a, a < 8 → ∀ b, b < 8 → a ≠ b → (TX5 a).2.1 ≠ (TX5 b).2.1 := by decide +kernel
theorem tyX5_ok : ∀ k, k < 8 → parseFieldDescriptor (TX5 k).2.2.1 = some (tyX5 k) := by decide +kernel
abbrev cX5_init : ByteArray := prog_7_method_1_code
def yX5_init : MethodName := ⟨RX5, "<init>", "()V"⟩
abbrev cX5_setting : ByteArray := prog_7_method_2_code
def yX5_setting : MethodName := ⟨RX5, "setting", "(I)I"⟩
abbrev cX5_putSetting : ByteArray := prog_7_method_3_code
def yX5_putSetting : MethodName := ⟨RX5, "putSetting", "(II)V"⟩
abbrev cX5_taskCount : ByteArray := prog_7_method_4_code
def yX5_taskCount : MethodName := ⟨RX5, "taskCount", "()I"⟩
abbrev cX5_arrowCount : ByteArray := prog_7_method_5_code
def yX5_arrowCount : MethodName := ⟨RX5, "arrowCount", "()I"⟩
abbrev cX5_hasTask : ByteArray := prog_7_method_6_code
def yX5_hasTask : MethodName := ⟨RX5, "hasTask", "(I)Z"⟩
abbrev cX5_hasArrow : ByteArray := prog_7_method_7_code
def yX5_hasArrow : MethodName := ⟨RX5, "hasArrow", "(I)Z"⟩
abbrev cX5_group : ByteArray := prog_7_method_8_code
def yX5_group : MethodName := ⟨RX5, "group", "(I)I"⟩
abbrev cX5_first : ByteArray := prog_7_method_9_code
def yX5_first : MethodName := ⟨RX5, "first", "(I)I"⟩
abbrev cX5_length : ByteArray := prog_7_method_10_code
def yX5_length : MethodName := ⟨RX5, "length", "(I)I"⟩
abbrev cX5_last : ByteArray := prog_7_method_11_code
def yX5_last : MethodName := ⟨RX5, "last", "(I)I"⟩
abbrev cX5_from : ByteArray := prog_7_method_12_code
def yX5_from : MethodName := ⟨RX5, "from", "(I)I"⟩
abbrev cX5_to : ByteArray := prog_7_method_13_code
def yX5_to : MethodName := ⟨RX5, "to", "(I)I"⟩
abbrev cX5_isLate : ByteArray := prog_7_method_14_code
def yX5_isLate : MethodName := ⟨RX5, "isLate", "(I)Z"⟩
abbrev cX5_hasArrowBetween : ByteArray := prog_7_method_17_code
def yX5_hasArrowBetween : MethodName := ⟨RX5, "hasArrowBetween", "(II)Z"⟩
abbrev cX5_tellTask : ByteArray := prog_7_method_18_code
def yX5_tellTask : MethodName := ⟨RX5, "tellTask", "(III)I"⟩
abbrev cX5_putBar : ByteArray := prog_7_method_19_code
def yX5_putBar : MethodName := ⟨RX5, "putBar", "(III)V"⟩
abbrev cX5_tellArrow : ByteArray := prog_7_method_20_code
def yX5_tellArrow : MethodName := ⟨RX5, "tellArrow", "(II)I"⟩
abbrev cX5_dropArrow : ByteArray := prog_7_method_21_code
def yX5_dropArrow : MethodName := ⟨RX5, "dropArrow", "(I)V"⟩
abbrev cX5_dropTask : ByteArray := prog_7_method_22_code
def yX5_dropTask : MethodName := ⟨RX5, "dropTask", "(I)I"⟩
abbrev cX5_dropArrowsOf : ByteArray := prog_7_method_23_code
def yX5_dropArrowsOf : MethodName := ⟨RX5, "dropArrowsOf", "(I)I"⟩
abbrev cX5_copyTasksAndArrows : ByteArray := prog_7_method_25_code
def yX5_copyTasksAndArrows : MethodName := ⟨RX5, "copyTasksAndArrows", "(LTaskSheets$Plan;)V"⟩
abbrev cX5_copyAll : ByteArray := prog_7_method_26_code
def yX5_copyAll : MethodName := ⟨RX5, "copyAll", "(LTaskSheets$Plan;)V"⟩
def RX6 : String := "TaskSheets$Sheets"
def TX6 : u_T := fun k => match k with
  | 0 => ("TaskSheets$Sheets", "partsOnSpot", "LTaskSheets$Numbers;", true)
  | 1 => ("TaskSheets$Sheets", "sheetOnSpot", "LTaskSheets$Numbers;", true)
  | 2 => ("TaskSheets$Sheets", "bandOfSheet", "LTaskSheets$Numbers;", true)
  | 3 => ("TaskSheets$Sheets", "stripOfSheet", "LTaskSheets$Numbers;", true)
  | _ => ("TaskSheets$Sheets", "count", "I", false)
def tyX6 : Nat → FieldType := fun k => match k with
  | 0 => .object "TaskSheets$Numbers"
  | 1 => .object "TaskSheets$Numbers"
  | 2 => .object "TaskSheets$Numbers"
  | 3 => .object "TaskSheets$Numbers"
  | _ => .int
abbrev wsX60 : List Cond := u_ws RX6 TX6 5
theorem nmX6 : ∀ a, a < 5 → ∀ b, b < 5 → a ≠ b → (TX6 a).2.1 ≠ (TX6 b).2.1 := by decide +kernel
theorem tyX6_ok : ∀ k, k < 5 → parseFieldDescriptor (TX6 k).2.2.1 = some (tyX6 k) := by decide +kernel
abbrev cX6_init : ByteArray := prog_8_method_1_code
def yX6_init : MethodName := ⟨RX6, "<init>", "()V"⟩
abbrev cX6_count : ByteArray := prog_8_method_2_code
def yX6_count : MethodName := ⟨RX6, "count", "()I"⟩
abbrev cX6_numberAt : ByteArray := prog_8_method_6_code
def yX6_numberAt : MethodName := ⟨RX6, "numberAt", "(II)I"⟩
abbrev cX6_spot : ByteArray := prog_8_method_7_code
def yX6_spot : MethodName := ⟨RX6, "spot", "(II)I"⟩
abbrev cX6_print : ByteArray := prog_8_method_8_code
def yX6_print : MethodName := ⟨RX6, "print", "(LTaskSheets$Plan;LTaskSheets$Bands;I)V"⟩
abbrev cX6_numberByBands : ByteArray := prog_8_method_9_code
def yX6_numberByBands : MethodName := ⟨RX6, "numberByBands", "(II)V"⟩
abbrev cX6_numberByStrips : ByteArray := prog_8_method_10_code
def yX6_numberByStrips : MethodName := ⟨RX6, "numberByStrips", "(II)V"⟩
abbrev cX6_number : ByteArray := prog_8_method_11_code
def yX6_number : MethodName := ⟨RX6, "number", "(II)V"⟩
def RX7 : String := "TaskSheets$TaskText"
def TX7 : u_T := fun k => match k with
  | 0 => ("TaskSheets$TaskText", "bytes", "LTaskSheets$Numbers;", true)
  | 1 => ("TaskSheets$TaskText", "length", "I", false)
  | 2 => ("TaskSheets$TaskText", "position", "I", false)
  | 3 => ("TaskSheets$TaskText", "error", "I", false)
  | _ => ("TaskSheets$TaskText", "number", "I", false)
def tyX7 : Nat → FieldType := fun k => match k with
  | 0 => .object "TaskSheets$Numbers"
  | 1 => .int
  | 2 => .int
  | 3 => .int
  | _ => .int
abbrev wsX70 : List Cond := u_ws RX7 TX7 5
theorem nmX7 : ∀ a, a < 5 → ∀ b, b < 5 → a ≠ b → (TX7 a).2.1 ≠ (TX7 b).2.1 := by decide +kernel
theorem tyX7_ok : ∀ k, k < 5 → parseFieldDescriptor (TX7 k).2.2.1 = some (tyX7 k) := by decide +kernel
abbrev cX7_init : ByteArray := prog_9_method_1_code
def yX7_init : MethodName := ⟨RX7, "<init>", "()V"⟩
def RX8 : String := "TaskSheets"
def TX8 : u_T := fun k => match k with
  | 0 => ("TaskSheets", "plan", "LTaskSheets$Plan;", true)
  | 1 => ("TaskSheets", "told", "LTaskSheets$Plan;", true)
  | 2 => ("TaskSheets", "history", "LTaskSheets$History;", true)
  | 3 => ("TaskSheets", "text", "LTaskSheets$TaskText;", true)
  | 4 => ("TaskSheets", "chains", "LTaskSheets$Chains;", true)
  | 5 => ("TaskSheets", "bands", "LTaskSheets$Bands;", true)
  | 6 => ("TaskSheets", "sheets", "LTaskSheets$Sheets;", true)
  | 7 => ("TaskSheets", "exits", "LTaskSheets$Exits;", true)
  | 8 => ("TaskSheets", "trialBands", "LTaskSheets$Bands;", true)
  | _ => ("TaskSheets", "trialSheets", "LTaskSheets$Sheets;", true)
def tyX8 : Nat → FieldType := fun k => match k with
  | 0 => .object "TaskSheets$Plan"
  | 1 => .object "TaskSheets$Plan"
  | 2 => .object "TaskSheets$History"
  | 3 => .object "TaskSheets$TaskText"
  | 4 => .object "TaskSheets$Chains"
  | 5 => .object "TaskSheets$Bands"
  | 6 => .object "TaskSheets$Sheets"
  | 7 => .object "TaskSheets$Exits"
  | 8 => .object "TaskSheets$Bands"
  | _ => .object "TaskSheets$Sheets"
abbrev wsX80 : List Cond := u_ws RX8 TX8 10
theorem nmX8 : ∀ a, a < 10 → ∀ b, b < 10 → a ≠ b → (TX8 a).2.1 ≠ (TX8 b).2.1 := by decide +kernel
theorem tyX8_ok : ∀ k, k < 10 → parseFieldDescriptor (TX8 k).2.2.1 = some (tyX8 k) := by decide +kernel
abbrev cX8_init : ByteArray := prog_1_method_1_code
def yX8_init : MethodName := ⟨RX8, "<init>", "()V"⟩
abbrev cX8_set : ByteArray := prog_1_method_2_code
def yX8_set : MethodName := ⟨RX8, "set", "(II)I"⟩
abbrev cX8_value : ByteArray := prog_1_method_3_code
def yX8_value : MethodName := ⟨RX8, "value", "(I)I"⟩
abbrev cX8_addTask : ByteArray := prog_1_method_4_code
def yX8_addTask : MethodName := ⟨RX8, "addTask", "(III)I"⟩
abbrev cX8_move : ByteArray := prog_1_method_5_code
def yX8_move : MethodName := ⟨RX8, "move", "(III)I"⟩
abbrev cX8_removeTask : ByteArray := prog_1_method_6_code
def yX8_removeTask : MethodName := ⟨RX8, "removeTask", "(I)I"⟩
abbrev cX8_addArrow : ByteArray := prog_1_method_7_code
def yX8_addArrow : MethodName := ⟨RX8, "addArrow", "(II)I"⟩
abbrev cX8_removeArrow : ByteArray := prog_1_method_8_code
def yX8_removeArrow : MethodName := ⟨RX8, "removeArrow", "(I)I"⟩
abbrev cX8_task : ByteArray := prog_1_method_9_code
def yX8_task : MethodName := ⟨RX8, "task", "(II)I"⟩
abbrev cX8_bands : ByteArray := prog_1_method_10_code
def yX8_bands : MethodName := ⟨RX8, "bands", "()I"⟩
abbrev cX8_row : ByteArray := prog_1_method_11_code
def yX8_row : MethodName := ⟨RX8, "row", "(II)I"⟩
abbrev cX8_part : ByteArray := prog_1_method_15_code
def yX8_part : MethodName := ⟨RX8, "part", "(III)I"⟩
abbrev cX8_arrow : ByteArray := prog_1_method_16_code
def yX8_arrow : MethodName := ⟨RX8, "arrow", "(II)I"⟩
abbrev cX8_delay : ByteArray := prog_1_method_22_code
def yX8_delay : MethodName := ⟨RX8, "delay", "(I)I"⟩
abbrev cX8_longestChain : ByteArray := prog_1_method_23_code
def yX8_longestChain : MethodName := ⟨RX8, "longestChain", "()I"⟩
abbrev cX8_printAnew : ByteArray := prog_1_method_33_code
def yX8_printAnew : MethodName := ⟨RX8, "printAnew", "()V"⟩
abbrev cX8_requireTask : ByteArray := prog_1_method_34_code
def yX8_requireTask : MethodName := ⟨RX8, "requireTask", "(I)V"⟩
abbrev cX8_requireArrow : ByteArray := prog_1_method_35_code
def yX8_requireArrow : MethodName := ⟨RX8, "requireArrow", "(I)V"⟩
abbrev cX8_requireBand : ByteArray := prog_1_method_36_code
def yX8_requireBand : MethodName := ⟨RX8, "requireBand", "(I)V"⟩
abbrev cX8_requireRow : ByteArray := prog_1_method_37_code
def yX8_requireRow : MethodName := ⟨RX8, "requireRow", "(I)V"⟩
abbrev cX8_isSetting : ByteArray := prog_1_method_39_code
def yX8_isSetting : MethodName := ⟨RX8, "isSetting", "(II)Z"⟩
abbrev cX8_isBar : ByteArray := prog_1_method_40_code
def yX8_isBar : MethodName := ⟨RX8, "isBar", "(II)Z"⟩
abbrev cX8_stripOfDay : ByteArray := prog_1_method_41_code
def yX8_stripOfDay : MethodName := ⟨RX8, "stripOfDay", "(II)I"⟩
abbrev cX8_partsOf : ByteArray := prog_1_method_42_code
def yX8_partsOf : MethodName := ⟨RX8, "partsOf", "(I)I"⟩
abbrev cX8_numberOfPlan : ByteArray := prog_1_method_44_code
def yX8_numberOfPlan : MethodName := ⟨RX8, "numberOfPlan", "(I)I"⟩
abbrev cX8_numberOfTask : ByteArray := prog_1_method_45_code
def yX8_numberOfTask : MethodName := ⟨RX8, "numberOfTask", "(II)I"⟩
abbrev cX8_numberOfPart : ByteArray := prog_1_method_47_code
def yX8_numberOfPart : MethodName := ⟨RX8, "numberOfPart", "(III)I"⟩
abbrev cX8_numberOfArrow : ByteArray := prog_1_method_48_code
def yX8_numberOfArrow : MethodName := ⟨RX8, "numberOfArrow", "(II)I"⟩
def RX9 : String := "TaskSheetsModel"
def TX9 : u_T := fun k => match k with
  | _ => ("", "", "", false)
def tyX9 : Nat → FieldType := fun k => match k with
  | _ => .int
abbrev wsX90 : List Cond := u_ws RX9 TX9 0
theorem nmX9 : ∀ a, a < 0 → ∀ b, b < 0 → a ≠ b → (TX9 a).2.1 ≠ (TX9 b).2.1 := by decide +kernel
theorem tyX9_ok : ∀ k, k < 0 → parseFieldDescriptor (TX9 k).2.2.1 = some (tyX9 k) := by decide +kernel
def RJ9 : String := "java/lang/Math"
def TJ9 : u_T := fun k => match k with
  | _ => ("", "", "", false)
def tyJ9 : Nat → FieldType := fun k => match k with
  | _ => .int
abbrev wsJ90 : List Cond := u_ws RJ9 TJ9 0
theorem nmJ9 : ∀ a, a < 0 → ∀ b, b < 0 → a ≠ b → (TJ9 a).2.1 ≠ (TJ9 b).2.1 := by decide +kernel
theorem tyJ9_ok : ∀ k, k < 0 → parseFieldDescriptor (TJ9 k).2.2.1 = some (tyJ9 k) := by decide +kernel
abbrev cJ9_max_7cf53 : ByteArray := prog_16_method_65_code
def yJ9_max_7cf53 : MethodName := ⟨RJ9, "max", "(II)I"⟩
abbrev cJ9_min_7cf53 : ByteArray := prog_16_method_69_code
def yJ9_min_7cf53 : MethodName := ⟨RJ9, "min", "(II)I"⟩
def RJ0 : String := "java/lang/String"
def TJ0 : u_T := fun k => match k with
  | _ => ("", "", "", false)
def tyJ0 : Nat → FieldType := fun k => match k with
  | _ => .int
abbrev wsJ00 : List Cond := u_ws RJ0 TJ0 0
theorem nmJ0 : ∀ a, a < 0 → ∀ b, b < 0 → a ≠ b → (TJ0 a).2.1 ≠ (TJ0 b).2.1 := by decide +kernel
theorem tyJ0_ok : ∀ k, k < 0 → parseFieldDescriptor (TJ0 k).2.2.1 = some (tyJ0 k) := by decide +kernel
def RL : String := "TaskSheetsLaw"
abbrev cL_cell : ByteArray := method_2_code
def yL_cell : MethodName := ⟨RL, "cell", "([II)I"⟩
abbrev cL_low : ByteArray := method_3_code
def yL_low : MethodName := ⟨RL, "low", "(II)I"⟩
abbrev cL_last : ByteArray := method_4_code
def yL_last : MethodName := ⟨RL, "last", "([I[II)I"⟩
abbrev cL_key : ByteArray := method_5_code
def yL_key : MethodName := ⟨RL, "key", "([I[II)I"⟩
abbrev cL_next : ByteArray := method_6_code
def yL_next : MethodName := ⟨RL, "next", "([I[I[II)I"⟩
abbrev cL_size : ByteArray := method_7_code
def yL_size : MethodName := ⟨RL, "size", "([I[II)I"⟩
abbrev cL_bands : ByteArray := method_8_code
def yL_bands : MethodName := ⟨RL, "bands", "([I[I[I[II)I"⟩
abbrev cL_indexOf : ByteArray := method_10_code
def yL_indexOf : MethodName := ⟨RL, "indexOf", "([I[III)I"⟩
abbrev cL_acts : ByteArray := method_11_code
def yL_acts : MethodName := ⟨RL, "acts", "(LTaskSheets;[I[I[I[I[II)Z"⟩
abbrev cL_drop : ByteArray := method_12_code
def yL_drop : MethodName := ⟨RL, "drop", "([I[II)V"⟩
abbrev cL_goes : ByteArray := method_13_code
def yL_goes : MethodName := ⟨RL, "goes", "(LTaskSheets;[I[II)Z"⟩
abbrev cL_first : ByteArray := method_14_code
def yL_first : MethodName := ⟨RL, "first", "([I)V"⟩
abbrev cL_sets : ByteArray := method_15_code
def yL_sets : MethodName := ⟨RL, "sets", "(LTaskSheets;II)I"⟩
abbrev cL_adds : ByteArray := method_16_code
def yL_adds : MethodName := ⟨RL, "adds", "(LTaskSheets;III)I"⟩
abbrev cL_moves : ByteArray := method_17_code
def yL_moves : MethodName := ⟨RL, "moves", "(LTaskSheets;III)I"⟩
abbrev cL_drops : ByteArray := method_18_code
def yL_drops : MethodName := ⟨RL, "drops", "(LTaskSheets;I)I"⟩
abbrev cL_points : ByteArray := method_19_code
def yL_points : MethodName := ⟨RL, "points", "(LTaskSheets;II)I"⟩
abbrev cL_unpoints : ByteArray := method_20_code
def yL_unpoints : MethodName := ⟨RL, "unpoints", "(LTaskSheets;I)I"⟩
abbrev cL_valueOf : ByteArray := method_21_code
def yL_valueOf : MethodName := ⟨RL, "valueOf", "(LTaskSheets;I)I"⟩
abbrev cL_taskOf : ByteArray := method_22_code
def yL_taskOf : MethodName := ⟨RL, "taskOf", "(LTaskSheets;II)I"⟩
abbrev cL_rowOf : ByteArray := method_23_code
def yL_rowOf : MethodName := ⟨RL, "rowOf", "(LTaskSheets;II)I"⟩
abbrev cL_partOf : ByteArray := method_24_code
def yL_partOf : MethodName := ⟨RL, "partOf", "(LTaskSheets;III)I"⟩
abbrev cL_delayOf : ByteArray := method_25_code
def yL_delayOf : MethodName := ⟨RL, "delayOf", "(LTaskSheets;I)I"⟩
abbrev cL_arrowBy : ByteArray := method_26_code
def yL_arrowBy : MethodName := ⟨RL, "arrowBy", "(LTaskSheets;II)I"⟩
abbrev cL_isSo : ByteArray := method_27_code
def yL_isSo : MethodName := ⟨RL, "isSo", "(LTaskSheets;[I[I[I[I[I)Z"⟩
abbrev cL_chain : ByteArray := method_28_code
def yL_chain : MethodName := ⟨RL, "chain", "([I[I[I[I)I"⟩
abbrev cL_law : ByteArray := code
def yL_law : MethodName := ⟨RL, "law", "([I)Z"⟩
def wsJ9_max_7cf53 : List Cond := .code yJ9_max_7cf53 cJ9_max_7cf53 2 (some .int) :: ([])
def wsJ9_min_7cf53 : List Cond := .code yJ9_min_7cf53 cJ9_min_7cf53 2 (some .int) :: ([])
theorem inJ9 : ∀ w ∈ wsJ90, w ∈ lw_tbl := by decide +kernel
theorem inJ0 : ∀ w ∈ wsJ00, w ∈ lw_tbl := by decide +kernel
theorem dX0_init_0 : decode cX0_init 0 = .ok (.aload_n 0, 1) := by decide +kernel
theorem dX0_init_1 : decode cX0_init 1 = .ok (.invokespecial 3, 3) := by decide +kernel
theorem dX0_init_4 : decode cX0_init 4 = .ok (.aload_n 0, 1) := by decide +kernel
theorem dX0_init_5 : decode cX0_init 5 = .ok (.new 9, 3) := by decide +kernel
theorem dX0_init_8 : decode cX0_init 8 = .ok (.dup, 1) := by decide +kernel
theorem dX0_init_9 : decode cX0_init 9 = .ok (.sipush 480, 3) := by decide +kernel
theorem dX0_init_12 : decode cX0_init 12 = .ok (.invokespecial 11, 3) := by decide +kernel
theorem dX0_init_15 : decode cX0_init 15 = .ok (.putfield 14, 3) := by decide +kernel
theorem dX0_init_18 : decode cX0_init 18 = .ok (.aload_n 0, 1) := by decide +kernel
theorem dX0_init_19 : decode cX0_init 19 = .ok (.new 9, 3) := by decide +kernel
theorem dX0_init_22 : decode cX0_init 22 = .ok (.dup, 1) := by decide +kernel
theorem dX0_init_23 : decode cX0_init 23 = .ok (.bipush 24, 2) := by decide +kernel
theorem dX0_init_25 : decode cX0_init 25 = .ok (.invokespecial 11, 3) := by decide +kernel
theorem dX0_init_28 : decode cX0_init 28 = .ok (.putfield 20, 3) := by decide +kernel
theorem dX0_init_31 : decode cX0_init 31 = .ok (.aload_n 0, 1) := by decide +kernel
theorem dX0_init_32 : decode cX0_init 32 = .ok (.new 9, 3) := by decide +kernel
theorem dX0_init_35 : decode cX0_init 35 = .ok (.dup, 1) := by decide +kernel
theorem dX0_init_36 : decode cX0_init 36 = .ok (.bipush 24, 2) := by decide +kernel
theorem dX0_init_38 : decode cX0_init 38 = .ok (.invokespecial 11, 3) := by decide +kernel
theorem dX0_init_41 : decode cX0_init 41 = .ok (.putfield 23, 3) := by decide +kernel
theorem dX0_init_44 : decode cX0_init 44 = .ok (.aload_n 0, 1) := by decide +kernel
theorem dX0_init_45 : decode cX0_init 45 = .ok (.new 9, 3) := by decide +kernel
theorem dX0_init_48 : decode cX0_init 48 = .ok (.dup, 1) := by decide +kernel
theorem dX0_init_49 : decode cX0_init 49 = .ok (.bipush 24, 2) := by decide +kernel
theorem dX0_init_51 : decode cX0_init 51 = .ok (.invokespecial 11, 3) := by decide +kernel
theorem dX0_init_54 : decode cX0_init 54 = .ok (.putfield 26, 3) := by decide +kernel
theorem dX0_init_57 : decode cX0_init 57 = .ok (.return_, 1) := by decide +kernel
theorem dX0_count_0 : decode cX0_count 0 = .ok (.aload_n 0, 1) := by decide +kernel
theorem dX0_count_1 : decode cX0_count 1 = .ok (.getfield 29, 3) := by decide +kernel
theorem dX0_count_4 : decode cX0_count 4 = .ok (.ireturn, 1) := by decide +kernel
theorem dX0_content_0 : decode cX0_content 0 = .ok (.aload_n 0, 1) := by decide +kernel
theorem dX0_content_1 : decode cX0_content 1 = .ok (.getfield 14, 3) := by decide +kernel
theorem dX0_content_4 : decode cX0_content 4 = .ok (.iload_n 1, 1) := by decide +kernel
theorem dX0_content_5 : decode cX0_content 5 = .ok (.bipush 20, 2) := by decide +kernel
theorem dX0_content_7 : decode cX0_content 7 = .ok (.imul, 1) := by decide +kernel
theorem dX0_content_8 : decode cX0_content 8 = .ok (.iload_n 2, 1) := by decide +kernel
theorem dX0_content_9 : decode cX0_content 9 = .ok (.iadd, 1) := by decide +kernel
theorem dX0_content_10 : decode cX0_content 10 = .ok (.invokevirtual 33, 3) := by decide +kernel
theorem dX0_content_13 : decode cX0_content 13 = .ok (.ireturn, 1) := by decide +kernel
theorem dX0_bandOf_0 : decode cX0_bandOf 0 = .ok (.aload_n 0, 1) := by decide +kernel
theorem dX0_bandOf_1 : decode cX0_bandOf 1 = .ok (.getfield 20, 3) := by decide +kernel
theorem dX0_bandOf_4 : decode cX0_bandOf 4 = .ok (.iload_n 1, 1) := by decide +kernel
theorem dX0_bandOf_5 : decode cX0_bandOf 5 = .ok (.invokevirtual 33, 3) := by decide +kernel
theorem dX0_bandOf_8 : decode cX0_bandOf 8 = .ok (.ireturn, 1) := by decide +kernel
theorem dX0_rowOf_0 : decode cX0_rowOf 0 = .ok (.aload_n 0, 1) := by decide +kernel
theorem dX0_rowOf_1 : decode cX0_rowOf 1 = .ok (.getfield 23, 3) := by decide +kernel
theorem dX0_rowOf_4 : decode cX0_rowOf 4 = .ok (.iload_n 1, 1) := by decide +kernel
theorem dX0_rowOf_5 : decode cX0_rowOf 5 = .ok (.invokevirtual 33, 3) := by decide +kernel
theorem dX0_rowOf_8 : decode cX0_rowOf 8 = .ok (.ireturn, 1) := by decide +kernel
theorem dX0_lay_0 : decode cX0_lay 0 = .ok (.aload_n 0, 1) := by decide +kernel
theorem dX0_lay_1 : decode cX0_lay 1 = .ok (.iload_n 2, 1) := by decide +kernel
theorem dX0_lay_2 : decode cX0_lay 2 = .ok (.putfield 37, 3) := by decide +kernel
theorem dX0_lay_5 : decode cX0_lay 5 = .ok (.aload_n 0, 1) := by decide +kernel
theorem dX0_lay_6 : decode cX0_lay 6 = .ok (.iconst 0, 1) := by decide +kernel
theorem dX0_lay_7 : decode cX0_lay 7 = .ok (.putfield 29, 3) := by decide +kernel
theorem dX0_lay_10 : decode cX0_lay 10 = .ok (.aload_n 0, 1) := by decide +kernel
theorem dX0_lay_11 : decode cX0_lay 11 = .ok (.iconst 0, 1) := by decide +kernel
theorem dX0_lay_12 : decode cX0_lay 12 = .ok (.putfield 40, 3) := by decide +kernel
theorem dX0_lay_15 : decode cX0_lay 15 = .ok (.iconst 0, 1) := by decide +kernel
theorem dX0_lay_16 : decode cX0_lay 16 = .ok (.istore_n 3, 1) := by decide +kernel
theorem dX0_lay_17 : decode cX0_lay 17 = .ok (.iload_n 3, 1) := by decide +kernel
theorem dX0_lay_18 : decode cX0_lay 18 = .ok (.bipush 6, 2) := by decide +kernel
theorem dX0_lay_20 : decode cX0_lay 20 = .ok (.if_icmp .ge 41, 3) := by decide +kernel
theorem dX0_lay_23 : decode cX0_lay 23 = .ok (.aload_n 0, 1) := by decide +kernel
theorem dX0_lay_24 : decode cX0_lay 24 = .ok (.aload_n 1, 1) := by decide +kernel
theorem dX0_lay_25 : decode cX0_lay 25 = .ok (.iload_n 3, 1) := by decide +kernel
theorem dX0_lay_26 : decode cX0_lay 26 = .ok (.invokevirtual 43, 3) := by decide +kernel
theorem dX0_lay_29 : decode cX0_lay 29 = .ok (.aload_n 0, 1) := by decide +kernel
theorem dX0_lay_30 : decode cX0_lay 30 = .ok (.getfield 47, 3) := by decide +kernel
theorem dX0_lay_33 : decode cX0_lay 33 = .ok (.ifCond .le 22, 3) := by decide +kernel
theorem dX0_lay_36 : decode cX0_lay 36 = .ok (.aload_n 0, 1) := by decide +kernel
theorem dX0_lay_37 : decode cX0_lay 37 = .ok (.iload_n 3, 1) := by decide +kernel
theorem dX0_lay_38 : decode cX0_lay 38 = .ok (.aload_n 1, 1) := by decide +kernel
theorem dX0_lay_39 : decode cX0_lay 39 = .ok (.iconst 2, 1) := by decide +kernel
theorem dX0_lay_40 : decode cX0_lay 40 = .ok (.invokevirtual 50, 3) := by decide +kernel
theorem dX0_lay_43 : decode cX0_lay 43 = .ok (.iconst 1, 1) := by decide +kernel
theorem dX0_lay_44 : decode cX0_lay 44 = .ok (.if_icmp .ne 7, 3) := by decide +kernel
theorem dX0_lay_47 : decode cX0_lay 47 = .ok (.iconst 1, 1) := by decide +kernel
theorem dX0_lay_48 : decode cX0_lay 48 = .ok (.goto 4, 3) := by decide +kernel
theorem dX0_lay_51 : decode cX0_lay 51 = .ok (.iconst 0, 1) := by decide +kernel
theorem dX0_lay_52 : decode cX0_lay 52 = .ok (.invokevirtual 55, 3) := by decide +kernel
theorem dX0_lay_55 : decode cX0_lay 55 = .ok (.iinc 3 1, 3) := by decide +kernel
theorem dX0_lay_58 : decode cX0_lay 58 = .ok (.goto (-41), 3) := by decide +kernel
theorem dX0_lay_61 : decode cX0_lay 61 = .ok (.return_, 1) := by decide +kernel
theorem dX0_gather_0 : decode cX0_gather 0 = .ok (.aload_n 0, 1) := by decide +kernel
theorem dX0_gather_1 : decode cX0_gather 1 = .ok (.iconst 0, 1) := by decide +kernel
theorem dX0_gather_2 : decode cX0_gather 2 = .ok (.putfield 47, 3) := by decide +kernel
theorem dX0_gather_5 : decode cX0_gather 5 = .ok (.iconst 0, 1) := by decide +kernel
theorem dX0_gather_6 : decode cX0_gather 6 = .ok (.istore_n 3, 1) := by decide +kernel
theorem dX0_gather_7 : decode cX0_gather 7 = .ok (.iload_n 3, 1) := by decide +kernel
theorem dX0_gather_8 : decode cX0_gather 8 = .ok (.aload_n 1, 1) := by decide +kernel
theorem dX0_gather_9 : decode cX0_gather 9 = .ok (.invokevirtual 59, 3) := by decide +kernel
theorem dX0_gather_12 : decode cX0_gather 12 = .ok (.if_icmp .ge 24, 3) := by decide +kernel
theorem dX0_gather_15 : decode cX0_gather 15 = .ok (.aload_n 1, 1) := by decide +kernel
theorem dX0_gather_16 : decode cX0_gather 16 = .ok (.iload_n 3, 1) := by decide +kernel
theorem dX0_gather_17 : decode cX0_gather 17 = .ok (.invokevirtual 63, 3) := by decide +kernel
theorem dX0_gather_20 : decode cX0_gather 20 = .ok (.iload_n 2, 1) := by decide +kernel
theorem dX0_gather_21 : decode cX0_gather 21 = .ok (.if_icmp .ne 9, 3) := by decide +kernel
theorem dX0_gather_24 : decode cX0_gather 24 = .ok (.aload_n 0, 1) := by decide +kernel
theorem dX0_gather_25 : decode cX0_gather 25 = .ok (.aload_n 1, 1) := by decide +kernel
theorem dX0_gather_26 : decode cX0_gather 26 = .ok (.iload_n 3, 1) := by decide +kernel
theorem dX0_gather_27 : decode cX0_gather 27 = .ok (.invokevirtual 66, 3) := by decide +kernel
theorem dX0_gather_30 : decode cX0_gather 30 = .ok (.iinc 3 1, 3) := by decide +kernel
theorem dX0_gather_33 : decode cX0_gather 33 = .ok (.goto (-26), 3) := by decide +kernel
theorem dX0_gather_36 : decode cX0_gather 36 = .ok (.return_, 1) := by decide +kernel
theorem dX0_insert_0 : decode cX0_insert 0 = .ok (.aload_n 0, 1) := by decide +kernel
theorem dX0_insert_1 : decode cX0_insert 1 = .ok (.getfield 47, 3) := by decide +kernel
theorem dX0_insert_4 : decode cX0_insert 4 = .ok (.istore_n 3, 1) := by decide +kernel
theorem dX0_insert_5 : decode cX0_insert 5 = .ok (.iload_n 3, 1) := by decide +kernel
theorem dX0_insert_6 : decode cX0_insert 6 = .ok (.ifCond .le 49, 3) := by decide +kernel
theorem dX0_insert_9 : decode cX0_insert 9 = .ok (.aload_n 1, 1) := by decide +kernel
theorem dX0_insert_10 : decode cX0_insert 10 = .ok (.aload_n 0, 1) := by decide +kernel
theorem dX0_insert_11 : decode cX0_insert 11 = .ok (.getfield 26, 3) := by decide +kernel
theorem dX0_insert_14 : decode cX0_insert 14 = .ok (.iload_n 3, 1) := by decide +kernel
theorem dX0_insert_15 : decode cX0_insert 15 = .ok (.iconst 1, 1) := by decide +kernel
theorem dX0_insert_16 : decode cX0_insert 16 = .ok (.isub, 1) := by decide +kernel
theorem dX0_insert_17 : decode cX0_insert 17 = .ok (.invokevirtual 33, 3) := by decide +kernel
theorem dX0_insert_20 : decode cX0_insert 20 = .ok (.invokevirtual 69, 3) := by decide +kernel
theorem dX0_insert_23 : decode cX0_insert 23 = .ok (.aload_n 1, 1) := by decide +kernel
theorem dX0_insert_24 : decode cX0_insert 24 = .ok (.iload_n 2, 1) := by decide +kernel
theorem dX0_insert_25 : decode cX0_insert 25 = .ok (.invokevirtual 69, 3) := by decide +kernel
theorem dX0_insert_28 : decode cX0_insert 28 = .ok (.if_icmp .le 27, 3) := by decide +kernel
theorem dX0_insert_31 : decode cX0_insert 31 = .ok (.aload_n 0, 1) := by decide +kernel
theorem dX0_insert_32 : decode cX0_insert 32 = .ok (.getfield 26, 3) := by decide +kernel
theorem dX0_insert_35 : decode cX0_insert 35 = .ok (.iload_n 3, 1) := by decide +kernel
theorem dX0_insert_36 : decode cX0_insert 36 = .ok (.aload_n 0, 1) := by decide +kernel
theorem dX0_insert_37 : decode cX0_insert 37 = .ok (.getfield 26, 3) := by decide +kernel
theorem dX0_insert_40 : decode cX0_insert 40 = .ok (.iload_n 3, 1) := by decide +kernel
theorem dX0_insert_41 : decode cX0_insert 41 = .ok (.iconst 1, 1) := by decide +kernel
theorem dX0_insert_42 : decode cX0_insert 42 = .ok (.isub, 1) := by decide +kernel
theorem dX0_insert_43 : decode cX0_insert 43 = .ok (.invokevirtual 33, 3) := by decide +kernel
theorem dX0_insert_46 : decode cX0_insert 46 = .ok (.invokevirtual 72, 3) := by decide +kernel
theorem dX0_insert_49 : decode cX0_insert 49 = .ok (.iinc 3 (-1), 3) := by decide +kernel
theorem dX0_insert_52 : decode cX0_insert 52 = .ok (.goto (-47), 3) := by decide +kernel
theorem dX0_insert_55 : decode cX0_insert 55 = .ok (.aload_n 0, 1) := by decide +kernel
theorem dX0_insert_56 : decode cX0_insert 56 = .ok (.getfield 26, 3) := by decide +kernel
theorem dX0_insert_59 : decode cX0_insert 59 = .ok (.iload_n 3, 1) := by decide +kernel
theorem dX0_insert_60 : decode cX0_insert 60 = .ok (.iload_n 2, 1) := by decide +kernel
theorem dX0_insert_61 : decode cX0_insert 61 = .ok (.invokevirtual 72, 3) := by decide +kernel
theorem dX0_insert_64 : decode cX0_insert 64 = .ok (.aload_n 0, 1) := by decide +kernel
theorem dX0_insert_65 : decode cX0_insert 65 = .ok (.dup, 1) := by decide +kernel
theorem dX0_insert_66 : decode cX0_insert 66 = .ok (.getfield 47, 3) := by decide +kernel
theorem dX0_insert_69 : decode cX0_insert 69 = .ok (.iconst 1, 1) := by decide +kernel
theorem dX0_insert_70 : decode cX0_insert 70 = .ok (.iadd, 1) := by decide +kernel
theorem dX0_insert_71 : decode cX0_insert 71 = .ok (.putfield 47, 3) := by decide +kernel
theorem dX0_insert_74 : decode cX0_insert 74 = .ok (.return_, 1) := by decide +kernel
theorem dX0_layGroup_0 : decode cX0_layGroup 0 = .ok (.iconst 1, 1) := by decide +kernel
theorem dX0_layGroup_1 : decode cX0_layGroup 1 = .ok (.aload_n 0, 1) := by decide +kernel
theorem dX0_layGroup_2 : decode cX0_layGroup 2 = .ok (.getfield 47, 3) := by decide +kernel
theorem dX0_layGroup_5 : decode cX0_layGroup 5 = .ok (.iadd, 1) := by decide +kernel
theorem dX0_layGroup_6 : decode cX0_layGroup 6 = .ok (.istore_n 3, 1) := by decide +kernel
theorem dX0_layGroup_7 : decode cX0_layGroup 7 = .ok (.iload_n 2, 1) := by decide +kernel
theorem dX0_layGroup_8 : decode cX0_layGroup 8 = .ok (.ifCond .eq 23, 3) := by decide +kernel
theorem dX0_layGroup_11 : decode cX0_layGroup 11 = .ok (.iload_n 3, 1) := by decide +kernel
theorem dX0_layGroup_12 : decode cX0_layGroup 12 = .ok (.aload_n 0, 1) := by decide +kernel
theorem dX0_layGroup_13 : decode cX0_layGroup 13 = .ok (.getfield 40, 3) := by decide +kernel
theorem dX0_layGroup_16 : decode cX0_layGroup 16 = .ok (.if_icmp .le 15, 3) := by decide +kernel
theorem dX0_layGroup_19 : decode cX0_layGroup 19 = .ok (.iload_n 3, 1) := by decide +kernel
theorem dX0_layGroup_20 : decode cX0_layGroup 20 = .ok (.aload_n 0, 1) := by decide +kernel
theorem dX0_layGroup_21 : decode cX0_layGroup 21 = .ok (.getfield 37, 3) := by decide +kernel
theorem dX0_layGroup_24 : decode cX0_layGroup 24 = .ok (.if_icmp .gt 7, 3) := by decide +kernel
theorem dX0_layGroup_27 : decode cX0_layGroup 27 = .ok (.iconst 1, 1) := by decide +kernel
theorem dX0_layGroup_28 : decode cX0_layGroup 28 = .ok (.goto 4, 3) := by decide +kernel
theorem dX0_layGroup_31 : decode cX0_layGroup 31 = .ok (.iconst 0, 1) := by decide +kernel
theorem dX0_layGroup_32 : decode cX0_layGroup 32 = .ok (.istore 4, 2) := by decide +kernel
theorem dX0_layGroup_34 : decode cX0_layGroup 34 = .ok (.iload 4, 2) := by decide +kernel
theorem dX0_layGroup_36 : decode cX0_layGroup 36 = .ok (.ifCond .ne 11, 3) := by decide +kernel
theorem dX0_layGroup_39 : decode cX0_layGroup 39 = .ok (.aload_n 0, 1) := by decide +kernel
theorem dX0_layGroup_40 : decode cX0_layGroup 40 = .ok (.getfield 40, 3) := by decide +kernel
theorem dX0_layGroup_43 : decode cX0_layGroup 43 = .ok (.iconst 2, 1) := by decide +kernel
theorem dX0_layGroup_44 : decode cX0_layGroup 44 = .ok (.if_icmp .ge 7, 3) := by decide +kernel
theorem dX0_layGroup_47 : decode cX0_layGroup 47 = .ok (.aload_n 0, 1) := by decide +kernel
theorem dX0_layGroup_48 : decode cX0_layGroup 48 = .ok (.invokevirtual 76, 3) := by decide +kernel
theorem dX0_layGroup_51 : decode cX0_layGroup 51 = .ok (.aload_n 0, 1) := by decide +kernel
theorem dX0_layGroup_52 : decode cX0_layGroup 52 = .ok (.bipush 100, 2) := by decide +kernel
theorem dX0_layGroup_54 : decode cX0_layGroup 54 = .ok (.iload_n 1, 1) := by decide +kernel
theorem dX0_layGroup_55 : decode cX0_layGroup 55 = .ok (.iadd, 1) := by decide +kernel
theorem dX0_layGroup_56 : decode cX0_layGroup 56 = .ok (.invokevirtual 79, 3) := by decide +kernel
theorem dX0_layGroup_59 : decode cX0_layGroup 59 = .ok (.iconst 0, 1) := by decide +kernel
theorem dX0_layGroup_60 : decode cX0_layGroup 60 = .ok (.istore 5, 2) := by decide +kernel
theorem dX0_layGroup_62 : decode cX0_layGroup 62 = .ok (.iload 5, 2) := by decide +kernel
theorem dX0_layGroup_64 : decode cX0_layGroup 64 = .ok (.aload_n 0, 1) := by decide +kernel
theorem dX0_layGroup_65 : decode cX0_layGroup 65 = .ok (.getfield 47, 3) := by decide +kernel
theorem dX0_layGroup_68 : decode cX0_layGroup 68 = .ok (.if_icmp .ge 80, 3) := by decide +kernel
theorem dX0_layGroup_71 : decode cX0_layGroup 71 = .ok (.aload_n 0, 1) := by decide +kernel
theorem dX0_layGroup_72 : decode cX0_layGroup 72 = .ok (.getfield 40, 3) := by decide +kernel
theorem dX0_layGroup_75 : decode cX0_layGroup 75 = .ok (.iconst 1, 1) := by decide +kernel
theorem dX0_layGroup_76 : decode cX0_layGroup 76 = .ok (.if_icmp .ge 16, 3) := by decide +kernel
theorem dX0_layGroup_79 : decode cX0_layGroup 79 = .ok (.aload_n 0, 1) := by decide +kernel
theorem dX0_layGroup_80 : decode cX0_layGroup 80 = .ok (.invokevirtual 76, 3) := by decide +kernel
theorem dX0_layGroup_83 : decode cX0_layGroup 83 = .ok (.aload_n 0, 1) := by decide +kernel
theorem dX0_layGroup_84 : decode cX0_layGroup 84 = .ok (.sipush 200, 3) := by decide +kernel
theorem dX0_layGroup_87 : decode cX0_layGroup 87 = .ok (.iload_n 1, 1) := by decide +kernel
theorem dX0_layGroup_88 : decode cX0_layGroup 88 = .ok (.iadd, 1) := by decide +kernel
theorem dX0_layGroup_89 : decode cX0_layGroup 89 = .ok (.invokevirtual 79, 3) := by decide +kernel
theorem dX0_layGroup_92 : decode cX0_layGroup 92 = .ok (.aload_n 0, 1) := by decide +kernel
theorem dX0_layGroup_93 : decode cX0_layGroup 93 = .ok (.getfield 26, 3) := by decide +kernel
theorem dX0_layGroup_96 : decode cX0_layGroup 96 = .ok (.iload 5, 2) := by decide +kernel
theorem dX0_layGroup_98 : decode cX0_layGroup 98 = .ok (.invokevirtual 33, 3) := by decide +kernel
theorem dX0_layGroup_101 : decode cX0_layGroup 101 = .ok (.istore 6, 2) := by decide +kernel
theorem dX0_layGroup_103 : decode cX0_layGroup 103 = .ok (.aload_n 0, 1) := by decide +kernel
theorem dX0_layGroup_104 : decode cX0_layGroup 104 = .ok (.getfield 20, 3) := by decide +kernel
theorem dX0_layGroup_107 : decode cX0_layGroup 107 = .ok (.iload 6, 2) := by decide +kernel
theorem dX0_layGroup_109 : decode cX0_layGroup 109 = .ok (.aload_n 0, 1) := by decide +kernel
theorem dX0_layGroup_110 : decode cX0_layGroup 110 = .ok (.getfield 29, 3) := by decide +kernel
theorem dX0_layGroup_113 : decode cX0_layGroup 113 = .ok (.iconst 1, 1) := by decide +kernel
theorem dX0_layGroup_114 : decode cX0_layGroup 114 = .ok (.isub, 1) := by decide +kernel
theorem dX0_layGroup_115 : decode cX0_layGroup 115 = .ok (.invokevirtual 72, 3) := by decide +kernel
theorem dX0_layGroup_118 : decode cX0_layGroup 118 = .ok (.aload_n 0, 1) := by decide +kernel
theorem dX0_layGroup_119 : decode cX0_layGroup 119 = .ok (.getfield 23, 3) := by decide +kernel
theorem dX0_layGroup_122 : decode cX0_layGroup 122 = .ok (.iload 6, 2) := by decide +kernel
theorem dX0_layGroup_124 : decode cX0_layGroup 124 = .ok (.aload_n 0, 1) := by decide +kernel
theorem dX0_layGroup_125 : decode cX0_layGroup 125 = .ok (.getfield 37, 3) := by decide +kernel
theorem dX0_layGroup_128 : decode cX0_layGroup 128 = .ok (.aload_n 0, 1) := by decide +kernel
theorem dX0_layGroup_129 : decode cX0_layGroup 129 = .ok (.getfield 40, 3) := by decide +kernel
theorem dX0_layGroup_132 : decode cX0_layGroup 132 = .ok (.isub, 1) := by decide +kernel
theorem dX0_layGroup_133 : decode cX0_layGroup 133 = .ok (.invokevirtual 72, 3) := by decide +kernel
theorem dX0_layGroup_136 : decode cX0_layGroup 136 = .ok (.aload_n 0, 1) := by decide +kernel
theorem dX0_layGroup_137 : decode cX0_layGroup 137 = .ok (.iload 6, 2) := by decide +kernel
theorem dX0_layGroup_139 : decode cX0_layGroup 139 = .ok (.invokevirtual 79, 3) := by decide +kernel
theorem dX0_layGroup_142 : decode cX0_layGroup 142 = .ok (.iinc 5 1, 3) := by decide +kernel
theorem dX0_layGroup_145 : decode cX0_layGroup 145 = .ok (.goto (-83), 3) := by decide +kernel
theorem dX0_layGroup_148 : decode cX0_layGroup 148 = .ok (.return_, 1) := by decide +kernel
theorem dX0_beginBand_0 : decode cX0_beginBand 0 = .ok (.aload_n 0, 1) := by decide +kernel
theorem dX0_beginBand_1 : decode cX0_beginBand 1 = .ok (.getfield 14, 3) := by decide +kernel
theorem dX0_beginBand_4 : decode cX0_beginBand 4 = .ok (.aload_n 0, 1) := by decide +kernel
theorem dX0_beginBand_5 : decode cX0_beginBand 5 = .ok (.getfield 29, 3) := by decide +kernel
theorem dX0_beginBand_8 : decode cX0_beginBand 8 = .ok (.bipush 20, 2) := by decide +kernel
theorem dX0_beginBand_10 : decode cX0_beginBand 10 = .ok (.imul, 1) := by decide +kernel
theorem dX0_beginBand_11 : decode cX0_beginBand 11 = .ok (.aload_n 0, 1) := by decide +kernel
theorem dX0_beginBand_12 : decode cX0_beginBand 12 = .ok (.getfield 29, 3) := by decide +kernel
theorem dX0_beginBand_15 : decode cX0_beginBand 15 = .ok (.iconst 1, 1) := by decide +kernel
theorem dX0_beginBand_16 : decode cX0_beginBand 16 = .ok (.iadd, 1) := by decide +kernel
theorem dX0_beginBand_17 : decode cX0_beginBand 17 = .ok (.bipush 20, 2) := by decide +kernel
theorem dX0_beginBand_19 : decode cX0_beginBand 19 = .ok (.imul, 1) := by decide +kernel
theorem dX0_beginBand_20 : decode cX0_beginBand 20 = .ok (.iconst (-1), 1) := by decide +kernel
theorem dX0_beginBand_21 : decode cX0_beginBand 21 = .ok (.invokevirtual 82, 3) := by decide +kernel
theorem dX0_beginBand_24 : decode cX0_beginBand 24 = .ok (.aload_n 0, 1) := by decide +kernel
theorem dX0_beginBand_25 : decode cX0_beginBand 25 = .ok (.dup, 1) := by decide +kernel
theorem dX0_beginBand_26 : decode cX0_beginBand 26 = .ok (.getfield 29, 3) := by decide +kernel
theorem dX0_beginBand_29 : decode cX0_beginBand 29 = .ok (.iconst 1, 1) := by decide +kernel
theorem dX0_beginBand_30 : decode cX0_beginBand 30 = .ok (.iadd, 1) := by decide +kernel
theorem dX0_beginBand_31 : decode cX0_beginBand 31 = .ok (.putfield 29, 3) := by decide +kernel
theorem dX0_beginBand_34 : decode cX0_beginBand 34 = .ok (.aload_n 0, 1) := by decide +kernel
theorem dX0_beginBand_35 : decode cX0_beginBand 35 = .ok (.aload_n 0, 1) := by decide +kernel
theorem dX0_beginBand_36 : decode cX0_beginBand 36 = .ok (.getfield 37, 3) := by decide +kernel
theorem dX0_beginBand_39 : decode cX0_beginBand 39 = .ok (.putfield 40, 3) := by decide +kernel
theorem dX0_beginBand_42 : decode cX0_beginBand 42 = .ok (.return_, 1) := by decide +kernel
theorem dX0_take_0 : decode cX0_take 0 = .ok (.aload_n 0, 1) := by decide +kernel
theorem dX0_take_1 : decode cX0_take 1 = .ok (.getfield 14, 3) := by decide +kernel
theorem dX0_take_4 : decode cX0_take 4 = .ok (.aload_n 0, 1) := by decide +kernel
theorem dX0_take_5 : decode cX0_take 5 = .ok (.getfield 29, 3) := by decide +kernel
theorem dX0_take_8 : decode cX0_take 8 = .ok (.iconst 1, 1) := by decide +kernel
theorem dX0_take_9 : decode cX0_take 9 = .ok (.isub, 1) := by decide +kernel
theorem dX0_take_10 : decode cX0_take 10 = .ok (.bipush 20, 2) := by decide +kernel
theorem dX0_take_12 : decode cX0_take 12 = .ok (.imul, 1) := by decide +kernel
theorem dX0_take_13 : decode cX0_take 13 = .ok (.aload_n 0, 1) := by decide +kernel
theorem dX0_take_14 : decode cX0_take 14 = .ok (.getfield 37, 3) := by decide +kernel
theorem dX0_take_17 : decode cX0_take 17 = .ok (.iadd, 1) := by decide +kernel
theorem dX0_take_18 : decode cX0_take 18 = .ok (.aload_n 0, 1) := by decide +kernel
theorem dX0_take_19 : decode cX0_take 19 = .ok (.getfield 40, 3) := by decide +kernel
theorem dX0_take_22 : decode cX0_take 22 = .ok (.isub, 1) := by decide +kernel
theorem dX0_take_23 : decode cX0_take 23 = .ok (.iload_n 1, 1) := by decide +kernel
theorem dX0_take_24 : decode cX0_take 24 = .ok (.invokevirtual 72, 3) := by decide +kernel
theorem dX0_take_27 : decode cX0_take 27 = .ok (.aload_n 0, 1) := by decide +kernel
theorem dX0_take_28 : decode cX0_take 28 = .ok (.dup, 1) := by decide +kernel
theorem dX0_take_29 : decode cX0_take 29 = .ok (.getfield 40, 3) := by decide +kernel
theorem dX0_take_32 : decode cX0_take 32 = .ok (.iconst 1, 1) := by decide +kernel
theorem dX0_take_33 : decode cX0_take 33 = .ok (.isub, 1) := by decide +kernel
theorem dX0_take_34 : decode cX0_take 34 = .ok (.putfield 40, 3) := by decide +kernel
theorem dX0_take_37 : decode cX0_take 37 = .ok (.return_, 1) := by decide +kernel
theorem dX1_init_0 : decode cX1_init 0 = .ok (.aload_n 0, 1) := by decide +kernel
theorem dX1_init_1 : decode cX1_init 1 = .ok (.invokespecial 3, 3) := by decide +kernel
theorem dX1_init_4 : decode cX1_init 4 = .ok (.aload_n 0, 1) := by decide +kernel
theorem dX1_init_5 : decode cX1_init 5 = .ok (.new 9, 3) := by decide +kernel
theorem dX1_init_8 : decode cX1_init 8 = .ok (.dup, 1) := by decide +kernel
theorem dX1_init_9 : decode cX1_init 9 = .ok (.bipush 24, 2) := by decide +kernel
theorem dX1_init_11 : decode cX1_init 11 = .ok (.invokespecial 11, 3) := by decide +kernel
theorem dX1_init_14 : decode cX1_init 14 = .ok (.putfield 14, 3) := by decide +kernel
theorem dX1_init_17 : decode cX1_init 17 = .ok (.return_, 1) := by decide +kernel
theorem dX1_longest_0 : decode cX1_longest 0 = .ok (.aload_n 0, 1) := by decide +kernel
theorem dX1_longest_1 : decode cX1_longest 1 = .ok (.getfield 14, 3) := by decide +kernel
theorem dX1_longest_4 : decode cX1_longest 4 = .ok (.iconst 0, 1) := by decide +kernel
theorem dX1_longest_5 : decode cX1_longest 5 = .ok (.aload_n 1, 1) := by decide +kernel
theorem dX1_longest_6 : decode cX1_longest 6 = .ok (.invokevirtual 20, 3) := by decide +kernel
theorem dX1_longest_9 : decode cX1_longest 9 = .ok (.iconst 1, 1) := by decide +kernel
theorem dX1_longest_10 : decode cX1_longest 10 = .ok (.invokevirtual 26, 3) := by decide +kernel
theorem dX1_longest_13 : decode cX1_longest 13 = .ok (.iconst 1, 1) := by decide +kernel
theorem dX1_longest_14 : decode cX1_longest 14 = .ok (.istore_n 2, 1) := by decide +kernel
theorem dX1_longest_15 : decode cX1_longest 15 = .ok (.iconst 0, 1) := by decide +kernel
theorem dX1_longest_16 : decode cX1_longest 16 = .ok (.istore_n 3, 1) := by decide +kernel
theorem dX1_longest_17 : decode cX1_longest 17 = .ok (.iload_n 2, 1) := by decide +kernel
theorem dX1_longest_18 : decode cX1_longest 18 = .ok (.ifCond .eq 21, 3) := by decide +kernel
theorem dX1_longest_21 : decode cX1_longest 21 = .ok (.iload_n 3, 1) := by decide +kernel
theorem dX1_longest_22 : decode cX1_longest 22 = .ok (.bipush 24, 2) := by decide +kernel
theorem dX1_longest_24 : decode cX1_longest 24 = .ok (.if_icmp .ge 15, 3) := by decide +kernel
theorem dX1_longest_27 : decode cX1_longest 27 = .ok (.aload_n 0, 1) := by decide +kernel
theorem dX1_longest_28 : decode cX1_longest 28 = .ok (.aload_n 1, 1) := by decide +kernel
theorem dX1_longest_29 : decode cX1_longest 29 = .ok (.invokevirtual 30, 3) := by decide +kernel
theorem dX1_longest_32 : decode cX1_longest 32 = .ok (.istore_n 2, 1) := by decide +kernel
theorem dX1_longest_33 : decode cX1_longest 33 = .ok (.iinc 3 1, 3) := by decide +kernel
theorem dX1_longest_36 : decode cX1_longest 36 = .ok (.goto (-19), 3) := by decide +kernel
theorem dX1_longest_39 : decode cX1_longest 39 = .ok (.iconst 0, 1) := by decide +kernel
theorem dX1_longest_40 : decode cX1_longest 40 = .ok (.istore_n 3, 1) := by decide +kernel
theorem dX1_longest_41 : decode cX1_longest 41 = .ok (.iconst 0, 1) := by decide +kernel
theorem dX1_longest_42 : decode cX1_longest 42 = .ok (.istore 4, 2) := by decide +kernel
theorem dX1_longest_44 : decode cX1_longest 44 = .ok (.iload 4, 2) := by decide +kernel
theorem dX1_longest_46 : decode cX1_longest 46 = .ok (.aload_n 1, 1) := by decide +kernel
theorem dX1_longest_47 : decode cX1_longest 47 = .ok (.invokevirtual 20, 3) := by decide +kernel
theorem dX1_longest_50 : decode cX1_longest 50 = .ok (.if_icmp .ge 23, 3) := by decide +kernel
theorem dX1_longest_53 : decode cX1_longest 53 = .ok (.iload_n 3, 1) := by decide +kernel
theorem dX1_longest_54 : decode cX1_longest 54 = .ok (.aload_n 0, 1) := by decide +kernel
theorem dX1_longest_55 : decode cX1_longest 55 = .ok (.getfield 14, 3) := by decide +kernel
theorem dX1_longest_58 : decode cX1_longest 58 = .ok (.iload 4, 2) := by decide +kernel
theorem dX1_longest_60 : decode cX1_longest 60 = .ok (.invokevirtual 34, 3) := by decide +kernel
theorem dX1_longest_63 : decode cX1_longest 63 = .ok (.invokestatic 38, 3) := by decide +kernel
theorem dX1_longest_66 : decode cX1_longest 66 = .ok (.istore_n 3, 1) := by decide +kernel
theorem dX1_longest_67 : decode cX1_longest 67 = .ok (.iinc 4 1, 3) := by decide +kernel
theorem dX1_longest_70 : decode cX1_longest 70 = .ok (.goto (-26), 3) := by decide +kernel
theorem dX1_longest_73 : decode cX1_longest 73 = .ok (.iload_n 3, 1) := by decide +kernel
theorem dX1_longest_74 : decode cX1_longest 74 = .ok (.ireturn, 1) := by decide +kernel
theorem dX1_growOnce_0 : decode cX1_growOnce 0 = .ok (.iconst 0, 1) := by decide +kernel
theorem dX1_growOnce_1 : decode cX1_growOnce 1 = .ok (.istore_n 2, 1) := by decide +kernel
theorem dX1_growOnce_2 : decode cX1_growOnce 2 = .ok (.iconst 0, 1) := by decide +kernel
theorem dX1_growOnce_3 : decode cX1_growOnce 3 = .ok (.istore_n 3, 1) := by decide +kernel
theorem dX1_growOnce_4 : decode cX1_growOnce 4 = .ok (.iload_n 3, 1) := by decide +kernel
theorem dX1_growOnce_5 : decode cX1_growOnce 5 = .ok (.aload_n 1, 1) := by decide +kernel
theorem dX1_growOnce_6 : decode cX1_growOnce 6 = .ok (.invokevirtual 44, 3) := by decide +kernel
theorem dX1_growOnce_9 : decode cX1_growOnce 9 = .ok (.if_icmp .ge 66, 3) := by decide +kernel
theorem dX1_growOnce_12 : decode cX1_growOnce 12 = .ok (.aload_n 0, 1) := by decide +kernel
theorem dX1_growOnce_13 : decode cX1_growOnce 13 = .ok (.getfield 14, 3) := by decide +kernel
theorem dX1_growOnce_16 : decode cX1_growOnce 16 = .ok (.aload_n 1, 1) := by decide +kernel
theorem dX1_growOnce_17 : decode cX1_growOnce 17 = .ok (.iload_n 3, 1) := by decide +kernel
theorem dX1_growOnce_18 : decode cX1_growOnce 18 = .ok (.invokevirtual 47, 3) := by decide +kernel
theorem dX1_growOnce_21 : decode cX1_growOnce 21 = .ok (.invokevirtual 34, 3) := by decide +kernel
theorem dX1_growOnce_24 : decode cX1_growOnce 24 = .ok (.iconst 1, 1) := by decide +kernel
theorem dX1_growOnce_25 : decode cX1_growOnce 25 = .ok (.iadd, 1) := by decide +kernel
theorem dX1_growOnce_26 : decode cX1_growOnce 26 = .ok (.istore 4, 2) := by decide +kernel
theorem dX1_growOnce_28 : decode cX1_growOnce 28 = .ok (.aload_n 1, 1) := by decide +kernel
theorem dX1_growOnce_29 : decode cX1_growOnce 29 = .ok (.iload_n 3, 1) := by decide +kernel
theorem dX1_growOnce_30 : decode cX1_growOnce 30 = .ok (.invokevirtual 50, 3) := by decide +kernel
theorem dX1_growOnce_33 : decode cX1_growOnce 33 = .ok (.ifCond .ne 36, 3) := by decide +kernel
theorem dX1_growOnce_36 : decode cX1_growOnce 36 = .ok (.iload 4, 2) := by decide +kernel
theorem dX1_growOnce_38 : decode cX1_growOnce 38 = .ok (.aload_n 0, 1) := by decide +kernel
theorem dX1_growOnce_39 : decode cX1_growOnce 39 = .ok (.getfield 14, 3) := by decide +kernel
theorem dX1_growOnce_42 : decode cX1_growOnce 42 = .ok (.aload_n 1, 1) := by decide +kernel
theorem dX1_growOnce_43 : decode cX1_growOnce 43 = .ok (.iload_n 3, 1) := by decide +kernel
theorem dX1_growOnce_44 : decode cX1_growOnce 44 = .ok (.invokevirtual 54, 3) := by decide +kernel
theorem dX1_growOnce_47 : decode cX1_growOnce 47 = .ok (.invokevirtual 34, 3) := by decide +kernel
theorem dX1_growOnce_50 : decode cX1_growOnce 50 = .ok (.if_icmp .le 19, 3) := by decide +kernel
theorem dX1_growOnce_53 : decode cX1_growOnce 53 = .ok (.aload_n 0, 1) := by decide +kernel
theorem dX1_growOnce_54 : decode cX1_growOnce 54 = .ok (.getfield 14, 3) := by decide +kernel
theorem dX1_growOnce_57 : decode cX1_growOnce 57 = .ok (.aload_n 1, 1) := by decide +kernel
theorem dX1_growOnce_58 : decode cX1_growOnce 58 = .ok (.iload_n 3, 1) := by decide +kernel
theorem dX1_growOnce_59 : decode cX1_growOnce 59 = .ok (.invokevirtual 54, 3) := by decide +kernel
theorem dX1_growOnce_62 : decode cX1_growOnce 62 = .ok (.iload 4, 2) := by decide +kernel
theorem dX1_growOnce_64 : decode cX1_growOnce 64 = .ok (.invokevirtual 57, 3) := by decide +kernel
theorem dX1_growOnce_67 : decode cX1_growOnce 67 = .ok (.iconst 1, 1) := by decide +kernel
theorem dX1_growOnce_68 : decode cX1_growOnce 68 = .ok (.istore_n 2, 1) := by decide +kernel
theorem dX1_growOnce_69 : decode cX1_growOnce 69 = .ok (.iinc 3 1, 3) := by decide +kernel
theorem dX1_growOnce_72 : decode cX1_growOnce 72 = .ok (.goto (-68), 3) := by decide +kernel
theorem dX1_growOnce_75 : decode cX1_growOnce 75 = .ok (.iload_n 2, 1) := by decide +kernel
theorem dX1_growOnce_76 : decode cX1_growOnce 76 = .ok (.ireturn, 1) := by decide +kernel
theorem dX2_init_0 : decode cX2_init 0 = .ok (.aload_n 0, 1) := by decide +kernel
theorem dX2_init_1 : decode cX2_init 1 = .ok (.invokespecial 3, 3) := by decide +kernel
theorem dX2_init_4 : decode cX2_init 4 = .ok (.aload_n 0, 1) := by decide +kernel
theorem dX2_init_5 : decode cX2_init 5 = .ok (.new 9, 3) := by decide +kernel
theorem dX2_init_8 : decode cX2_init 8 = .ok (.dup, 1) := by decide +kernel
theorem dX2_init_9 : decode cX2_init 9 = .ok (.bipush 30, 2) := by decide +kernel
theorem dX2_init_11 : decode cX2_init 11 = .ok (.invokespecial 11, 3) := by decide +kernel
theorem dX2_init_14 : decode cX2_init 14 = .ok (.putfield 14, 3) := by decide +kernel
theorem dX2_init_17 : decode cX2_init 17 = .ok (.aload_n 0, 1) := by decide +kernel
theorem dX2_init_18 : decode cX2_init 18 = .ok (.new 9, 3) := by decide +kernel
theorem dX2_init_21 : decode cX2_init 21 = .ok (.dup, 1) := by decide +kernel
theorem dX2_init_22 : decode cX2_init 22 = .ok (.bipush 30, 2) := by decide +kernel
theorem dX2_init_24 : decode cX2_init 24 = .ok (.invokespecial 11, 3) := by decide +kernel
theorem dX2_init_27 : decode cX2_init 27 = .ok (.putfield 20, 3) := by decide +kernel
theorem dX2_init_30 : decode cX2_init 30 = .ok (.aload_n 0, 1) := by decide +kernel
theorem dX2_init_31 : decode cX2_init 31 = .ok (.new 9, 3) := by decide +kernel
theorem dX2_init_34 : decode cX2_init 34 = .ok (.dup, 1) := by decide +kernel
theorem dX2_init_35 : decode cX2_init 35 = .ok (.bipush 30, 2) := by decide +kernel
theorem dX2_init_37 : decode cX2_init 37 = .ok (.invokespecial 11, 3) := by decide +kernel
theorem dX2_init_40 : decode cX2_init 40 = .ok (.putfield 23, 3) := by decide +kernel
theorem dX2_init_43 : decode cX2_init 43 = .ok (.aload_n 0, 1) := by decide +kernel
theorem dX2_init_44 : decode cX2_init 44 = .ok (.new 9, 3) := by decide +kernel
theorem dX2_init_47 : decode cX2_init 47 = .ok (.dup, 1) := by decide +kernel
theorem dX2_init_48 : decode cX2_init 48 = .ok (.bipush 31, 2) := by decide +kernel
theorem dX2_init_50 : decode cX2_init 50 = .ok (.invokespecial 11, 3) := by decide +kernel
theorem dX2_init_53 : decode cX2_init 53 = .ok (.putfield 26, 3) := by decide +kernel
theorem dX2_init_56 : decode cX2_init 56 = .ok (.aload_n 0, 1) := by decide +kernel
theorem dX2_init_57 : decode cX2_init 57 = .ok (.new 9, 3) := by decide +kernel
theorem dX2_init_60 : decode cX2_init 60 = .ok (.dup, 1) := by decide +kernel
theorem dX2_init_61 : decode cX2_init 61 = .ok (.sipush 312, 3) := by decide +kernel
theorem dX2_init_64 : decode cX2_init 64 = .ok (.invokespecial 11, 3) := by decide +kernel
theorem dX2_init_67 : decode cX2_init 67 = .ok (.putfield 29, 3) := by decide +kernel
theorem dX2_init_70 : decode cX2_init 70 = .ok (.aload_n 0, 1) := by decide +kernel
theorem dX2_init_71 : decode cX2_init 71 = .ok (.new 9, 3) := by decide +kernel
theorem dX2_init_74 : decode cX2_init 74 = .ok (.dup, 1) := by decide +kernel
theorem dX2_init_75 : decode cX2_init 75 = .ok (.sipush 312, 3) := by decide +kernel
theorem dX2_init_78 : decode cX2_init 78 = .ok (.invokespecial 11, 3) := by decide +kernel
theorem dX2_init_81 : decode cX2_init 81 = .ok (.putfield 32, 3) := by decide +kernel
theorem dX2_init_84 : decode cX2_init 84 = .ok (.return_, 1) := by decide +kernel
theorem dX2_leavesOn_0 : decode cX2_leavesOn 0 = .ok (.aload_n 0, 1) := by decide +kernel
theorem dX2_leavesOn_1 : decode cX2_leavesOn 1 = .ok (.getfield 14, 3) := by decide +kernel
theorem dX2_leavesOn_4 : decode cX2_leavesOn 4 = .ok (.iload_n 1, 1) := by decide +kernel
theorem dX2_leavesOn_5 : decode cX2_leavesOn 5 = .ok (.invokevirtual 39, 3) := by decide +kernel
theorem dX2_leavesOn_8 : decode cX2_leavesOn 8 = .ok (.ireturn, 1) := by decide +kernel
theorem dX2_arrivesOn_0 : decode cX2_arrivesOn 0 = .ok (.aload_n 0, 1) := by decide +kernel
theorem dX2_arrivesOn_1 : decode cX2_arrivesOn 1 = .ok (.getfield 20, 3) := by decide +kernel
theorem dX2_arrivesOn_4 : decode cX2_arrivesOn 4 = .ok (.iload_n 1, 1) := by decide +kernel
theorem dX2_arrivesOn_5 : decode cX2_arrivesOn 5 = .ok (.invokevirtual 39, 3) := by decide +kernel
theorem dX2_arrivesOn_8 : decode cX2_arrivesOn 8 = .ok (.ireturn, 1) := by decide +kernel
theorem dX2_exitOf_0 : decode cX2_exitOf 0 = .ok (.aload_n 0, 1) := by decide +kernel
theorem dX2_exitOf_1 : decode cX2_exitOf 1 = .ok (.getfield 23, 3) := by decide +kernel
theorem dX2_exitOf_4 : decode cX2_exitOf 4 = .ok (.iload_n 1, 1) := by decide +kernel
theorem dX2_exitOf_5 : decode cX2_exitOf 5 = .ok (.invokevirtual 39, 3) := by decide +kernel
theorem dX2_exitOf_8 : decode cX2_exitOf 8 = .ok (.ireturn, 1) := by decide +kernel
theorem dX2_draw_0 : decode cX2_draw 0 = .ok (.aload_n 1, 1) := by decide +kernel
theorem dX2_draw_1 : decode cX2_draw 1 = .ok (.iconst 1, 1) := by decide +kernel
theorem dX2_draw_2 : decode cX2_draw 2 = .ok (.invokevirtual 43, 3) := by decide +kernel
theorem dX2_draw_5 : decode cX2_draw 5 = .ok (.istore 4, 2) := by decide +kernel
theorem dX2_draw_7 : decode cX2_draw 7 = .ok (.aload_n 0, 1) := by decide +kernel
theorem dX2_draw_8 : decode cX2_draw 8 = .ok (.getfield 29, 3) := by decide +kernel
theorem dX2_draw_11 : decode cX2_draw 11 = .ok (.iconst 0, 1) := by decide +kernel
theorem dX2_draw_12 : decode cX2_draw 12 = .ok (.aload_n 3, 1) := by decide +kernel
theorem dX2_draw_13 : decode cX2_draw 13 = .ok (.invokevirtual 48, 3) := by decide +kernel
theorem dX2_draw_16 : decode cX2_draw 16 = .ok (.iconst 0, 1) := by decide +kernel
theorem dX2_draw_17 : decode cX2_draw 17 = .ok (.invokevirtual 53, 3) := by decide +kernel
theorem dX2_draw_20 : decode cX2_draw 20 = .ok (.aload_n 0, 1) := by decide +kernel
theorem dX2_draw_21 : decode cX2_draw 21 = .ok (.getfield 32, 3) := by decide +kernel
theorem dX2_draw_24 : decode cX2_draw 24 = .ok (.iconst 0, 1) := by decide +kernel
theorem dX2_draw_25 : decode cX2_draw 25 = .ok (.aload_n 3, 1) := by decide +kernel
theorem dX2_draw_26 : decode cX2_draw 26 = .ok (.invokevirtual 48, 3) := by decide +kernel
theorem dX2_draw_29 : decode cX2_draw 29 = .ok (.iconst 0, 1) := by decide +kernel
theorem dX2_draw_30 : decode cX2_draw 30 = .ok (.invokevirtual 53, 3) := by decide +kernel
theorem dX2_draw_33 : decode cX2_draw 33 = .ok (.aload_n 0, 1) := by decide +kernel
theorem dX2_draw_34 : decode cX2_draw 34 = .ok (.iconst 0, 1) := by decide +kernel
theorem dX2_draw_35 : decode cX2_draw 35 = .ok (.putfield 35, 3) := by decide +kernel
theorem dX2_draw_38 : decode cX2_draw 38 = .ok (.iconst 0, 1) := by decide +kernel
theorem dX2_draw_39 : decode cX2_draw 39 = .ok (.istore 5, 2) := by decide +kernel
theorem dX2_draw_41 : decode cX2_draw 41 = .ok (.iload 5, 2) := by decide +kernel
theorem dX2_draw_43 : decode cX2_draw 43 = .ok (.aload_n 1, 1) := by decide +kernel
theorem dX2_draw_44 : decode cX2_draw 44 = .ok (.invokevirtual 57, 3) := by decide +kernel
theorem dX2_draw_47 : decode cX2_draw 47 = .ok (.if_icmp .ge 121, 3) := by decide +kernel
theorem dX2_draw_50 : decode cX2_draw 50 = .ok (.aload_n 1, 1) := by decide +kernel
theorem dX2_draw_51 : decode cX2_draw 51 = .ok (.iload 5, 2) := by decide +kernel
theorem dX2_draw_53 : decode cX2_draw 53 = .ok (.invokevirtual 60, 3) := by decide +kernel
theorem dX2_draw_56 : decode cX2_draw 56 = .ok (.istore 6, 2) := by decide +kernel
theorem dX2_draw_58 : decode cX2_draw 58 = .ok (.aload_n 1, 1) := by decide +kernel
theorem dX2_draw_59 : decode cX2_draw 59 = .ok (.iload 5, 2) := by decide +kernel
theorem dX2_draw_61 : decode cX2_draw 61 = .ok (.invokevirtual 63, 3) := by decide +kernel
theorem dX2_draw_64 : decode cX2_draw 64 = .ok (.istore 7, 2) := by decide +kernel
theorem dX2_draw_66 : decode cX2_draw 66 = .ok (.aload_n 3, 1) := by decide +kernel
theorem dX2_draw_67 : decode cX2_draw 67 = .ok (.aload_n 2, 1) := by decide +kernel
theorem dX2_draw_68 : decode cX2_draw 68 = .ok (.iload 6, 2) := by decide +kernel
theorem dX2_draw_70 : decode cX2_draw 70 = .ok (.invokevirtual 66, 3) := by decide +kernel
theorem dX2_draw_73 : decode cX2_draw 73 = .ok (.aload_n 1, 1) := by decide +kernel
theorem dX2_draw_74 : decode cX2_draw 74 = .ok (.iload 6, 2) := by decide +kernel
theorem dX2_draw_76 : decode cX2_draw 76 = .ok (.invokevirtual 71, 3) := by decide +kernel
theorem dX2_draw_79 : decode cX2_draw 79 = .ok (.iload 4, 2) := by decide +kernel
theorem dX2_draw_81 : decode cX2_draw 81 = .ok (.invokestatic 74, 3) := by decide +kernel
theorem dX2_draw_84 : decode cX2_draw 84 = .ok (.invokevirtual 78, 3) := by decide +kernel
theorem dX2_draw_87 : decode cX2_draw 87 = .ok (.istore 8, 2) := by decide +kernel
theorem dX2_draw_89 : decode cX2_draw 89 = .ok (.aload_n 3, 1) := by decide +kernel
theorem dX2_draw_90 : decode cX2_draw 90 = .ok (.aload_n 2, 1) := by decide +kernel
theorem dX2_draw_91 : decode cX2_draw 91 = .ok (.iload 7, 2) := by decide +kernel
theorem dX2_draw_93 : decode cX2_draw 93 = .ok (.invokevirtual 66, 3) := by decide +kernel
theorem dX2_draw_96 : decode cX2_draw 96 = .ok (.aload_n 1, 1) := by decide +kernel
theorem dX2_draw_97 : decode cX2_draw 97 = .ok (.iload 7, 2) := by decide +kernel
theorem dX2_draw_99 : decode cX2_draw 99 = .ok (.invokevirtual 81, 3) := by decide +kernel
theorem dX2_draw_102 : decode cX2_draw 102 = .ok (.iload 4, 2) := by decide +kernel
theorem dX2_draw_104 : decode cX2_draw 104 = .ok (.invokestatic 74, 3) := by decide +kernel
theorem dX2_draw_107 : decode cX2_draw 107 = .ok (.invokevirtual 78, 3) := by decide +kernel
theorem dX2_draw_110 : decode cX2_draw 110 = .ok (.istore 9, 2) := by decide +kernel
theorem dX2_draw_112 : decode cX2_draw 112 = .ok (.aload_n 0, 1) := by decide +kernel
theorem dX2_draw_113 : decode cX2_draw 113 = .ok (.getfield 14, 3) := by decide +kernel
theorem dX2_draw_116 : decode cX2_draw 116 = .ok (.iload 5, 2) := by decide +kernel
theorem dX2_draw_118 : decode cX2_draw 118 = .ok (.iload 8, 2) := by decide +kernel
theorem dX2_draw_120 : decode cX2_draw 120 = .ok (.invokevirtual 84, 3) := by decide +kernel
theorem dX2_draw_123 : decode cX2_draw 123 = .ok (.aload_n 0, 1) := by decide +kernel
theorem dX2_draw_124 : decode cX2_draw 124 = .ok (.getfield 20, 3) := by decide +kernel
theorem dX2_draw_127 : decode cX2_draw 127 = .ok (.iload 5, 2) := by decide +kernel
theorem dX2_draw_129 : decode cX2_draw 129 = .ok (.iload 9, 2) := by decide +kernel
theorem dX2_draw_131 : decode cX2_draw 131 = .ok (.invokevirtual 84, 3) := by decide +kernel
theorem dX2_draw_134 : decode cX2_draw 134 = .ok (.iload 8, 2) := by decide +kernel
theorem dX2_draw_136 : decode cX2_draw 136 = .ok (.iload 9, 2) := by decide +kernel
theorem dX2_draw_138 : decode cX2_draw 138 = .ok (.if_icmp .ne 14, 3) := by decide +kernel
theorem dX2_draw_141 : decode cX2_draw 141 = .ok (.aload_n 0, 1) := by decide +kernel
theorem dX2_draw_142 : decode cX2_draw 142 = .ok (.iload 5, 2) := by decide +kernel
theorem dX2_draw_144 : decode cX2_draw 144 = .ok (.iload 8, 2) := by decide +kernel
theorem dX2_draw_146 : decode cX2_draw 146 = .ok (.invokevirtual 88, 3) := by decide +kernel
theorem dX2_draw_149 : decode cX2_draw 149 = .ok (.goto 13, 3) := by decide +kernel
theorem dX2_draw_152 : decode cX2_draw 152 = .ok (.aload_n 0, 1) := by decide +kernel
theorem dX2_draw_153 : decode cX2_draw 153 = .ok (.iload 5, 2) := by decide +kernel
theorem dX2_draw_155 : decode cX2_draw 155 = .ok (.iload 8, 2) := by decide +kernel
theorem dX2_draw_157 : decode cX2_draw 157 = .ok (.iload 9, 2) := by decide +kernel
theorem dX2_draw_159 : decode cX2_draw 159 = .ok (.invokevirtual 91, 3) := by decide +kernel
theorem dX2_draw_162 : decode cX2_draw 162 = .ok (.iinc 5 1, 3) := by decide +kernel
theorem dX2_draw_165 : decode cX2_draw 165 = .ok (.goto (-124), 3) := by decide +kernel
theorem dX2_draw_168 : decode cX2_draw 168 = .ok (.return_, 1) := by decide +kernel
theorem dX2_drawInside_0 : decode cX2_drawInside 0 = .ok (.aload_n 0, 1) := by decide +kernel
theorem dX2_drawInside_1 : decode cX2_drawInside 1 = .ok (.getfield 23, 3) := by decide +kernel
theorem dX2_drawInside_4 : decode cX2_drawInside 4 = .ok (.iload_n 1, 1) := by decide +kernel
theorem dX2_drawInside_5 : decode cX2_drawInside 5 = .ok (.iconst (-1), 1) := by decide +kernel
theorem dX2_drawInside_6 : decode cX2_drawInside 6 = .ok (.invokevirtual 84, 3) := by decide +kernel
theorem dX2_drawInside_9 : decode cX2_drawInside 9 = .ok (.aload_n 0, 1) := by decide +kernel
theorem dX2_drawInside_10 : decode cX2_drawInside 10 = .ok (.getfield 32, 3) := by decide +kernel
theorem dX2_drawInside_13 : decode cX2_drawInside 13 = .ok (.iload_n 2, 1) := by decide +kernel
theorem dX2_drawInside_14 : decode cX2_drawInside 14 = .ok (.invokevirtual 94, 3) := by decide +kernel
theorem dX2_drawInside_17 : decode cX2_drawInside 17 = .ok (.return_, 1) := by decide +kernel
theorem dX2_drawThroughExit_0 : decode cX2_drawThroughExit 0 = .ok (.aload_n 0, 1) := by decide +kernel
theorem dX2_drawThroughExit_1 : decode cX2_drawThroughExit 1 = .ok (.dup, 1) := by decide +kernel
theorem dX2_drawThroughExit_2 : decode cX2_drawThroughExit 2 = .ok (.getfield 35, 3) := by decide +kernel
theorem dX2_drawThroughExit_5 : decode cX2_drawThroughExit 5 = .ok (.iconst 1, 1) := by decide +kernel
theorem dX2_drawThroughExit_6 : decode cX2_drawThroughExit 6 = .ok (.iadd, 1) := by decide +kernel
theorem dX2_drawThroughExit_7 : decode cX2_drawThroughExit 7 = .ok (.putfield 35, 3) := by decide +kernel
theorem dX2_drawThroughExit_10 : decode cX2_drawThroughExit 10 = .ok (.aload_n 0, 1) := by decide +kernel
theorem dX2_drawThroughExit_11 : decode cX2_drawThroughExit 11 = .ok (.getfield 23, 3) := by decide +kernel
theorem dX2_drawThroughExit_14 : decode cX2_drawThroughExit 14 = .ok (.iload_n 1, 1) := by decide +kernel
theorem dX2_drawThroughExit_15 : decode cX2_drawThroughExit 15 = .ok (.aload_n 0, 1) := by decide +kernel
theorem dX2_drawThroughExit_16 : decode cX2_drawThroughExit 16 = .ok (.getfield 35, 3) := by decide +kernel
theorem dX2_drawThroughExit_19 : decode cX2_drawThroughExit 19 = .ok (.invokevirtual 84, 3) := by decide +kernel
theorem dX2_drawThroughExit_22 : decode cX2_drawThroughExit 22 = .ok (.aload_n 0, 1) := by decide +kernel
theorem dX2_drawThroughExit_23 : decode cX2_drawThroughExit 23 = .ok (.getfield 26, 3) := by decide +kernel
theorem dX2_drawThroughExit_26 : decode cX2_drawThroughExit 26 = .ok (.aload_n 0, 1) := by decide +kernel
theorem dX2_drawThroughExit_27 : decode cX2_drawThroughExit 27 = .ok (.getfield 35, 3) := by decide +kernel
theorem dX2_drawThroughExit_30 : decode cX2_drawThroughExit 30 = .ok (.iload_n 1, 1) := by decide +kernel
theorem dX2_drawThroughExit_31 : decode cX2_drawThroughExit 31 = .ok (.invokevirtual 84, 3) := by decide +kernel
theorem dX2_drawThroughExit_34 : decode cX2_drawThroughExit 34 = .ok (.aload_n 0, 1) := by decide +kernel
theorem dX2_drawThroughExit_35 : decode cX2_drawThroughExit 35 = .ok (.getfield 29, 3) := by decide +kernel
theorem dX2_drawThroughExit_38 : decode cX2_drawThroughExit 38 = .ok (.iload_n 2, 1) := by decide +kernel
theorem dX2_drawThroughExit_39 : decode cX2_drawThroughExit 39 = .ok (.invokevirtual 94, 3) := by decide +kernel
theorem dX2_drawThroughExit_42 : decode cX2_drawThroughExit 42 = .ok (.aload_n 0, 1) := by decide +kernel
theorem dX2_drawThroughExit_43 : decode cX2_drawThroughExit 43 = .ok (.getfield 29, 3) := by decide +kernel
theorem dX2_drawThroughExit_46 : decode cX2_drawThroughExit 46 = .ok (.iload_n 3, 1) := by decide +kernel
theorem dX2_drawThroughExit_47 : decode cX2_drawThroughExit 47 = .ok (.invokevirtual 94, 3) := by decide +kernel
theorem dX2_drawThroughExit_50 : decode cX2_drawThroughExit 50 = .ok (.return_, 1) := by decide +kernel
theorem dX3_init_0 : decode cX3_init 0 = .ok (.aload_n 0, 1) := by decide +kernel
theorem dX3_init_1 : decode cX3_init 1 = .ok (.invokespecial 3, 3) := by decide +kernel
theorem dX3_init_4 : decode cX3_init 4 = .ok (.aload_n 0, 1) := by decide +kernel
theorem dX3_init_5 : decode cX3_init 5 = .ok (.iconst 4, 1) := by decide +kernel
theorem dX3_init_6 : decode cX3_init 6 = .ok (.anewarray 9, 3) := by decide +kernel
theorem dX3_init_9 : decode cX3_init 9 = .ok (.putfield 11, 3) := by decide +kernel
theorem dX3_init_12 : decode cX3_init 12 = .ok (.iconst 0, 1) := by decide +kernel
theorem dX3_init_13 : decode cX3_init 13 = .ok (.istore_n 1, 1) := by decide +kernel
theorem dX3_init_14 : decode cX3_init 14 = .ok (.iload_n 1, 1) := by decide +kernel
theorem dX3_init_15 : decode cX3_init 15 = .ok (.aload_n 0, 1) := by decide +kernel
theorem dX3_init_16 : decode cX3_init 16 = .ok (.getfield 11, 3) := by decide +kernel
theorem dX3_init_19 : decode cX3_init 19 = .ok (.arraylength, 1) := by decide +kernel
theorem dX3_init_20 : decode cX3_init 20 = .ok (.if_icmp .ge 22, 3) := by decide +kernel
theorem dX3_init_23 : decode cX3_init 23 = .ok (.aload_n 0, 1) := by decide +kernel
theorem dX3_init_24 : decode cX3_init 24 = .ok (.getfield 11, 3) := by decide +kernel
theorem dX3_init_27 : decode cX3_init 27 = .ok (.iload_n 1, 1) := by decide +kernel
theorem dX3_init_28 : decode cX3_init 28 = .ok (.new 9, 3) := by decide +kernel
theorem dX3_init_31 : decode cX3_init 31 = .ok (.dup, 1) := by decide +kernel
theorem dX3_init_32 : decode cX3_init 32 = .ok (.invokespecial 17, 3) := by decide +kernel
theorem dX3_init_35 : decode cX3_init 35 = .ok (.aastore, 1) := by decide +kernel
theorem dX3_init_36 : decode cX3_init 36 = .ok (.iinc 1 1, 3) := by decide +kernel
theorem dX3_init_39 : decode cX3_init 39 = .ok (.goto (-25), 3) := by decide +kernel
theorem dX3_init_42 : decode cX3_init 42 = .ok (.return_, 1) := by decide +kernel
theorem dX3_save_0 : decode cX3_save 0 = .ok (.aload_n 0, 1) := by decide +kernel
theorem dX3_save_1 : decode cX3_save 1 = .ok (.aload_n 0, 1) := by decide +kernel
theorem dX3_save_2 : decode cX3_save 2 = .ok (.getfield 22, 3) := by decide +kernel
theorem dX3_save_5 : decode cX3_save 5 = .ok (.invokevirtual 25, 3) := by decide +kernel
theorem dX3_save_8 : decode cX3_save 8 = .ok (.astore_n 2, 1) := by decide +kernel
theorem dX3_save_9 : decode cX3_save 9 = .ok (.aload_n 2, 1) := by decide +kernel
theorem dX3_save_10 : decode cX3_save 10 = .ok (.ifnull 54, 3) := by decide +kernel
theorem dX3_save_13 : decode cX3_save 13 = .ok (.aload_n 2, 1) := by decide +kernel
theorem dX3_save_14 : decode cX3_save 14 = .ok (.aload_n 1, 1) := by decide +kernel
theorem dX3_save_15 : decode cX3_save 15 = .ok (.invokevirtual 29, 3) := by decide +kernel
theorem dX3_save_18 : decode cX3_save 18 = .ok (.aload_n 0, 1) := by decide +kernel
theorem dX3_save_19 : decode cX3_save 19 = .ok (.aload_n 0, 1) := by decide +kernel
theorem dX3_save_20 : decode cX3_save 20 = .ok (.getfield 22, 3) := by decide +kernel
theorem dX3_save_23 : decode cX3_save 23 = .ok (.iconst 1, 1) := by decide +kernel
theorem dX3_save_24 : decode cX3_save 24 = .ok (.iadd, 1) := by decide +kernel
theorem dX3_save_25 : decode cX3_save 25 = .ok (.iconst 4, 1) := by decide +kernel
theorem dX3_save_26 : decode cX3_save 26 = .ok (.if_icmp .ge 12, 3) := by decide +kernel
theorem dX3_save_29 : decode cX3_save 29 = .ok (.aload_n 0, 1) := by decide +kernel
theorem dX3_save_30 : decode cX3_save 30 = .ok (.getfield 22, 3) := by decide +kernel
theorem dX3_save_33 : decode cX3_save 33 = .ok (.iconst 1, 1) := by decide +kernel
theorem dX3_save_34 : decode cX3_save 34 = .ok (.iadd, 1) := by decide +kernel
theorem dX3_save_35 : decode cX3_save 35 = .ok (.goto 4, 3) := by decide +kernel
theorem dX3_save_38 : decode cX3_save 38 = .ok (.iconst 0, 1) := by decide +kernel
theorem dX3_save_39 : decode cX3_save 39 = .ok (.putfield 22, 3) := by decide +kernel
theorem dX3_save_42 : decode cX3_save 42 = .ok (.aload_n 0, 1) := by decide +kernel
theorem dX3_save_43 : decode cX3_save 43 = .ok (.aload_n 0, 1) := by decide +kernel
theorem dX3_save_44 : decode cX3_save 44 = .ok (.getfield 18, 3) := by decide +kernel
theorem dX3_save_47 : decode cX3_save 47 = .ok (.iconst 4, 1) := by decide +kernel
theorem dX3_save_48 : decode cX3_save 48 = .ok (.if_icmp .ge 12, 3) := by decide +kernel
theorem dX3_save_51 : decode cX3_save 51 = .ok (.aload_n 0, 1) := by decide +kernel
theorem dX3_save_52 : decode cX3_save 52 = .ok (.getfield 18, 3) := by decide +kernel
theorem dX3_save_55 : decode cX3_save 55 = .ok (.iconst 1, 1) := by decide +kernel
theorem dX3_save_56 : decode cX3_save 56 = .ok (.iadd, 1) := by decide +kernel
theorem dX3_save_57 : decode cX3_save 57 = .ok (.goto 4, 3) := by decide +kernel
theorem dX3_save_60 : decode cX3_save 60 = .ok (.iconst 4, 1) := by decide +kernel
theorem dX3_save_61 : decode cX3_save 61 = .ok (.putfield 18, 3) := by decide +kernel
theorem dX3_save_64 : decode cX3_save 64 = .ok (.return_, 1) := by decide +kernel
theorem dX3_slot_0 : decode cX3_slot 0 = .ok (.iload_n 1, 1) := by decide +kernel
theorem dX3_slot_1 : decode cX3_slot 1 = .ok (.ifCond .lt 21, 3) := by decide +kernel
theorem dX3_slot_4 : decode cX3_slot 4 = .ok (.iload_n 1, 1) := by decide +kernel
theorem dX3_slot_5 : decode cX3_slot 5 = .ok (.aload_n 0, 1) := by decide +kernel
theorem dX3_slot_6 : decode cX3_slot 6 = .ok (.getfield 11, 3) := by decide +kernel
theorem dX3_slot_9 : decode cX3_slot 9 = .ok (.arraylength, 1) := by decide +kernel
theorem dX3_slot_10 : decode cX3_slot 10 = .ok (.if_icmp .ge 12, 3) := by decide +kernel
theorem dX3_slot_13 : decode cX3_slot 13 = .ok (.aload_n 0, 1) := by decide +kernel
theorem dX3_slot_14 : decode cX3_slot 14 = .ok (.getfield 11, 3) := by decide +kernel
theorem dX3_slot_17 : decode cX3_slot 17 = .ok (.iload_n 1, 1) := by decide +kernel
theorem dX3_slot_18 : decode cX3_slot 18 = .ok (.aaload, 1) := by decide +kernel
theorem dX3_slot_19 : decode cX3_slot 19 = .ok (.goto 4, 3) := by decide +kernel
theorem dX3_slot_22 : decode cX3_slot 22 = .ok (.aconst_null, 1) := by decide +kernel
theorem dX3_slot_23 : decode cX3_slot 23 = .ok (.areturn, 1) := by decide +kernel
theorem dX4_init_0 : decode cX4_init 0 = .ok (.aload_n 0, 1) := by decide +kernel
theorem dX4_init_1 : decode cX4_init 1 = .ok (.invokespecial 3, 3) := by decide +kernel
theorem dX4_init_4 : decode cX4_init 4 = .ok (.aload_n 0, 1) := by decide +kernel
theorem dX4_init_5 : decode cX4_init 5 = .ok (.iload_n 1, 1) := by decide +kernel
theorem dX4_init_6 : decode cX4_init 6 = .ok (.ifCond .ge 7, 3) := by decide +kernel
theorem dX4_init_9 : decode cX4_init 9 = .ok (.iconst 0, 1) := by decide +kernel
theorem dX4_init_10 : decode cX4_init 10 = .ok (.goto 4, 3) := by decide +kernel
theorem dX4_init_13 : decode cX4_init 13 = .ok (.iload_n 1, 1) := by decide +kernel
theorem dX4_init_14 : decode cX4_init 14 = .ok (.newarray .int, 2) := by decide +kernel
theorem dX4_init_16 : decode cX4_init 16 = .ok (.putfield 9, 3) := by decide +kernel
theorem dX4_init_19 : decode cX4_init 19 = .ok (.return_, 1) := by decide +kernel
theorem dX4_at_0 : decode cX4_at 0 = .ok (.iload_n 1, 1) := by decide +kernel
theorem dX4_at_1 : decode cX4_at 1 = .ok (.ifCond .lt 21, 3) := by decide +kernel
theorem dX4_at_4 : decode cX4_at 4 = .ok (.iload_n 1, 1) := by decide +kernel
theorem dX4_at_5 : decode cX4_at 5 = .ok (.aload_n 0, 1) := by decide +kernel
theorem dX4_at_6 : decode cX4_at 6 = .ok (.getfield 9, 3) := by decide +kernel
theorem dX4_at_9 : decode cX4_at 9 = .ok (.arraylength, 1) := by decide +kernel
theorem dX4_at_10 : decode cX4_at 10 = .ok (.if_icmp .ge 12, 3) := by decide +kernel
theorem dX4_at_13 : decode cX4_at 13 = .ok (.aload_n 0, 1) := by decide +kernel
theorem dX4_at_14 : decode cX4_at 14 = .ok (.getfield 9, 3) := by decide +kernel
theorem dX4_at_17 : decode cX4_at 17 = .ok (.iload_n 1, 1) := by decide +kernel
theorem dX4_at_18 : decode cX4_at 18 = .ok (.iaload, 1) := by decide +kernel
theorem dX4_at_19 : decode cX4_at 19 = .ok (.goto 4, 3) := by decide +kernel
theorem dX4_at_22 : decode cX4_at 22 = .ok (.iconst (-1), 1) := by decide +kernel
theorem dX4_at_23 : decode cX4_at 23 = .ok (.ireturn, 1) := by decide +kernel
theorem dX4_put_0 : decode cX4_put 0 = .ok (.iload_n 1, 1) := by decide +kernel
theorem dX4_put_1 : decode cX4_put 1 = .ok (.ifCond .lt 19, 3) := by decide +kernel
theorem dX4_put_4 : decode cX4_put 4 = .ok (.iload_n 1, 1) := by decide +kernel
theorem dX4_put_5 : decode cX4_put 5 = .ok (.aload_n 0, 1) := by decide +kernel
theorem dX4_put_6 : decode cX4_put 6 = .ok (.getfield 9, 3) := by decide +kernel
theorem dX4_put_9 : decode cX4_put 9 = .ok (.arraylength, 1) := by decide +kernel
theorem dX4_put_10 : decode cX4_put 10 = .ok (.if_icmp .ge 10, 3) := by decide +kernel
theorem dX4_put_13 : decode cX4_put 13 = .ok (.aload_n 0, 1) := by decide +kernel
theorem dX4_put_14 : decode cX4_put 14 = .ok (.getfield 9, 3) := by decide +kernel
theorem dX4_put_17 : decode cX4_put 17 = .ok (.iload_n 1, 1) := by decide +kernel
theorem dX4_put_18 : decode cX4_put 18 = .ok (.iload_n 2, 1) := by decide +kernel
theorem dX4_put_19 : decode cX4_put 19 = .ok (.iastore, 1) := by decide +kernel
theorem dX4_put_20 : decode cX4_put 20 = .ok (.return_, 1) := by decide +kernel
theorem dX4_increase_0 : decode cX4_increase 0 = .ok (.aload_n 0, 1) := by decide +kernel
theorem dX4_increase_1 : decode cX4_increase 1 = .ok (.iload_n 1, 1) := by decide +kernel
theorem dX4_increase_2 : decode cX4_increase 2 = .ok (.aload_n 0, 1) := by decide +kernel
theorem dX4_increase_3 : decode cX4_increase 3 = .ok (.iload_n 1, 1) := by decide +kernel
theorem dX4_increase_4 : decode cX4_increase 4 = .ok (.invokevirtual 15, 3) := by decide +kernel
theorem dX4_increase_7 : decode cX4_increase 7 = .ok (.iconst 1, 1) := by decide +kernel
theorem dX4_increase_8 : decode cX4_increase 8 = .ok (.iadd, 1) := by decide +kernel
theorem dX4_increase_9 : decode cX4_increase 9 = .ok (.invokevirtual 19, 3) := by decide +kernel
theorem dX4_increase_12 : decode cX4_increase 12 = .ok (.return_, 1) := by decide +kernel
theorem dX4_fill_0 : decode cX4_fill 0 = .ok (.iload_n 1, 1) := by decide +kernel
theorem dX4_fill_1 : decode cX4_fill 1 = .ok (.istore 4, 2) := by decide +kernel
theorem dX4_fill_3 : decode cX4_fill 3 = .ok (.iload 4, 2) := by decide +kernel
theorem dX4_fill_5 : decode cX4_fill 5 = .ok (.ifCond .lt 33, 3) := by decide +kernel
theorem dX4_fill_8 : decode cX4_fill 8 = .ok (.iload 4, 2) := by decide +kernel
theorem dX4_fill_10 : decode cX4_fill 10 = .ok (.iload_n 2, 1) := by decide +kernel
theorem dX4_fill_11 : decode cX4_fill 11 = .ok (.if_icmp .ge 27, 3) := by decide +kernel
theorem dX4_fill_14 : decode cX4_fill 14 = .ok (.iload 4, 2) := by decide +kernel
theorem dX4_fill_16 : decode cX4_fill 16 = .ok (.aload_n 0, 1) := by decide +kernel
theorem dX4_fill_17 : decode cX4_fill 17 = .ok (.getfield 9, 3) := by decide +kernel
theorem dX4_fill_20 : decode cX4_fill 20 = .ok (.arraylength, 1) := by decide +kernel
theorem dX4_fill_21 : decode cX4_fill 21 = .ok (.if_icmp .ge 17, 3) := by decide +kernel
theorem dX4_fill_24 : decode cX4_fill 24 = .ok (.aload_n 0, 1) := by decide +kernel
theorem dX4_fill_25 : decode cX4_fill 25 = .ok (.getfield 9, 3) := by decide +kernel
theorem dX4_fill_28 : decode cX4_fill 28 = .ok (.iload 4, 2) := by decide +kernel
theorem dX4_fill_30 : decode cX4_fill 30 = .ok (.iload_n 3, 1) := by decide +kernel
theorem dX4_fill_31 : decode cX4_fill 31 = .ok (.iastore, 1) := by decide +kernel
theorem dX4_fill_32 : decode cX4_fill 32 = .ok (.iinc 4 1, 3) := by decide +kernel
theorem dX4_fill_35 : decode cX4_fill 35 = .ok (.goto (-32), 3) := by decide +kernel
theorem dX4_fill_38 : decode cX4_fill 38 = .ok (.return_, 1) := by decide +kernel
theorem dX4_copy_0 : decode cX4_copy 0 = .ok (.iconst 0, 1) := by decide +kernel
theorem dX4_copy_1 : decode cX4_copy 1 = .ok (.istore_n 2, 1) := by decide +kernel
theorem dX4_copy_2 : decode cX4_copy 2 = .ok (.iload_n 2, 1) := by decide +kernel
theorem dX4_copy_3 : decode cX4_copy 3 = .ok (.aload_n 0, 1) := by decide +kernel
theorem dX4_copy_4 : decode cX4_copy 4 = .ok (.getfield 9, 3) := by decide +kernel
theorem dX4_copy_7 : decode cX4_copy 7 = .ok (.arraylength, 1) := by decide +kernel
theorem dX4_copy_8 : decode cX4_copy 8 = .ok (.if_icmp .ge 30, 3) := by decide +kernel
theorem dX4_copy_11 : decode cX4_copy 11 = .ok (.iload_n 2, 1) := by decide +kernel
theorem dX4_copy_12 : decode cX4_copy 12 = .ok (.aload_n 1, 1) := by decide +kernel
theorem dX4_copy_13 : decode cX4_copy 13 = .ok (.getfield 9, 3) := by decide +kernel
theorem dX4_copy_16 : decode cX4_copy 16 = .ok (.arraylength, 1) := by decide +kernel
theorem dX4_copy_17 : decode cX4_copy 17 = .ok (.if_icmp .ge 21, 3) := by decide +kernel
theorem dX4_copy_20 : decode cX4_copy 20 = .ok (.aload_n 0, 1) := by decide +kernel
theorem dX4_copy_21 : decode cX4_copy 21 = .ok (.getfield 9, 3) := by decide +kernel
theorem dX4_copy_24 : decode cX4_copy 24 = .ok (.iload_n 2, 1) := by decide +kernel
theorem dX4_copy_25 : decode cX4_copy 25 = .ok (.aload_n 1, 1) := by decide +kernel
theorem dX4_copy_26 : decode cX4_copy 26 = .ok (.getfield 9, 3) := by decide +kernel
theorem dX4_copy_29 : decode cX4_copy 29 = .ok (.iload_n 2, 1) := by decide +kernel
theorem dX4_copy_30 : decode cX4_copy 30 = .ok (.iaload, 1) := by decide +kernel
theorem dX4_copy_31 : decode cX4_copy 31 = .ok (.iastore, 1) := by decide +kernel
theorem dX4_copy_32 : decode cX4_copy 32 = .ok (.iinc 2 1, 3) := by decide +kernel
theorem dX4_copy_35 : decode cX4_copy 35 = .ok (.goto (-33), 3) := by decide +kernel
theorem dX4_copy_38 : decode cX4_copy 38 = .ok (.return_, 1) := by decide +kernel
theorem dX4_closeGap_0 : decode cX4_closeGap 0 = .ok (.iload_n 1, 1) := by decide +kernel
theorem dX4_closeGap_1 : decode cX4_closeGap 1 = .ok (.istore_n 2, 1) := by decide +kernel
theorem dX4_closeGap_2 : decode cX4_closeGap 2 = .ok (.iload_n 2, 1) := by decide +kernel
theorem dX4_closeGap_3 : decode cX4_closeGap 3 = .ok (.ifCond .lt 34, 3) := by decide +kernel
theorem dX4_closeGap_6 : decode cX4_closeGap 6 = .ok (.iload_n 2, 1) := by decide +kernel
theorem dX4_closeGap_7 : decode cX4_closeGap 7 = .ok (.aload_n 0, 1) := by decide +kernel
theorem dX4_closeGap_8 : decode cX4_closeGap 8 = .ok (.getfield 9, 3) := by decide +kernel
theorem dX4_closeGap_11 : decode cX4_closeGap 11 = .ok (.arraylength, 1) := by decide +kernel
theorem dX4_closeGap_12 : decode cX4_closeGap 12 = .ok (.iconst 1, 1) := by decide +kernel
theorem dX4_closeGap_13 : decode cX4_closeGap 13 = .ok (.isub, 1) := by decide +kernel
theorem dX4_closeGap_14 : decode cX4_closeGap 14 = .ok (.if_icmp .ge 23, 3) := by decide +kernel
theorem dX4_closeGap_17 : decode cX4_closeGap 17 = .ok (.aload_n 0, 1) := by decide +kernel
theorem dX4_closeGap_18 : decode cX4_closeGap 18 = .ok (.getfield 9, 3) := by decide +kernel
theorem dX4_closeGap_21 : decode cX4_closeGap 21 = .ok (.iload_n 2, 1) := by decide +kernel
theorem dX4_closeGap_22 : decode cX4_closeGap 22 = .ok (.aload_n 0, 1) := by decide +kernel
theorem dX4_closeGap_23 : decode cX4_closeGap 23 = .ok (.getfield 9, 3) := by decide +kernel
theorem dX4_closeGap_26 : decode cX4_closeGap 26 = .ok (.iload_n 2, 1) := by decide +kernel
theorem dX4_closeGap_27 : decode cX4_closeGap 27 = .ok (.iconst 1, 1) := by decide +kernel
theorem dX4_closeGap_28 : decode cX4_closeGap 28 = .ok (.iadd, 1) := by decide +kernel
theorem dX4_closeGap_29 : decode cX4_closeGap 29 = .ok (.iaload, 1) := by decide +kernel
theorem dX4_closeGap_30 : decode cX4_closeGap 30 = .ok (.iastore, 1) := by decide +kernel
theorem dX4_closeGap_31 : decode cX4_closeGap 31 = .ok (.iinc 2 1, 3) := by decide +kernel
theorem dX4_closeGap_34 : decode cX4_closeGap 34 = .ok (.goto (-32), 3) := by decide +kernel
theorem dX4_closeGap_37 : decode cX4_closeGap 37 = .ok (.return_, 1) := by decide +kernel
theorem dX5_init_0 : decode cX5_init 0 = .ok (.aload_n 0, 1) := by decide +kernel
theorem dX5_init_1 : decode cX5_init 1 = .ok (.invokespecial 3, 3) := by decide +kernel
theorem dX5_init_4 : decode cX5_init 4 = .ok (.aload_n 0, 1) := by decide +kernel
theorem dX5_init_5 : decode cX5_init 5 = .ok (.new 9, 3) := by decide +kernel
theorem dX5_init_8 : decode cX5_init 8 = .ok (.dup, 1) := by decide +kernel
theorem dX5_init_9 : decode cX5_init 9 = .ok (.iconst 4, 1) := by decide +kernel
theorem dX5_init_10 : decode cX5_init 10 = .ok (.invokespecial 11, 3) := by decide +kernel
theorem dX5_init_13 : decode cX5_init 13 = .ok (.putfield 14, 3) := by decide +kernel
theorem dX5_init_16 : decode cX5_init 16 = .ok (.aload_n 0, 1) := by decide +kernel
theorem dX5_init_17 : decode cX5_init 17 = .ok (.new 9, 3) := by decide +kernel
theorem dX5_init_20 : decode cX5_init 20 = .ok (.dup, 1) := by decide +kernel
theorem dX5_init_21 : decode cX5_init 21 = .ok (.bipush 24, 2) := by decide +kernel
theorem dX5_init_23 : decode cX5_init 23 = .ok (.invokespecial 11, 3) := by decide +kernel
theorem dX5_init_26 : decode cX5_init 26 = .ok (.putfield 20, 3) := by decide +kernel
theorem dX5_init_29 : decode cX5_init 29 = .ok (.aload_n 0, 1) := by decide +kernel
theorem dX5_init_30 : decode cX5_init 30 = .ok (.new 9, 3) := by decide +kernel
theorem dX5_init_33 : decode cX5_init 33 = .ok (.dup, 1) := by decide +kernel
theorem dX5_init_34 : decode cX5_init 34 = .ok (.bipush 24, 2) := by decide +kernel
theorem dX5_init_36 : decode cX5_init 36 = .ok (.invokespecial 11, 3) := by decide +kernel
theorem dX5_init_39 : decode cX5_init 39 = .ok (.putfield 23, 3) := by decide +kernel
theorem dX5_init_42 : decode cX5_init 42 = .ok (.aload_n 0, 1) := by decide +kernel
theorem dX5_init_43 : decode cX5_init 43 = .ok (.new 9, 3) := by decide +kernel
theorem dX5_init_46 : decode cX5_init 46 = .ok (.dup, 1) := by decide +kernel
theorem dX5_init_47 : decode cX5_init 47 = .ok (.bipush 24, 2) := by decide +kernel
theorem dX5_init_49 : decode cX5_init 49 = .ok (.invokespecial 11, 3) := by decide +kernel
theorem dX5_init_52 : decode cX5_init 52 = .ok (.putfield 26, 3) := by decide +kernel
theorem dX5_init_55 : decode cX5_init 55 = .ok (.aload_n 0, 1) := by decide +kernel
theorem dX5_init_56 : decode cX5_init 56 = .ok (.new 9, 3) := by decide +kernel
theorem dX5_init_59 : decode cX5_init 59 = .ok (.dup, 1) := by decide +kernel
theorem dX5_init_60 : decode cX5_init 60 = .ok (.bipush 30, 2) := by decide +kernel
theorem dX5_init_62 : decode cX5_init 62 = .ok (.invokespecial 11, 3) := by decide +kernel
theorem dX5_init_65 : decode cX5_init 65 = .ok (.putfield 29, 3) := by decide +kernel
theorem dX5_init_68 : decode cX5_init 68 = .ok (.aload_n 0, 1) := by decide +kernel
theorem dX5_init_69 : decode cX5_init 69 = .ok (.new 9, 3) := by decide +kernel
theorem dX5_init_72 : decode cX5_init 72 = .ok (.dup, 1) := by decide +kernel
theorem dX5_init_73 : decode cX5_init 73 = .ok (.bipush 30, 2) := by decide +kernel
theorem dX5_init_75 : decode cX5_init 75 = .ok (.invokespecial 11, 3) := by decide +kernel
theorem dX5_init_78 : decode cX5_init 78 = .ok (.putfield 32, 3) := by decide +kernel
theorem dX5_init_81 : decode cX5_init 81 = .ok (.iconst 0, 1) := by decide +kernel
theorem dX5_init_82 : decode cX5_init 82 = .ok (.istore_n 1, 1) := by decide +kernel
theorem dX5_init_83 : decode cX5_init 83 = .ok (.iload_n 1, 1) := by decide +kernel
theorem dX5_init_84 : decode cX5_init 84 = .ok (.getstatic 35, 3) := by decide +kernel
theorem dX5_init_87 : decode cX5_init 87 = .ok (.arraylength, 1) := by decide +kernel
theorem dX5_init_88 : decode cX5_init 88 = .ok (.if_icmp .ge 22, 3) := by decide +kernel
theorem dX5_init_91 : decode cX5_init 91 = .ok (.aload_n 0, 1) := by decide +kernel
theorem dX5_init_92 : decode cX5_init 92 = .ok (.getfield 14, 3) := by decide +kernel
theorem dX5_init_95 : decode cX5_init 95 = .ok (.iload_n 1, 1) := by decide +kernel
theorem dX5_init_96 : decode cX5_init 96 = .ok (.getstatic 35, 3) := by decide +kernel
theorem dX5_init_99 : decode cX5_init 99 = .ok (.iload_n 1, 1) := by decide +kernel
theorem dX5_init_100 : decode cX5_init 100 = .ok (.iaload, 1) := by decide +kernel
theorem dX5_init_101 : decode cX5_init 101 = .ok (.invokevirtual 39, 3) := by decide +kernel
theorem dX5_init_104 : decode cX5_init 104 = .ok (.iinc 1 1, 3) := by decide +kernel
theorem dX5_init_107 : decode cX5_init 107 = .ok (.goto (-24), 3) := by decide +kernel
theorem dX5_init_110 : decode cX5_init 110 = .ok (.return_, 1) := by decide +kernel
theorem dX5_setting_0 : decode cX5_setting 0 = .ok (.aload_n 0, 1) := by decide +kernel
theorem dX5_setting_1 : decode cX5_setting 1 = .ok (.getfield 14, 3) := by decide +kernel
theorem dX5_setting_4 : decode cX5_setting 4 = .ok (.iload_n 1, 1) := by decide +kernel
theorem dX5_setting_5 : decode cX5_setting 5 = .ok (.invokevirtual 43, 3) := by decide +kernel
theorem dX5_setting_8 : decode cX5_setting 8 = .ok (.ireturn, 1) := by decide +kernel
theorem dX5_putSetting_0 : decode cX5_putSetting 0 = .ok (.aload_n 0, 1) := by decide +kernel
theorem dX5_putSetting_1 : decode cX5_putSetting 1 = .ok (.getfield 14, 3) := by decide +kernel
theorem dX5_putSetting_4 : decode cX5_putSetting 4 = .ok (.iload_n 1, 1) := by decide +kernel
theorem dX5_putSetting_5 : decode cX5_putSetting 5 = .ok (.iload_n 2, 1) := by decide +kernel
theorem dX5_putSetting_6 : decode cX5_putSetting 6 = .ok (.invokevirtual 39, 3) := by decide +kernel
theorem dX5_putSetting_9 : decode cX5_putSetting 9 = .ok (.return_, 1) := by decide +kernel
theorem dX5_taskCount_0 : decode cX5_taskCount 0 = .ok (.aload_n 0, 1) := by decide +kernel
theorem dX5_taskCount_1 : decode cX5_taskCount 1 = .ok (.getfield 47, 3) := by decide +kernel
theorem dX5_taskCount_4 : decode cX5_taskCount 4 = .ok (.ireturn, 1) := by decide +kernel
theorem dX5_arrowCount_0 : decode cX5_arrowCount 0 = .ok (.aload_n 0, 1) := by decide +kernel
theorem dX5_arrowCount_1 : decode cX5_arrowCount 1 = .ok (.getfield 51, 3) := by decide +kernel
theorem dX5_arrowCount_4 : decode cX5_arrowCount 4 = .ok (.ireturn, 1) := by decide +kernel
theorem dX5_hasTask_0 : decode cX5_hasTask 0 = .ok (.iload_n 1, 1) := by decide +kernel
theorem dX5_hasTask_1 : decode cX5_hasTask 1 = .ok (.ifCond .lt 15, 3) := by decide +kernel
theorem dX5_hasTask_4 : decode cX5_hasTask 4 = .ok (.iload_n 1, 1) := by decide +kernel
theorem dX5_hasTask_5 : decode cX5_hasTask 5 = .ok (.aload_n 0, 1) := by decide +kernel
theorem dX5_hasTask_6 : decode cX5_hasTask 6 = .ok (.getfield 47, 3) := by decide +kernel
theorem dX5_hasTask_9 : decode cX5_hasTask 9 = .ok (.if_icmp .ge 7, 3) := by decide +kernel
theorem dX5_hasTask_12 : decode cX5_hasTask 12 = .ok (.iconst 1, 1) := by decide +kernel
theorem dX5_hasTask_13 : decode cX5_hasTask 13 = .ok (.goto 4, 3) := by decide +kernel
theorem dX5_hasTask_16 : decode cX5_hasTask 16 = .ok (.iconst 0, 1) := by decide +kernel
theorem dX5_hasTask_17 : decode cX5_hasTask 17 = .ok (.ireturn, 1) := by decide +kernel
theorem dX5_hasArrow_0 : decode cX5_hasArrow 0 = .ok (.iload_n 1, 1) := by decide +kernel
theorem dX5_hasArrow_1 : decode cX5_hasArrow 1 = .ok (.ifCond .lt 15, 3) := by decide +kernel
theorem dX5_hasArrow_4 : decode cX5_hasArrow 4 = .ok (.iload_n 1, 1) := by decide +kernel
theorem dX5_hasArrow_5 : decode cX5_hasArrow 5 = .ok (.aload_n 0, 1) := by decide +kernel
theorem dX5_hasArrow_6 : decode cX5_hasArrow 6 = .ok (.getfield 51, 3) := by decide +kernel
theorem dX5_hasArrow_9 : decode cX5_hasArrow 9 = .ok (.if_icmp .ge 7, 3) := by decide +kernel
theorem dX5_hasArrow_12 : decode cX5_hasArrow 12 = .ok (.iconst 1, 1) := by decide +kernel
theorem dX5_hasArrow_13 : decode cX5_hasArrow 13 = .ok (.goto 4, 3) := by decide +kernel
theorem dX5_hasArrow_16 : decode cX5_hasArrow 16 = .ok (.iconst 0, 1) := by decide +kernel
theorem dX5_hasArrow_17 : decode cX5_hasArrow 17 = .ok (.ireturn, 1) := by decide +kernel
theorem dX5_group_0 : decode cX5_group 0 = .ok (.aload_n 0, 1) := by decide +kernel
theorem dX5_group_1 : decode cX5_group 1 = .ok (.getfield 20, 3) := by decide +kernel
theorem dX5_group_4 : decode cX5_group 4 = .ok (.iload_n 1, 1) := by decide +kernel
theorem dX5_group_5 : decode cX5_group 5 = .ok (.invokevirtual 43, 3) := by decide +kernel
theorem dX5_group_8 : decode cX5_group 8 = .ok (.ireturn, 1) := by decide +kernel
theorem dX5_first_0 : decode cX5_first 0 = .ok (.aload_n 0, 1) := by decide +kernel
theorem dX5_first_1 : decode cX5_first 1 = .ok (.getfield 23, 3) := by decide +kernel
theorem dX5_first_4 : decode cX5_first 4 = .ok (.iload_n 1, 1) := by decide +kernel
theorem dX5_first_5 : decode cX5_first 5 = .ok (.invokevirtual 43, 3) := by decide +kernel
theorem dX5_first_8 : decode cX5_first 8 = .ok (.ireturn, 1) := by decide +kernel
theorem dX5_length_0 : decode cX5_length 0 = .ok (.aload_n 0, 1) := by decide +kernel
theorem dX5_length_1 : decode cX5_length 1 = .ok (.getfield 26, 3) := by decide +kernel
theorem dX5_length_4 : decode cX5_length 4 = .ok (.iload_n 1, 1) := by decide +kernel
theorem dX5_length_5 : decode cX5_length 5 = .ok (.invokevirtual 43, 3) := by decide +kernel
theorem dX5_length_8 : decode cX5_length 8 = .ok (.ireturn, 1) := by decide +kernel
theorem dX5_last_0 : decode cX5_last 0 = .ok (.aload_n 0, 1) := by decide +kernel
theorem dX5_last_1 : decode cX5_last 1 = .ok (.getfield 23, 3) := by decide +kernel
theorem dX5_last_4 : decode cX5_last 4 = .ok (.iload_n 1, 1) := by decide +kernel
theorem dX5_last_5 : decode cX5_last 5 = .ok (.invokevirtual 43, 3) := by decide +kernel
theorem dX5_last_8 : decode cX5_last 8 = .ok (.aload_n 0, 1) := by decide +kernel
theorem dX5_last_9 : decode cX5_last 9 = .ok (.getfield 26, 3) := by decide +kernel
theorem dX5_last_12 : decode cX5_last 12 = .ok (.iload_n 1, 1) := by decide +kernel
theorem dX5_last_13 : decode cX5_last 13 = .ok (.invokevirtual 43, 3) := by decide +kernel
theorem dX5_last_16 : decode cX5_last 16 = .ok (.iadd, 1) := by decide +kernel
theorem dX5_last_17 : decode cX5_last 17 = .ok (.iconst 1, 1) := by decide +kernel
theorem dX5_last_18 : decode cX5_last 18 = .ok (.isub, 1) := by decide +kernel
theorem dX5_last_19 : decode cX5_last 19 = .ok (.ireturn, 1) := by decide +kernel
theorem dX5_from_0 : decode cX5_from 0 = .ok (.aload_n 0, 1) := by decide +kernel
theorem dX5_from_1 : decode cX5_from 1 = .ok (.getfield 29, 3) := by decide +kernel
theorem dX5_from_4 : decode cX5_from 4 = .ok (.iload_n 1, 1) := by decide +kernel
theorem dX5_from_5 : decode cX5_from 5 = .ok (.invokevirtual 43, 3) := by decide +kernel
theorem dX5_from_8 : decode cX5_from 8 = .ok (.ireturn, 1) := by decide +kernel
theorem dX5_to_0 : decode cX5_to 0 = .ok (.aload_n 0, 1) := by decide +kernel
theorem dX5_to_1 : decode cX5_to 1 = .ok (.getfield 32, 3) := by decide +kernel
theorem dX5_to_4 : decode cX5_to 4 = .ok (.iload_n 1, 1) := by decide +kernel
theorem dX5_to_5 : decode cX5_to 5 = .ok (.invokevirtual 43, 3) := by decide +kernel
theorem dX5_to_8 : decode cX5_to 8 = .ok (.ireturn, 1) := by decide +kernel
theorem dX5_isLate_0 : decode cX5_isLate 0 = .ok (.aload_n 0, 1) := by decide +kernel
theorem dX5_isLate_1 : decode cX5_isLate 1 = .ok (.aload_n 0, 1) := by decide +kernel
theorem dX5_isLate_2 : decode cX5_isLate 2 = .ok (.iload_n 1, 1) := by decide +kernel
theorem dX5_isLate_3 : decode cX5_isLate 3 = .ok (.invokevirtual 54, 3) := by decide +kernel
theorem dX5_isLate_6 : decode cX5_isLate 6 = .ok (.invokevirtual 57, 3) := by decide +kernel
theorem dX5_isLate_9 : decode cX5_isLate 9 = .ok (.aload_n 0, 1) := by decide +kernel
theorem dX5_isLate_10 : decode cX5_isLate 10 = .ok (.aload_n 0, 1) := by decide +kernel
theorem dX5_isLate_11 : decode cX5_isLate 11 = .ok (.iload_n 1, 1) := by decide +kernel
theorem dX5_isLate_12 : decode cX5_isLate 12 = .ok (.invokevirtual 60, 3) := by decide +kernel
theorem dX5_isLate_15 : decode cX5_isLate 15 = .ok (.invokevirtual 63, 3) := by decide +kernel
theorem dX5_isLate_18 : decode cX5_isLate 18 = .ok (.if_icmp .gt 7, 3) := by decide +kernel
theorem dX5_isLate_21 : decode cX5_isLate 21 = .ok (.iconst 1, 1) := by decide +kernel
theorem dX5_isLate_22 : decode cX5_isLate 22 = .ok (.goto 4, 3) := by decide +kernel
theorem dX5_isLate_25 : decode cX5_isLate 25 = .ok (.iconst 0, 1) := by decide +kernel
theorem dX5_isLate_26 : decode cX5_isLate 26 = .ok (.ireturn, 1) := by decide +kernel
theorem dX5_hasArrowBetween_0 : decode cX5_hasArrowBetween 0 = .ok (.iconst 0, 1) := by decide +kernel
theorem dX5_hasArrowBetween_1 : decode cX5_hasArrowBetween 1 = .ok (.istore_n 3, 1) := by decide +kernel
theorem dX5_hasArrowBetween_2 : decode cX5_hasArrowBetween 2 = .ok (.iload_n 3, 1) := by decide +kernel
theorem dX5_hasArrowBetween_3 : decode cX5_hasArrowBetween 3 = .ok (.aload_n 0, 1) := by decide +kernel
theorem dX5_hasArrowBetween_4 : decode cX5_hasArrowBetween 4 = .ok (.getfield 51, 3) := by decide +kernel
theorem dX5_hasArrowBetween_7 : decode cX5_hasArrowBetween 7 = .ok (.if_icmp .ge 29, 3) := by decide +kernel
theorem dX5_hasArrowBetween_10 : decode cX5_hasArrowBetween 10 = .ok (.aload_n 0, 1) := by decide +kernel
theorem dX5_hasArrowBetween_11 : decode cX5_hasArrowBetween 11 = .ok (.iload_n 3, 1) := by decide +kernel
theorem dX5_hasArrowBetween_12 : decode cX5_hasArrowBetween 12 = .ok (.invokevirtual 60, 3) := by decide +kernel
theorem dX5_hasArrowBetween_15 : decode cX5_hasArrowBetween 15 = .ok (.iload_n 1, 1) := by decide +kernel
theorem dX5_hasArrowBetween_16 : decode cX5_hasArrowBetween 16 = .ok (.if_icmp .ne 14, 3) := by decide +kernel
theorem dX5_hasArrowBetween_19 : decode cX5_hasArrowBetween 19 = .ok (.aload_n 0, 1) := by decide +kernel
theorem dX5_hasArrowBetween_20 : decode cX5_hasArrowBetween 20 = .ok (.iload_n 3, 1) := by decide +kernel
theorem dX5_hasArrowBetween_21 : decode cX5_hasArrowBetween 21 = .ok (.invokevirtual 54, 3) := by decide +kernel
theorem dX5_hasArrowBetween_24 : decode cX5_hasArrowBetween 24 = .ok (.iload_n 2, 1) := by decide +kernel
theorem dX5_hasArrowBetween_25 : decode cX5_hasArrowBetween 25 = .ok (.if_icmp .ne 5, 3) := by decide +kernel
theorem dX5_hasArrowBetween_28 : decode cX5_hasArrowBetween 28 = .ok (.iconst 1, 1) := by decide +kernel
theorem dX5_hasArrowBetween_29 : decode cX5_hasArrowBetween 29 = .ok (.ireturn, 1) := by decide +kernel
theorem dX5_hasArrowBetween_30 : decode cX5_hasArrowBetween 30 = .ok (.iinc 3 1, 3) := by decide +kernel
theorem dX5_hasArrowBetween_33 : decode cX5_hasArrowBetween 33 = .ok (.goto (-31), 3) := by decide +kernel
theorem dX5_hasArrowBetween_36 : decode cX5_hasArrowBetween 36 = .ok (.iconst 0, 1) := by decide +kernel
theorem dX5_hasArrowBetween_37 : decode cX5_hasArrowBetween 37 = .ok (.ireturn, 1) := by decide +kernel
theorem dX5_tellTask_0 : decode cX5_tellTask 0 = .ok (.aload_n 0, 1) := by decide +kernel
theorem dX5_tellTask_1 : decode cX5_tellTask 1 = .ok (.getfield 47, 3) := by decide +kernel
theorem dX5_tellTask_4 : decode cX5_tellTask 4 = .ok (.bipush 24, 2) := by decide +kernel
theorem dX5_tellTask_6 : decode cX5_tellTask 6 = .ok (.if_icmp .lt 5, 3) := by decide +kernel
theorem dX5_tellTask_9 : decode cX5_tellTask 9 = .ok (.iconst (-1), 1) := by decide +kernel
theorem dX5_tellTask_10 : decode cX5_tellTask 10 = .ok (.ireturn, 1) := by decide +kernel
theorem dX5_tellTask_11 : decode cX5_tellTask 11 = .ok (.aload_n 0, 1) := by decide +kernel
theorem dX5_tellTask_12 : decode cX5_tellTask 12 = .ok (.getfield 20, 3) := by decide +kernel
theorem dX5_tellTask_15 : decode cX5_tellTask 15 = .ok (.aload_n 0, 1) := by decide +kernel
theorem dX5_tellTask_16 : decode cX5_tellTask 16 = .ok (.getfield 47, 3) := by decide +kernel
theorem dX5_tellTask_19 : decode cX5_tellTask 19 = .ok (.iload_n 1, 1) := by decide +kernel
theorem dX5_tellTask_20 : decode cX5_tellTask 20 = .ok (.invokevirtual 39, 3) := by decide +kernel
theorem dX5_tellTask_23 : decode cX5_tellTask 23 = .ok (.aload_n 0, 1) := by decide +kernel
theorem dX5_tellTask_24 : decode cX5_tellTask 24 = .ok (.aload_n 0, 1) := by decide +kernel
theorem dX5_tellTask_25 : decode cX5_tellTask 25 = .ok (.getfield 47, 3) := by decide +kernel
theorem dX5_tellTask_28 : decode cX5_tellTask 28 = .ok (.iload_n 2, 1) := by decide +kernel
theorem dX5_tellTask_29 : decode cX5_tellTask 29 = .ok (.iload_n 3, 1) := by decide +kernel
theorem dX5_tellTask_30 : decode cX5_tellTask 30 = .ok (.invokevirtual 73, 3) := by decide +kernel
theorem dX5_tellTask_33 : decode cX5_tellTask 33 = .ok (.aload_n 0, 1) := by decide +kernel
theorem dX5_tellTask_34 : decode cX5_tellTask 34 = .ok (.dup, 1) := by decide +kernel
theorem dX5_tellTask_35 : decode cX5_tellTask 35 = .ok (.getfield 47, 3) := by decide +kernel
theorem dX5_tellTask_38 : decode cX5_tellTask 38 = .ok (.iconst 1, 1) := by decide +kernel
theorem dX5_tellTask_39 : decode cX5_tellTask 39 = .ok (.iadd, 1) := by decide +kernel
theorem dX5_tellTask_40 : decode cX5_tellTask 40 = .ok (.putfield 47, 3) := by decide +kernel
theorem dX5_tellTask_43 : decode cX5_tellTask 43 = .ok (.aload_n 0, 1) := by decide +kernel
theorem dX5_tellTask_44 : decode cX5_tellTask 44 = .ok (.getfield 47, 3) := by decide +kernel
theorem dX5_tellTask_47 : decode cX5_tellTask 47 = .ok (.iconst 1, 1) := by decide +kernel
theorem dX5_tellTask_48 : decode cX5_tellTask 48 = .ok (.isub, 1) := by decide +kernel
theorem dX5_tellTask_49 : decode cX5_tellTask 49 = .ok (.ireturn, 1) := by decide +kernel
theorem dX5_putBar_0 : decode cX5_putBar 0 = .ok (.aload_n 0, 1) := by decide +kernel
theorem dX5_putBar_1 : decode cX5_putBar 1 = .ok (.getfield 23, 3) := by decide +kernel
theorem dX5_putBar_4 : decode cX5_putBar 4 = .ok (.iload_n 1, 1) := by decide +kernel
theorem dX5_putBar_5 : decode cX5_putBar 5 = .ok (.iload_n 2, 1) := by decide +kernel
theorem dX5_putBar_6 : decode cX5_putBar 6 = .ok (.invokevirtual 39, 3) := by decide +kernel
theorem dX5_putBar_9 : decode cX5_putBar 9 = .ok (.aload_n 0, 1) := by decide +kernel
theorem dX5_putBar_10 : decode cX5_putBar 10 = .ok (.getfield 26, 3) := by decide +kernel
theorem dX5_putBar_13 : decode cX5_putBar 13 = .ok (.iload_n 1, 1) := by decide +kernel
theorem dX5_putBar_14 : decode cX5_putBar 14 = .ok (.iload_n 3, 1) := by decide +kernel
theorem dX5_putBar_15 : decode cX5_putBar 15 = .ok (.invokevirtual 39, 3) := by decide +kernel
theorem dX5_putBar_18 : decode cX5_putBar 18 = .ok (.return_, 1) := by decide +kernel
theorem dX5_tellArrow_0 : decode cX5_tellArrow 0 = .ok (.aload_n 0, 1) := by decide +kernel
theorem dX5_tellArrow_1 : decode cX5_tellArrow 1 = .ok (.getfield 51, 3) := by decide +kernel
theorem dX5_tellArrow_4 : decode cX5_tellArrow 4 = .ok (.bipush 30, 2) := by decide +kernel
theorem dX5_tellArrow_6 : decode cX5_tellArrow 6 = .ok (.if_icmp .lt 5, 3) := by decide +kernel
theorem dX5_tellArrow_9 : decode cX5_tellArrow 9 = .ok (.iconst (-1), 1) := by decide +kernel
theorem dX5_tellArrow_10 : decode cX5_tellArrow 10 = .ok (.ireturn, 1) := by decide +kernel
theorem dX5_tellArrow_11 : decode cX5_tellArrow 11 = .ok (.aload_n 0, 1) := by decide +kernel
theorem dX5_tellArrow_12 : decode cX5_tellArrow 12 = .ok (.getfield 29, 3) := by decide +kernel
theorem dX5_tellArrow_15 : decode cX5_tellArrow 15 = .ok (.aload_n 0, 1) := by decide +kernel
theorem dX5_tellArrow_16 : decode cX5_tellArrow 16 = .ok (.getfield 51, 3) := by decide +kernel
theorem dX5_tellArrow_19 : decode cX5_tellArrow 19 = .ok (.iload_n 1, 1) := by decide +kernel
theorem dX5_tellArrow_20 : decode cX5_tellArrow 20 = .ok (.invokevirtual 39, 3) := by decide +kernel
theorem dX5_tellArrow_23 : decode cX5_tellArrow 23 = .ok (.aload_n 0, 1) := by decide +kernel
theorem dX5_tellArrow_24 : decode cX5_tellArrow 24 = .ok (.getfield 32, 3) := by decide +kernel
theorem dX5_tellArrow_27 : decode cX5_tellArrow 27 = .ok (.aload_n 0, 1) := by decide +kernel
theorem dX5_tellArrow_28 : decode cX5_tellArrow 28 = .ok (.getfield 51, 3) := by decide +kernel
theorem dX5_tellArrow_31 : decode cX5_tellArrow 31 = .ok (.iload_n 2, 1) := by decide +kernel
theorem dX5_tellArrow_32 : decode cX5_tellArrow 32 = .ok (.invokevirtual 39, 3) := by decide +kernel
theorem dX5_tellArrow_35 : decode cX5_tellArrow 35 = .ok (.aload_n 0, 1) := by decide +kernel
theorem dX5_tellArrow_36 : decode cX5_tellArrow 36 = .ok (.dup, 1) := by decide +kernel
theorem dX5_tellArrow_37 : decode cX5_tellArrow 37 = .ok (.getfield 51, 3) := by decide +kernel
theorem dX5_tellArrow_40 : decode cX5_tellArrow 40 = .ok (.iconst 1, 1) := by decide +kernel
theorem dX5_tellArrow_41 : decode cX5_tellArrow 41 = .ok (.iadd, 1) := by decide +kernel
theorem dX5_tellArrow_42 : decode cX5_tellArrow 42 = .ok (.putfield 51, 3) := by decide +kernel
theorem dX5_tellArrow_45 : decode cX5_tellArrow 45 = .ok (.aload_n 0, 1) := by decide +kernel
theorem dX5_tellArrow_46 : decode cX5_tellArrow 46 = .ok (.getfield 51, 3) := by decide +kernel
theorem dX5_tellArrow_49 : decode cX5_tellArrow 49 = .ok (.iconst 1, 1) := by decide +kernel
theorem dX5_tellArrow_50 : decode cX5_tellArrow 50 = .ok (.isub, 1) := by decide +kernel
theorem dX5_tellArrow_51 : decode cX5_tellArrow 51 = .ok (.ireturn, 1) := by decide +kernel
theorem dX5_dropArrow_0 : decode cX5_dropArrow 0 = .ok (.aload_n 0, 1) := by decide +kernel
theorem dX5_dropArrow_1 : decode cX5_dropArrow 1 = .ok (.iload_n 1, 1) := by decide +kernel
theorem dX5_dropArrow_2 : decode cX5_dropArrow 2 = .ok (.invokevirtual 77, 3) := by decide +kernel
theorem dX5_dropArrow_5 : decode cX5_dropArrow 5 = .ok (.ifCond .eq 29, 3) := by decide +kernel
theorem dX5_dropArrow_8 : decode cX5_dropArrow 8 = .ok (.aload_n 0, 1) := by decide +kernel
theorem dX5_dropArrow_9 : decode cX5_dropArrow 9 = .ok (.getfield 29, 3) := by decide +kernel
theorem dX5_dropArrow_12 : decode cX5_dropArrow 12 = .ok (.iload_n 1, 1) := by decide +kernel
theorem dX5_dropArrow_13 : decode cX5_dropArrow 13 = .ok (.invokevirtual 80, 3) := by decide +kernel
theorem dX5_dropArrow_16 : decode cX5_dropArrow 16 = .ok (.aload_n 0, 1) := by decide +kernel
theorem dX5_dropArrow_17 : decode cX5_dropArrow 17 = .ok (.getfield 32, 3) := by decide +kernel
theorem dX5_dropArrow_20 : decode cX5_dropArrow 20 = .ok (.iload_n 1, 1) := by decide +kernel
theorem dX5_dropArrow_21 : decode cX5_dropArrow 21 = .ok (.invokevirtual 80, 3) := by decide +kernel
theorem dX5_dropArrow_24 : decode cX5_dropArrow 24 = .ok (.aload_n 0, 1) := by decide +kernel
theorem dX5_dropArrow_25 : decode cX5_dropArrow 25 = .ok (.dup, 1) := by decide +kernel
theorem dX5_dropArrow_26 : decode cX5_dropArrow 26 = .ok (.getfield 51, 3) := by decide +kernel
theorem dX5_dropArrow_29 : decode cX5_dropArrow 29 = .ok (.iconst 1, 1) := by decide +kernel
theorem dX5_dropArrow_30 : decode cX5_dropArrow 30 = .ok (.isub, 1) := by decide +kernel
theorem dX5_dropArrow_31 : decode cX5_dropArrow 31 = .ok (.putfield 51, 3) := by decide +kernel
theorem dX5_dropArrow_34 : decode cX5_dropArrow 34 = .ok (.return_, 1) := by decide +kernel
theorem dX5_dropTask_0 : decode cX5_dropTask 0 = .ok (.aload_n 0, 1) := by decide +kernel
theorem dX5_dropTask_1 : decode cX5_dropTask 1 = .ok (.iload_n 1, 1) := by decide +kernel
theorem dX5_dropTask_2 : decode cX5_dropTask 2 = .ok (.invokevirtual 66, 3) := by decide +kernel
theorem dX5_dropTask_5 : decode cX5_dropTask 5 = .ok (.ifCond .ne 5, 3) := by decide +kernel
theorem dX5_dropTask_8 : decode cX5_dropTask 8 = .ok (.iconst 0, 1) := by decide +kernel
theorem dX5_dropTask_9 : decode cX5_dropTask 9 = .ok (.ireturn, 1) := by decide +kernel
theorem dX5_dropTask_10 : decode cX5_dropTask 10 = .ok (.aload_n 0, 1) := by decide +kernel
theorem dX5_dropTask_11 : decode cX5_dropTask 11 = .ok (.getfield 20, 3) := by decide +kernel
theorem dX5_dropTask_14 : decode cX5_dropTask 14 = .ok (.iload_n 1, 1) := by decide +kernel
theorem dX5_dropTask_15 : decode cX5_dropTask 15 = .ok (.invokevirtual 80, 3) := by decide +kernel
theorem dX5_dropTask_18 : decode cX5_dropTask 18 = .ok (.aload_n 0, 1) := by decide +kernel
theorem dX5_dropTask_19 : decode cX5_dropTask 19 = .ok (.getfield 23, 3) := by decide +kernel
theorem dX5_dropTask_22 : decode cX5_dropTask 22 = .ok (.iload_n 1, 1) := by decide +kernel
theorem dX5_dropTask_23 : decode cX5_dropTask 23 = .ok (.invokevirtual 80, 3) := by decide +kernel
theorem dX5_dropTask_26 : decode cX5_dropTask 26 = .ok (.aload_n 0, 1) := by decide +kernel
theorem dX5_dropTask_27 : decode cX5_dropTask 27 = .ok (.getfield 26, 3) := by decide +kernel
theorem dX5_dropTask_30 : decode cX5_dropTask 30 = .ok (.iload_n 1, 1) := by decide +kernel
theorem dX5_dropTask_31 : decode cX5_dropTask 31 = .ok (.invokevirtual 80, 3) := by decide +kernel
theorem dX5_dropTask_34 : decode cX5_dropTask 34 = .ok (.aload_n 0, 1) := by decide +kernel
theorem dX5_dropTask_35 : decode cX5_dropTask 35 = .ok (.dup, 1) := by decide +kernel
theorem dX5_dropTask_36 : decode cX5_dropTask 36 = .ok (.getfield 47, 3) := by decide +kernel
theorem dX5_dropTask_39 : decode cX5_dropTask 39 = .ok (.iconst 1, 1) := by decide +kernel
theorem dX5_dropTask_40 : decode cX5_dropTask 40 = .ok (.isub, 1) := by decide +kernel
theorem dX5_dropTask_41 : decode cX5_dropTask 41 = .ok (.putfield 47, 3) := by decide +kernel
theorem dX5_dropTask_44 : decode cX5_dropTask 44 = .ok (.aload_n 0, 1) := by decide +kernel
theorem dX5_dropTask_45 : decode cX5_dropTask 45 = .ok (.iload_n 1, 1) := by decide +kernel
theorem dX5_dropTask_46 : decode cX5_dropTask 46 = .ok (.invokevirtual 83, 3) := by decide +kernel
theorem dX5_dropTask_49 : decode cX5_dropTask 49 = .ok (.ireturn, 1) := by decide +kernel
theorem dX5_dropArrowsOf_0 : decode cX5_dropArrowsOf 0 = .ok (.iconst 0, 1) := by decide +kernel
theorem dX5_dropArrowsOf_1 : decode cX5_dropArrowsOf 1 = .ok (.istore_n 2, 1) := by decide +kernel
theorem dX5_dropArrowsOf_2 : decode cX5_dropArrowsOf 2 = .ok (.iconst 0, 1) := by decide +kernel
theorem dX5_dropArrowsOf_3 : decode cX5_dropArrowsOf 3 = .ok (.istore_n 3, 1) := by decide +kernel
theorem dX5_dropArrowsOf_4 : decode cX5_dropArrowsOf 4 = .ok (.iload_n 3, 1) := by decide +kernel
theorem dX5_dropArrowsOf_5 : decode cX5_dropArrowsOf 5 = .ok (.aload_n 0, 1) := by decide +kernel
theorem dX5_dropArrowsOf_6 : decode cX5_dropArrowsOf 6 = .ok (.getfield 51, 3) := by decide +kernel
theorem dX5_dropArrowsOf_9 : decode cX5_dropArrowsOf 9 = .ok (.if_icmp .ge 84, 3) := by decide +kernel
theorem dX5_dropArrowsOf_12 : decode cX5_dropArrowsOf 12 = .ok (.aload_n 0, 1) := by decide +kernel
theorem dX5_dropArrowsOf_13 : decode cX5_dropArrowsOf 13 = .ok (.iload_n 3, 1) := by decide +kernel
theorem dX5_dropArrowsOf_14 : decode cX5_dropArrowsOf 14 = .ok (.invokevirtual 60, 3) := by decide +kernel
theorem dX5_dropArrowsOf_17 : decode cX5_dropArrowsOf 17 = .ok (.istore 4, 2) := by decide +kernel
theorem dX5_dropArrowsOf_19 : decode cX5_dropArrowsOf 19 = .ok (.aload_n 0, 1) := by decide +kernel
theorem dX5_dropArrowsOf_20 : decode cX5_dropArrowsOf 20 = .ok (.iload_n 3, 1) := by decide +kernel
theorem dX5_dropArrowsOf_21 : decode cX5_dropArrowsOf 21 = .ok (.invokevirtual 54, 3) := by decide +kernel
theorem dX5_dropArrowsOf_24 : decode cX5_dropArrowsOf 24 = .ok (.istore 5, 2) := by decide +kernel
theorem dX5_dropArrowsOf_26 : decode cX5_dropArrowsOf 26 = .ok (.iload 4, 2) := by decide +kernel
theorem dX5_dropArrowsOf_28 : decode cX5_dropArrowsOf 28 = .ok (.iload_n 1, 1) := by decide +kernel
theorem dX5_dropArrowsOf_29 : decode cX5_dropArrowsOf 29 = .ok (.if_icmp .eq 58, 3) := by decide +kernel
theorem dX5_dropArrowsOf_32 : decode cX5_dropArrowsOf 32 = .ok (.iload 5, 2) := by decide +kernel
theorem dX5_dropArrowsOf_34 : decode cX5_dropArrowsOf 34 = .ok (.iload_n 1, 1) := by decide +kernel
theorem dX5_dropArrowsOf_35 : decode cX5_dropArrowsOf 35 = .ok (.if_icmp .eq 52, 3) := by decide +kernel
theorem dX5_dropArrowsOf_38 : decode cX5_dropArrowsOf 38 = .ok (.aload_n 0, 1) := by decide +kernel
theorem dX5_dropArrowsOf_39 : decode cX5_dropArrowsOf 39 = .ok (.getfield 29, 3) := by decide +kernel
theorem dX5_dropArrowsOf_42 : decode cX5_dropArrowsOf 42 = .ok (.iload_n 2, 1) := by decide +kernel
theorem dX5_dropArrowsOf_43 : decode cX5_dropArrowsOf 43 = .ok (.iload 4, 2) := by decide +kernel
theorem dX5_dropArrowsOf_45 : decode cX5_dropArrowsOf 45 = .ok (.iload_n 1, 1) := by decide +kernel
theorem dX5_dropArrowsOf_46 : decode cX5_dropArrowsOf 46 = .ok (.if_icmp .le 10, 3) := by decide +kernel
theorem dX5_dropArrowsOf_49 : decode cX5_dropArrowsOf 49 = .ok (.iload 4, 2) := by decide +kernel
theorem dX5_dropArrowsOf_51 : decode cX5_dropArrowsOf 51 = .ok (.iconst 1, 1) := by decide +kernel
theorem dX5_dropArrowsOf_52 : decode cX5_dropArrowsOf 52 = .ok (.isub, 1) := by decide +kernel
theorem dX5_dropArrowsOf_53 : decode cX5_dropArrowsOf 53 = .ok (.goto 5, 3) := by decide +kernel
theorem dX5_dropArrowsOf_56 : decode cX5_dropArrowsOf 56 = .ok (.iload 4, 2) := by decide +kernel
theorem dX5_dropArrowsOf_58 : decode cX5_dropArrowsOf 58 = .ok (.invokevirtual 39, 3) := by decide +kernel
theorem dX5_dropArrowsOf_61 : decode cX5_dropArrowsOf 61 = .ok (.aload_n 0, 1) := by decide +kernel
theorem dX5_dropArrowsOf_62 : decode cX5_dropArrowsOf 62 = .ok (.getfield 32, 3) := by decide +kernel
theorem dX5_dropArrowsOf_65 : decode cX5_dropArrowsOf 65 = .ok (.iload_n 2, 1) := by decide +kernel
theorem dX5_dropArrowsOf_66 : decode cX5_dropArrowsOf 66 = .ok (.iload 5, 2) := by decide +kernel
theorem dX5_dropArrowsOf_68 : decode cX5_dropArrowsOf 68 = .ok (.iload_n 1, 1) := by decide +kernel
theorem dX5_dropArrowsOf_69 : decode cX5_dropArrowsOf 69 = .ok (.if_icmp .le 10, 3) := by decide +kernel
theorem dX5_dropArrowsOf_72 : decode cX5_dropArrowsOf 72 = .ok (.iload 5, 2) := by decide +kernel
theorem dX5_dropArrowsOf_74 : decode cX5_dropArrowsOf 74 = .ok (.iconst 1, 1) := by decide +kernel
theorem dX5_dropArrowsOf_75 : decode cX5_dropArrowsOf 75 = .ok (.isub, 1) := by decide +kernel
theorem dX5_dropArrowsOf_76 : decode cX5_dropArrowsOf 76 = .ok (.goto 5, 3) := by decide +kernel
theorem dX5_dropArrowsOf_79 : decode cX5_dropArrowsOf 79 = .ok (.iload 5, 2) := by decide +kernel
theorem dX5_dropArrowsOf_81 : decode cX5_dropArrowsOf 81 = .ok (.invokevirtual 39, 3) := by decide +kernel
theorem dX5_dropArrowsOf_84 : decode cX5_dropArrowsOf 84 = .ok (.iinc 2 1, 3) := by decide +kernel
theorem dX5_dropArrowsOf_87 : decode cX5_dropArrowsOf 87 = .ok (.iinc 3 1, 3) := by decide +kernel
theorem dX5_dropArrowsOf_90 : decode cX5_dropArrowsOf 90 = .ok (.goto (-86), 3) := by decide +kernel
theorem dX5_dropArrowsOf_93 : decode cX5_dropArrowsOf 93 = .ok (.aload_n 0, 1) := by decide +kernel
theorem dX5_dropArrowsOf_94 : decode cX5_dropArrowsOf 94 = .ok (.getfield 51, 3) := by decide +kernel
theorem dX5_dropArrowsOf_97 : decode cX5_dropArrowsOf 97 = .ok (.iload_n 2, 1) := by decide +kernel
theorem dX5_dropArrowsOf_98 : decode cX5_dropArrowsOf 98 = .ok (.isub, 1) := by decide +kernel
theorem dX5_dropArrowsOf_99 : decode cX5_dropArrowsOf 99 = .ok (.istore_n 3, 1) := by decide +kernel
theorem dX5_dropArrowsOf_100 : decode cX5_dropArrowsOf 100 = .ok (.aload_n 0, 1) := by decide +kernel
theorem dX5_dropArrowsOf_101 : decode cX5_dropArrowsOf 101 = .ok (.iload_n 2, 1) := by decide +kernel
theorem dX5_dropArrowsOf_102 : decode cX5_dropArrowsOf 102 = .ok (.putfield 51, 3) := by decide +kernel
theorem dX5_dropArrowsOf_105 : decode cX5_dropArrowsOf 105 = .ok (.iload_n 3, 1) := by decide +kernel
theorem dX5_dropArrowsOf_106 : decode cX5_dropArrowsOf 106 = .ok (.ireturn, 1) := by decide +kernel
theorem dX5_copyTasksAndArrows_0 : decode cX5_copyTasksAndArrows 0 = .ok (.aload_n 0, 1) := by decide +kernel
theorem dX5_copyTasksAndArrows_1 : decode cX5_copyTasksAndArrows 1 = .ok (.getfield 20, 3) := by decide +kernel
theorem dX5_copyTasksAndArrows_4 : decode cX5_copyTasksAndArrows 4 = .ok (.aload_n 1, 1) := by decide +kernel
theorem dX5_copyTasksAndArrows_5 : decode cX5_copyTasksAndArrows 5 = .ok (.getfield 20, 3) := by decide +kernel
theorem dX5_copyTasksAndArrows_8 : decode cX5_copyTasksAndArrows 8 = .ok (.invokevirtual 86, 3) := by decide +kernel
theorem dX5_copyTasksAndArrows_11 : decode cX5_copyTasksAndArrows 11 = .ok (.aload_n 0, 1) := by decide +kernel
theorem dX5_copyTasksAndArrows_12 : decode cX5_copyTasksAndArrows 12 = .ok (.getfield 23, 3) := by decide +kernel
theorem dX5_copyTasksAndArrows_15 : decode cX5_copyTasksAndArrows 15 = .ok (.aload_n 1, 1) := by decide +kernel
theorem dX5_copyTasksAndArrows_16 : decode cX5_copyTasksAndArrows 16 = .ok (.getfield 23, 3) := by decide +kernel
theorem dX5_copyTasksAndArrows_19 : decode cX5_copyTasksAndArrows 19 = .ok (.invokevirtual 86, 3) := by decide +kernel
theorem dX5_copyTasksAndArrows_22 : decode cX5_copyTasksAndArrows 22 = .ok (.aload_n 0, 1) := by decide +kernel
theorem dX5_copyTasksAndArrows_23 : decode cX5_copyTasksAndArrows 23 = .ok (.getfield 26, 3) := by decide +kernel
theorem dX5_copyTasksAndArrows_26 : decode cX5_copyTasksAndArrows 26 = .ok (.aload_n 1, 1) := by decide +kernel
theorem dX5_copyTasksAndArrows_27 : decode cX5_copyTasksAndArrows 27 = .ok (.getfield 26, 3) := by decide +kernel
theorem dX5_copyTasksAndArrows_30 : decode cX5_copyTasksAndArrows 30 = .ok (.invokevirtual 86, 3) := by decide +kernel
theorem dX5_copyTasksAndArrows_33 : decode cX5_copyTasksAndArrows 33 = .ok (.aload_n 0, 1) := by decide +kernel
theorem dX5_copyTasksAndArrows_34 : decode cX5_copyTasksAndArrows 34 = .ok (.getfield 29, 3) := by decide +kernel
theorem dX5_copyTasksAndArrows_37 : decode cX5_copyTasksAndArrows 37 = .ok (.aload_n 1, 1) := by decide +kernel
theorem dX5_copyTasksAndArrows_38 : decode cX5_copyTasksAndArrows 38 = .ok (.getfield 29, 3) := by decide +kernel
theorem dX5_copyTasksAndArrows_41 : decode cX5_copyTasksAndArrows 41 = .ok (.invokevirtual 86, 3) := by decide +kernel
theorem dX5_copyTasksAndArrows_44 : decode cX5_copyTasksAndArrows 44 = .ok (.aload_n 0, 1) := by decide +kernel
theorem dX5_copyTasksAndArrows_45 : decode cX5_copyTasksAndArrows 45 = .ok (.getfield 32, 3) := by decide +kernel
theorem dX5_copyTasksAndArrows_48 : decode cX5_copyTasksAndArrows 48 = .ok (.aload_n 1, 1) := by decide +kernel
theorem dX5_copyTasksAndArrows_49 : decode cX5_copyTasksAndArrows 49 = .ok (.getfield 32, 3) := by decide +kernel
theorem dX5_copyTasksAndArrows_52 : decode cX5_copyTasksAndArrows 52 = .ok (.invokevirtual 86, 3) := by decide +kernel
theorem dX5_copyTasksAndArrows_55 : decode cX5_copyTasksAndArrows 55 = .ok (.aload_n 0, 1) := by decide +kernel
theorem dX5_copyTasksAndArrows_56 : decode cX5_copyTasksAndArrows 56 = .ok (.aload_n 1, 1) := by decide +kernel
theorem dX5_copyTasksAndArrows_57 : decode cX5_copyTasksAndArrows 57 = .ok (.getfield 47, 3) := by decide +kernel
theorem dX5_copyTasksAndArrows_60 : decode cX5_copyTasksAndArrows 60 = .ok (.putfield 47, 3) := by decide +kernel
theorem dX5_copyTasksAndArrows_63 : decode cX5_copyTasksAndArrows 63 = .ok (.aload_n 0, 1) := by decide +kernel
theorem dX5_copyTasksAndArrows_64 : decode cX5_copyTasksAndArrows 64 = .ok (.aload_n 1, 1) := by decide +kernel
theorem dX5_copyTasksAndArrows_65 : decode cX5_copyTasksAndArrows 65 = .ok (.getfield 51, 3) := by decide +kernel
theorem dX5_copyTasksAndArrows_68 : decode cX5_copyTasksAndArrows 68 = .ok (.putfield 51, 3) := by decide +kernel
theorem dX5_copyTasksAndArrows_71 : decode cX5_copyTasksAndArrows 71 = .ok (.return_, 1) := by decide +kernel
theorem dX5_copyAll_0 : decode cX5_copyAll 0 = .ok (.aload_n 0, 1) := by decide +kernel
theorem dX5_copyAll_1 : decode cX5_copyAll 1 = .ok (.getfield 14, 3) := by decide +kernel
theorem dX5_copyAll_4 : decode cX5_copyAll 4 = .ok (.aload_n 1, 1) := by decide +kernel
theorem dX5_copyAll_5 : decode cX5_copyAll 5 = .ok (.getfield 14, 3) := by decide +kernel
theorem dX5_copyAll_8 : decode cX5_copyAll 8 = .ok (.invokevirtual 86, 3) := by decide +kernel
theorem dX5_copyAll_11 : decode cX5_copyAll 11 = .ok (.aload_n 0, 1) := by decide +kernel
theorem dX5_copyAll_12 : decode cX5_copyAll 12 = .ok (.aload_n 1, 1) := by decide +kernel
theorem dX5_copyAll_13 : decode cX5_copyAll 13 = .ok (.invokevirtual 90, 3) := by decide +kernel
theorem dX5_copyAll_16 : decode cX5_copyAll 16 = .ok (.return_, 1) := by decide +kernel
theorem dX6_init_0 : decode cX6_init 0 = .ok (.aload_n 0, 1) := by decide +kernel
theorem dX6_init_1 : decode cX6_init 1 = .ok (.invokespecial 3, 3) := by decide +kernel
theorem dX6_init_4 : decode cX6_init 4 = .ok (.aload_n 0, 1) := by decide +kernel
theorem dX6_init_5 : decode cX6_init 5 = .ok (.new 9, 3) := by decide +kernel
theorem dX6_init_8 : decode cX6_init 8 = .ok (.dup, 1) := by decide +kernel
theorem dX6_init_9 : decode cX6_init 9 = .ok (.sipush 1248, 3) := by decide +kernel
theorem dX6_init_12 : decode cX6_init 12 = .ok (.invokespecial 11, 3) := by decide +kernel
theorem dX6_init_15 : decode cX6_init 15 = .ok (.putfield 14, 3) := by decide +kernel
theorem dX6_init_18 : decode cX6_init 18 = .ok (.aload_n 0, 1) := by decide +kernel
theorem dX6_init_19 : decode cX6_init 19 = .ok (.new 9, 3) := by decide +kernel
theorem dX6_init_22 : decode cX6_init 22 = .ok (.dup, 1) := by decide +kernel
theorem dX6_init_23 : decode cX6_init 23 = .ok (.sipush 1248, 3) := by decide +kernel
theorem dX6_init_26 : decode cX6_init 26 = .ok (.invokespecial 11, 3) := by decide +kernel
theorem dX6_init_29 : decode cX6_init 29 = .ok (.putfield 20, 3) := by decide +kernel
theorem dX6_init_32 : decode cX6_init 32 = .ok (.aload_n 0, 1) := by decide +kernel
theorem dX6_init_33 : decode cX6_init 33 = .ok (.new 9, 3) := by decide +kernel
theorem dX6_init_36 : decode cX6_init 36 = .ok (.dup, 1) := by decide +kernel
theorem dX6_init_37 : decode cX6_init 37 = .ok (.sipush 312, 3) := by decide +kernel
theorem dX6_init_40 : decode cX6_init 40 = .ok (.invokespecial 11, 3) := by decide +kernel
theorem dX6_init_43 : decode cX6_init 43 = .ok (.putfield 23, 3) := by decide +kernel
theorem dX6_init_46 : decode cX6_init 46 = .ok (.aload_n 0, 1) := by decide +kernel
theorem dX6_init_47 : decode cX6_init 47 = .ok (.new 9, 3) := by decide +kernel
theorem dX6_init_50 : decode cX6_init 50 = .ok (.dup, 1) := by decide +kernel
theorem dX6_init_51 : decode cX6_init 51 = .ok (.sipush 312, 3) := by decide +kernel
theorem dX6_init_54 : decode cX6_init 54 = .ok (.invokespecial 11, 3) := by decide +kernel
theorem dX6_init_57 : decode cX6_init 57 = .ok (.putfield 26, 3) := by decide +kernel
theorem dX6_init_60 : decode cX6_init 60 = .ok (.return_, 1) := by decide +kernel
theorem dX6_count_0 : decode cX6_count 0 = .ok (.aload_n 0, 1) := by decide +kernel
theorem dX6_count_1 : decode cX6_count 1 = .ok (.getfield 29, 3) := by decide +kernel
theorem dX6_count_4 : decode cX6_count 4 = .ok (.ireturn, 1) := by decide +kernel
theorem dX6_numberAt_0 : decode cX6_numberAt 0 = .ok (.aload_n 0, 1) := by decide +kernel
theorem dX6_numberAt_1 : decode cX6_numberAt 1 = .ok (.getfield 20, 3) := by decide +kernel
theorem dX6_numberAt_4 : decode cX6_numberAt 4 = .ok (.iload_n 1, 1) := by decide +kernel
theorem dX6_numberAt_5 : decode cX6_numberAt 5 = .ok (.iload_n 2, 1) := by decide +kernel
theorem dX6_numberAt_6 : decode cX6_numberAt 6 = .ok (.invokestatic 43, 3) := by decide +kernel
theorem dX6_numberAt_9 : decode cX6_numberAt 9 = .ok (.invokevirtual 33, 3) := by decide +kernel
theorem dX6_numberAt_12 : decode cX6_numberAt 12 = .ok (.ireturn, 1) := by decide +kernel
theorem dX6_spot_0 : decode cX6_spot 0 = .ok (.iload_n 0, 1) := by decide +kernel
theorem dX6_spot_1 : decode cX6_spot 1 = .ok (.ifCond .lt 23, 3) := by decide +kernel
theorem dX6_spot_4 : decode cX6_spot 4 = .ok (.iload_n 0, 1) := by decide +kernel
theorem dX6_spot_5 : decode cX6_spot 5 = .ok (.bipush 24, 2) := by decide +kernel
theorem dX6_spot_7 : decode cX6_spot 7 = .ok (.if_icmp .ge 17, 3) := by decide +kernel
theorem dX6_spot_10 : decode cX6_spot 10 = .ok (.iload_n 1, 1) := by decide +kernel
theorem dX6_spot_11 : decode cX6_spot 11 = .ok (.ifCond .lt 13, 3) := by decide +kernel
theorem dX6_spot_14 : decode cX6_spot 14 = .ok (.iload_n 1, 1) := by decide +kernel
theorem dX6_spot_15 : decode cX6_spot 15 = .ok (.bipush 52, 2) := by decide +kernel
theorem dX6_spot_17 : decode cX6_spot 17 = .ok (.if_icmp .ge 7, 3) := by decide +kernel
theorem dX6_spot_20 : decode cX6_spot 20 = .ok (.iconst 1, 1) := by decide +kernel
theorem dX6_spot_21 : decode cX6_spot 21 = .ok (.goto 4, 3) := by decide +kernel
theorem dX6_spot_24 : decode cX6_spot 24 = .ok (.iconst 0, 1) := by decide +kernel
theorem dX6_spot_25 : decode cX6_spot 25 = .ok (.istore_n 2, 1) := by decide +kernel
theorem dX6_spot_26 : decode cX6_spot 26 = .ok (.iload_n 2, 1) := by decide +kernel
theorem dX6_spot_27 : decode cX6_spot 27 = .ok (.ifCond .eq 12, 3) := by decide +kernel
theorem dX6_spot_30 : decode cX6_spot 30 = .ok (.iload_n 0, 1) := by decide +kernel
theorem dX6_spot_31 : decode cX6_spot 31 = .ok (.bipush 52, 2) := by decide +kernel
theorem dX6_spot_33 : decode cX6_spot 33 = .ok (.imul, 1) := by decide +kernel
theorem dX6_spot_34 : decode cX6_spot 34 = .ok (.iload_n 1, 1) := by decide +kernel
theorem dX6_spot_35 : decode cX6_spot 35 = .ok (.iadd, 1) := by decide +kernel
theorem dX6_spot_36 : decode cX6_spot 36 = .ok (.goto 4, 3) := by decide +kernel
theorem dX6_spot_39 : decode cX6_spot 39 = .ok (.iconst (-1), 1) := by decide +kernel
theorem dX6_spot_40 : decode cX6_spot 40 = .ok (.ireturn, 1) := by decide +kernel
theorem dX6_print_0 : decode cX6_print 0 = .ok (.aload_n 0, 1) := by decide +kernel
theorem dX6_print_1 : decode cX6_print 1 = .ok (.getfield 14, 3) := by decide +kernel
theorem dX6_print_4 : decode cX6_print 4 = .ok (.iconst 0, 1) := by decide +kernel
theorem dX6_print_5 : decode cX6_print 5 = .ok (.aload_n 2, 1) := by decide +kernel
theorem dX6_print_6 : decode cX6_print 6 = .ok (.invokevirtual 47, 3) := by decide +kernel
theorem dX6_print_9 : decode cX6_print 9 = .ok (.bipush 52, 2) := by decide +kernel
theorem dX6_print_11 : decode cX6_print 11 = .ok (.imul, 1) := by decide +kernel
theorem dX6_print_12 : decode cX6_print 12 = .ok (.iconst 0, 1) := by decide +kernel
theorem dX6_print_13 : decode cX6_print 13 = .ok (.invokevirtual 52, 3) := by decide +kernel
theorem dX6_print_16 : decode cX6_print 16 = .ok (.aload_n 0, 1) := by decide +kernel
theorem dX6_print_17 : decode cX6_print 17 = .ok (.getfield 20, 3) := by decide +kernel
theorem dX6_print_20 : decode cX6_print 20 = .ok (.iconst 0, 1) := by decide +kernel
theorem dX6_print_21 : decode cX6_print 21 = .ok (.aload_n 2, 1) := by decide +kernel
theorem dX6_print_22 : decode cX6_print 22 = .ok (.invokevirtual 47, 3) := by decide +kernel
theorem dX6_print_25 : decode cX6_print 25 = .ok (.bipush 52, 2) := by decide +kernel
theorem dX6_print_27 : decode cX6_print 27 = .ok (.imul, 1) := by decide +kernel
theorem dX6_print_28 : decode cX6_print 28 = .ok (.iconst (-1), 1) := by decide +kernel
theorem dX6_print_29 : decode cX6_print 29 = .ok (.invokevirtual 52, 3) := by decide +kernel
theorem dX6_print_32 : decode cX6_print 32 = .ok (.iconst 0, 1) := by decide +kernel
theorem dX6_print_33 : decode cX6_print 33 = .ok (.istore 4, 2) := by decide +kernel
theorem dX6_print_35 : decode cX6_print 35 = .ok (.iload 4, 2) := by decide +kernel
theorem dX6_print_37 : decode cX6_print 37 = .ok (.aload_n 1, 1) := by decide +kernel
theorem dX6_print_38 : decode cX6_print 38 = .ok (.invokevirtual 56, 3) := by decide +kernel
theorem dX6_print_41 : decode cX6_print 41 = .ok (.if_icmp .ge 64, 3) := by decide +kernel
theorem dX6_print_44 : decode cX6_print 44 = .ok (.aload_n 1, 1) := by decide +kernel
theorem dX6_print_45 : decode cX6_print 45 = .ok (.iload 4, 2) := by decide +kernel
theorem dX6_print_47 : decode cX6_print 47 = .ok (.invokevirtual 61, 3) := by decide +kernel
theorem dX6_print_50 : decode cX6_print 50 = .ok (.iload_n 3, 1) := by decide +kernel
theorem dX6_print_51 : decode cX6_print 51 = .ok (.invokestatic 64, 3) := by decide +kernel
theorem dX6_print_54 : decode cX6_print 54 = .ok (.istore 5, 2) := by decide +kernel
theorem dX6_print_56 : decode cX6_print 56 = .ok (.aload_n 1, 1) := by decide +kernel
theorem dX6_print_57 : decode cX6_print 57 = .ok (.iload 4, 2) := by decide +kernel
theorem dX6_print_59 : decode cX6_print 59 = .ok (.invokevirtual 67, 3) := by decide +kernel
theorem dX6_print_62 : decode cX6_print 62 = .ok (.iload_n 3, 1) := by decide +kernel
theorem dX6_print_63 : decode cX6_print 63 = .ok (.invokestatic 64, 3) := by decide +kernel
theorem dX6_print_66 : decode cX6_print 66 = .ok (.istore 6, 2) := by decide +kernel
theorem dX6_print_68 : decode cX6_print 68 = .ok (.iload 6, 2) := by decide +kernel
theorem dX6_print_70 : decode cX6_print 70 = .ok (.iload 5, 2) := by decide +kernel
theorem dX6_print_72 : decode cX6_print 72 = .ok (.if_icmp .gt 27, 3) := by decide +kernel
theorem dX6_print_75 : decode cX6_print 75 = .ok (.aload_n 0, 1) := by decide +kernel
theorem dX6_print_76 : decode cX6_print 76 = .ok (.getfield 14, 3) := by decide +kernel
theorem dX6_print_79 : decode cX6_print 79 = .ok (.aload_n 2, 1) := by decide +kernel
theorem dX6_print_80 : decode cX6_print 80 = .ok (.iload 4, 2) := by decide +kernel
theorem dX6_print_82 : decode cX6_print 82 = .ok (.invokevirtual 70, 3) := by decide +kernel
theorem dX6_print_85 : decode cX6_print 85 = .ok (.iload 6, 2) := by decide +kernel
theorem dX6_print_87 : decode cX6_print 87 = .ok (.invokestatic 43, 3) := by decide +kernel
theorem dX6_print_90 : decode cX6_print 90 = .ok (.invokevirtual 71, 3) := by decide +kernel
theorem dX6_print_93 : decode cX6_print 93 = .ok (.iinc 6 1, 3) := by decide +kernel
theorem dX6_print_96 : decode cX6_print 96 = .ok (.goto (-28), 3) := by decide +kernel
theorem dX6_print_99 : decode cX6_print 99 = .ok (.iinc 4 1, 3) := by decide +kernel
theorem dX6_print_102 : decode cX6_print 102 = .ok (.goto (-67), 3) := by decide +kernel
theorem dX6_print_105 : decode cX6_print 105 = .ok (.aload_n 0, 1) := by decide +kernel
theorem dX6_print_106 : decode cX6_print 106 = .ok (.iconst 0, 1) := by decide +kernel
theorem dX6_print_107 : decode cX6_print 107 = .ok (.putfield 29, 3) := by decide +kernel
theorem dX6_print_110 : decode cX6_print 110 = .ok (.sipush 258, 3) := by decide +kernel
theorem dX6_print_113 : decode cX6_print 113 = .ok (.iload_n 3, 1) := by decide +kernel
theorem dX6_print_114 : decode cX6_print 114 = .ok (.invokestatic 64, 3) := by decide +kernel
theorem dX6_print_117 : decode cX6_print 117 = .ok (.iconst 1, 1) := by decide +kernel
theorem dX6_print_118 : decode cX6_print 118 = .ok (.iadd, 1) := by decide +kernel
theorem dX6_print_119 : decode cX6_print 119 = .ok (.istore 4, 2) := by decide +kernel
theorem dX6_print_121 : decode cX6_print 121 = .ok (.aload_n 1, 1) := by decide +kernel
theorem dX6_print_122 : decode cX6_print 122 = .ok (.iconst 3, 1) := by decide +kernel
theorem dX6_print_123 : decode cX6_print 123 = .ok (.invokevirtual 74, 3) := by decide +kernel
theorem dX6_print_126 : decode cX6_print 126 = .ok (.ifCond .ne 16, 3) := by decide +kernel
theorem dX6_print_129 : decode cX6_print 129 = .ok (.aload_n 0, 1) := by decide +kernel
theorem dX6_print_130 : decode cX6_print 130 = .ok (.aload_n 2, 1) := by decide +kernel
theorem dX6_print_131 : decode cX6_print 131 = .ok (.invokevirtual 47, 3) := by decide +kernel
theorem dX6_print_134 : decode cX6_print 134 = .ok (.iload 4, 2) := by decide +kernel
theorem dX6_print_136 : decode cX6_print 136 = .ok (.invokevirtual 77, 3) := by decide +kernel
theorem dX6_print_139 : decode cX6_print 139 = .ok (.goto 13, 3) := by decide +kernel
theorem dX6_print_142 : decode cX6_print 142 = .ok (.aload_n 0, 1) := by decide +kernel
theorem dX6_print_143 : decode cX6_print 143 = .ok (.aload_n 2, 1) := by decide +kernel
theorem dX6_print_144 : decode cX6_print 144 = .ok (.invokevirtual 47, 3) := by decide +kernel
theorem dX6_print_147 : decode cX6_print 147 = .ok (.iload 4, 2) := by decide +kernel
theorem dX6_print_149 : decode cX6_print 149 = .ok (.invokevirtual 81, 3) := by decide +kernel
theorem dX6_print_152 : decode cX6_print 152 = .ok (.return_, 1) := by decide +kernel
theorem dX6_numberByBands_0 : decode cX6_numberByBands 0 = .ok (.iconst 0, 1) := by decide +kernel
theorem dX6_numberByBands_1 : decode cX6_numberByBands 1 = .ok (.istore_n 3, 1) := by decide +kernel
theorem dX6_numberByBands_2 : decode cX6_numberByBands 2 = .ok (.iload_n 3, 1) := by decide +kernel
theorem dX6_numberByBands_3 : decode cX6_numberByBands 3 = .ok (.iload_n 1, 1) := by decide +kernel
theorem dX6_numberByBands_4 : decode cX6_numberByBands 4 = .ok (.if_icmp .ge 31, 3) := by decide +kernel
theorem dX6_numberByBands_7 : decode cX6_numberByBands 7 = .ok (.iconst 0, 1) := by decide +kernel
theorem dX6_numberByBands_8 : decode cX6_numberByBands 8 = .ok (.istore 4, 2) := by decide +kernel
theorem dX6_numberByBands_10 : decode cX6_numberByBands 10 = .ok (.iload 4, 2) := by decide +kernel
theorem dX6_numberByBands_12 : decode cX6_numberByBands 12 = .ok (.iload_n 2, 1) := by decide +kernel
theorem dX6_numberByBands_13 : decode cX6_numberByBands 13 = .ok (.if_icmp .ge 16, 3) := by decide +kernel
theorem dX6_numberByBands_16 : decode cX6_numberByBands 16 = .ok (.aload_n 0, 1) := by decide +kernel
theorem dX6_numberByBands_17 : decode cX6_numberByBands 17 = .ok (.iload_n 3, 1) := by decide +kernel
theorem dX6_numberByBands_18 : decode cX6_numberByBands 18 = .ok (.iload 4, 2) := by decide +kernel
theorem dX6_numberByBands_20 : decode cX6_numberByBands 20 = .ok (.invokevirtual 84, 3) := by decide +kernel
theorem dX6_numberByBands_23 : decode cX6_numberByBands 23 = .ok (.iinc 4 1, 3) := by decide +kernel
theorem dX6_numberByBands_26 : decode cX6_numberByBands 26 = .ok (.goto (-16), 3) := by decide +kernel
theorem dX6_numberByBands_29 : decode cX6_numberByBands 29 = .ok (.iinc 3 1, 3) := by decide +kernel
theorem dX6_numberByBands_32 : decode cX6_numberByBands 32 = .ok (.goto (-30), 3) := by decide +kernel
theorem dX6_numberByBands_35 : decode cX6_numberByBands 35 = .ok (.return_, 1) := by decide +kernel
theorem dX6_numberByStrips_0 : decode cX6_numberByStrips 0 = .ok (.iconst 0, 1) := by decide +kernel
theorem dX6_numberByStrips_1 : decode cX6_numberByStrips 1 = .ok (.istore_n 3, 1) := by decide +kernel
theorem dX6_numberByStrips_2 : decode cX6_numberByStrips 2 = .ok (.iload_n 3, 1) := by decide +kernel
theorem dX6_numberByStrips_3 : decode cX6_numberByStrips 3 = .ok (.iload_n 2, 1) := by decide +kernel
theorem dX6_numberByStrips_4 : decode cX6_numberByStrips 4 = .ok (.if_icmp .ge 31, 3) := by decide +kernel
theorem dX6_numberByStrips_7 : decode cX6_numberByStrips 7 = .ok (.iconst 0, 1) := by decide +kernel
theorem dX6_numberByStrips_8 : decode cX6_numberByStrips 8 = .ok (.istore 4, 2) := by decide +kernel
theorem dX6_numberByStrips_10 : decode cX6_numberByStrips 10 = .ok (.iload 4, 2) := by decide +kernel
theorem dX6_numberByStrips_12 : decode cX6_numberByStrips 12 = .ok (.iload_n 1, 1) := by decide +kernel
theorem dX6_numberByStrips_13 : decode cX6_numberByStrips 13 = .ok (.if_icmp .ge 16, 3) := by decide +kernel
theorem dX6_numberByStrips_16 : decode cX6_numberByStrips 16 = .ok (.aload_n 0, 1) := by decide +kernel
theorem dX6_numberByStrips_17 : decode cX6_numberByStrips 17 = .ok (.iload 4, 2) := by decide +kernel
theorem dX6_numberByStrips_19 : decode cX6_numberByStrips 19 = .ok (.iload_n 3, 1) := by decide +kernel
theorem dX6_numberByStrips_20 : decode cX6_numberByStrips 20 = .ok (.invokevirtual 84, 3) := by decide +kernel
theorem dX6_numberByStrips_23 : decode cX6_numberByStrips 23 = .ok (.iinc 4 1, 3) := by decide +kernel
theorem dX6_numberByStrips_26 : decode cX6_numberByStrips 26 = .ok (.goto (-16), 3) := by decide +kernel
theorem dX6_numberByStrips_29 : decode cX6_numberByStrips 29 = .ok (.iinc 3 1, 3) := by decide +kernel
theorem dX6_numberByStrips_32 : decode cX6_numberByStrips 32 = .ok (.goto (-30), 3) := by decide +kernel
theorem dX6_numberByStrips_35 : decode cX6_numberByStrips 35 = .ok (.return_, 1) := by decide +kernel
theorem dX6_number_0 : decode cX6_number 0 = .ok (.iload_n 1, 1) := by decide +kernel
theorem dX6_number_1 : decode cX6_number 1 = .ok (.iload_n 2, 1) := by decide +kernel
theorem dX6_number_2 : decode cX6_number 2 = .ok (.invokestatic 43, 3) := by decide +kernel
theorem dX6_number_5 : decode cX6_number 5 = .ok (.istore_n 3, 1) := by decide +kernel
theorem dX6_number_6 : decode cX6_number 6 = .ok (.aload_n 0, 1) := by decide +kernel
theorem dX6_number_7 : decode cX6_number 7 = .ok (.getfield 14, 3) := by decide +kernel
theorem dX6_number_10 : decode cX6_number 10 = .ok (.iload_n 3, 1) := by decide +kernel
theorem dX6_number_11 : decode cX6_number 11 = .ok (.invokevirtual 33, 3) := by decide +kernel
theorem dX6_number_14 : decode cX6_number 14 = .ok (.ifCond .le 49, 3) := by decide +kernel
theorem dX6_number_17 : decode cX6_number 17 = .ok (.aload_n 0, 1) := by decide +kernel
theorem dX6_number_18 : decode cX6_number 18 = .ok (.getfield 20, 3) := by decide +kernel
theorem dX6_number_21 : decode cX6_number 21 = .ok (.iload_n 3, 1) := by decide +kernel
theorem dX6_number_22 : decode cX6_number 22 = .ok (.aload_n 0, 1) := by decide +kernel
theorem dX6_number_23 : decode cX6_number 23 = .ok (.getfield 29, 3) := by decide +kernel
theorem dX6_number_26 : decode cX6_number 26 = .ok (.invokevirtual 87, 3) := by decide +kernel
theorem dX6_number_29 : decode cX6_number 29 = .ok (.aload_n 0, 1) := by decide +kernel
theorem dX6_number_30 : decode cX6_number 30 = .ok (.getfield 23, 3) := by decide +kernel
theorem dX6_number_33 : decode cX6_number 33 = .ok (.aload_n 0, 1) := by decide +kernel
theorem dX6_number_34 : decode cX6_number 34 = .ok (.getfield 29, 3) := by decide +kernel
theorem dX6_number_37 : decode cX6_number 37 = .ok (.iload_n 1, 1) := by decide +kernel
theorem dX6_number_38 : decode cX6_number 38 = .ok (.invokevirtual 87, 3) := by decide +kernel
theorem dX6_number_41 : decode cX6_number 41 = .ok (.aload_n 0, 1) := by decide +kernel
theorem dX6_number_42 : decode cX6_number 42 = .ok (.getfield 26, 3) := by decide +kernel
theorem dX6_number_45 : decode cX6_number 45 = .ok (.aload_n 0, 1) := by decide +kernel
theorem dX6_number_46 : decode cX6_number 46 = .ok (.getfield 29, 3) := by decide +kernel
theorem dX6_number_49 : decode cX6_number 49 = .ok (.iload_n 2, 1) := by decide +kernel
theorem dX6_number_50 : decode cX6_number 50 = .ok (.invokevirtual 87, 3) := by decide +kernel
theorem dX6_number_53 : decode cX6_number 53 = .ok (.aload_n 0, 1) := by decide +kernel
theorem dX6_number_54 : decode cX6_number 54 = .ok (.dup, 1) := by decide +kernel
theorem dX6_number_55 : decode cX6_number 55 = .ok (.getfield 29, 3) := by decide +kernel
theorem dX6_number_58 : decode cX6_number 58 = .ok (.iconst 1, 1) := by decide +kernel
theorem dX6_number_59 : decode cX6_number 59 = .ok (.iadd, 1) := by decide +kernel
theorem dX6_number_60 : decode cX6_number 60 = .ok (.putfield 29, 3) := by decide +kernel
theorem dX6_number_63 : decode cX6_number 63 = .ok (.return_, 1) := by decide +kernel
theorem dX7_init_0 : decode cX7_init 0 = .ok (.aload_n 0, 1) := by decide +kernel
theorem dX7_init_1 : decode cX7_init 1 = .ok (.invokespecial 3, 3) := by decide +kernel
theorem dX7_init_4 : decode cX7_init 4 = .ok (.aload_n 0, 1) := by decide +kernel
theorem dX7_init_5 : decode cX7_init 5 = .ok (.new 9, 3) := by decide +kernel
theorem dX7_init_8 : decode cX7_init 8 = .ok (.dup, 1) := by decide +kernel
theorem dX7_init_9 : decode cX7_init 9 = .ok (.sipush 150, 3) := by decide +kernel
theorem dX7_init_12 : decode cX7_init 12 = .ok (.invokespecial 11, 3) := by decide +kernel
theorem dX7_init_15 : decode cX7_init 15 = .ok (.putfield 14, 3) := by decide +kernel
theorem dX7_init_18 : decode cX7_init 18 = .ok (.return_, 1) := by decide +kernel
theorem dX8_init_0 : decode cX8_init 0 = .ok (.aload_n 0, 1) := by decide +kernel
theorem dX8_init_1 : decode cX8_init 1 = .ok (.invokespecial 3, 3) := by decide +kernel
theorem dX8_init_4 : decode cX8_init 4 = .ok (.aload_n 0, 1) := by decide +kernel
theorem dX8_init_5 : decode cX8_init 5 = .ok (.new 9, 3) := by decide +kernel
theorem dX8_init_8 : decode cX8_init 8 = .ok (.dup, 1) := by decide +kernel
theorem dX8_init_9 : decode cX8_init 9 = .ok (.invokespecial 11, 3) := by decide +kernel
theorem dX8_init_12 : decode cX8_init 12 = .ok (.putfield 12, 3) := by decide +kernel
theorem dX8_init_15 : decode cX8_init 15 = .ok (.aload_n 0, 1) := by decide +kernel
theorem dX8_init_16 : decode cX8_init 16 = .ok (.new 9, 3) := by decide +kernel
theorem dX8_init_19 : decode cX8_init 19 = .ok (.dup, 1) := by decide +kernel
theorem dX8_init_20 : decode cX8_init 20 = .ok (.invokespecial 11, 3) := by decide +kernel
theorem dX8_init_23 : decode cX8_init 23 = .ok (.putfield 16, 3) := by decide +kernel
theorem dX8_init_26 : decode cX8_init 26 = .ok (.aload_n 0, 1) := by decide +kernel
theorem dX8_init_27 : decode cX8_init 27 = .ok (.new 19, 3) := by decide +kernel
theorem dX8_init_30 : decode cX8_init 30 = .ok (.dup, 1) := by decide +kernel
theorem dX8_init_31 : decode cX8_init 31 = .ok (.invokespecial 21, 3) := by decide +kernel
theorem dX8_init_34 : decode cX8_init 34 = .ok (.putfield 22, 3) := by decide +kernel
theorem dX8_init_37 : decode cX8_init 37 = .ok (.aload_n 0, 1) := by decide +kernel
theorem dX8_init_38 : decode cX8_init 38 = .ok (.new 26, 3) := by decide +kernel
theorem dX8_init_41 : decode cX8_init 41 = .ok (.dup, 1) := by decide +kernel
theorem dX8_init_42 : decode cX8_init 42 = .ok (.invokespecial 28, 3) := by decide +kernel
theorem dX8_init_45 : decode cX8_init 45 = .ok (.putfield 29, 3) := by decide +kernel
theorem dX8_init_48 : decode cX8_init 48 = .ok (.aload_n 0, 1) := by decide +kernel
theorem dX8_init_49 : decode cX8_init 49 = .ok (.new 33, 3) := by decide +kernel
theorem dX8_init_52 : decode cX8_init 52 = .ok (.dup, 1) := by decide +kernel
theorem dX8_init_53 : decode cX8_init 53 = .ok (.invokespecial 35, 3) := by decide +kernel
theorem dX8_init_56 : decode cX8_init 56 = .ok (.putfield 36, 3) := by decide +kernel
theorem dX8_init_59 : decode cX8_init 59 = .ok (.aload_n 0, 1) := by decide +kernel
theorem dX8_init_60 : decode cX8_init 60 = .ok (.new 40, 3) := by decide +kernel
theorem dX8_init_63 : decode cX8_init 63 = .ok (.dup, 1) := by decide +kernel
theorem dX8_init_64 : decode cX8_init 64 = .ok (.invokespecial 42, 3) := by decide +kernel
theorem dX8_init_67 : decode cX8_init 67 = .ok (.putfield 43, 3) := by decide +kernel
theorem dX8_init_70 : decode cX8_init 70 = .ok (.aload_n 0, 1) := by decide +kernel
theorem dX8_init_71 : decode cX8_init 71 = .ok (.new 47, 3) := by decide +kernel
theorem dX8_init_74 : decode cX8_init 74 = .ok (.dup, 1) := by decide +kernel
theorem dX8_init_75 : decode cX8_init 75 = .ok (.invokespecial 49, 3) := by decide +kernel
theorem dX8_init_78 : decode cX8_init 78 = .ok (.putfield 50, 3) := by decide +kernel
theorem dX8_init_81 : decode cX8_init 81 = .ok (.aload_n 0, 1) := by decide +kernel
theorem dX8_init_82 : decode cX8_init 82 = .ok (.new 54, 3) := by decide +kernel
theorem dX8_init_85 : decode cX8_init 85 = .ok (.dup, 1) := by decide +kernel
theorem dX8_init_86 : decode cX8_init 86 = .ok (.invokespecial 56, 3) := by decide +kernel
theorem dX8_init_89 : decode cX8_init 89 = .ok (.putfield 57, 3) := by decide +kernel
theorem dX8_init_92 : decode cX8_init 92 = .ok (.aload_n 0, 1) := by decide +kernel
theorem dX8_init_93 : decode cX8_init 93 = .ok (.new 40, 3) := by decide +kernel
theorem dX8_init_96 : decode cX8_init 96 = .ok (.dup, 1) := by decide +kernel
theorem dX8_init_97 : decode cX8_init 97 = .ok (.invokespecial 42, 3) := by decide +kernel
theorem dX8_init_100 : decode cX8_init 100 = .ok (.putfield 61, 3) := by decide +kernel
theorem dX8_init_103 : decode cX8_init 103 = .ok (.aload_n 0, 1) := by decide +kernel
theorem dX8_init_104 : decode cX8_init 104 = .ok (.new 47, 3) := by decide +kernel
theorem dX8_init_107 : decode cX8_init 107 = .ok (.dup, 1) := by decide +kernel
theorem dX8_init_108 : decode cX8_init 108 = .ok (.invokespecial 49, 3) := by decide +kernel
theorem dX8_init_111 : decode cX8_init 111 = .ok (.putfield 64, 3) := by decide +kernel
theorem dX8_init_114 : decode cX8_init 114 = .ok (.return_, 1) := by decide +kernel
theorem dX8_set_0 : decode cX8_set 0 = .ok (.iload_n 1, 1) := by decide +kernel
theorem dX8_set_1 : decode cX8_set 1 = .ok (.iload_n 2, 1) := by decide +kernel
theorem dX8_set_2 : decode cX8_set 2 = .ok (.invokestatic 67, 3) := by decide +kernel
theorem dX8_set_5 : decode cX8_set 5 = .ok (.ifCond .ne 13, 3) := by decide +kernel
theorem dX8_set_8 : decode cX8_set 8 = .ok (.new 71, 3) := by decide +kernel
theorem dX8_set_11 : decode cX8_set 11 = .ok (.dup, 1) := by decide +kernel
theorem dX8_set_12 : decode cX8_set 12 = .ok (.ldc 73, 2) := by decide +kernel
theorem dX8_set_14 : decode cX8_set 14 = .ok (.invokespecial 75, 3) := by decide +kernel
theorem dX8_set_17 : decode cX8_set 17 = .ok (.athrow, 1) := by decide +kernel
theorem dX8_set_18 : decode cX8_set 18 = .ok (.aload_n 0, 1) := by decide +kernel
theorem dX8_set_19 : decode cX8_set 19 = .ok (.getfield 22, 3) := by decide +kernel
theorem dX8_set_22 : decode cX8_set 22 = .ok (.aload_n 0, 1) := by decide +kernel
theorem dX8_set_23 : decode cX8_set 23 = .ok (.getfield 12, 3) := by decide +kernel
theorem dX8_set_26 : decode cX8_set 26 = .ok (.invokevirtual 78, 3) := by decide +kernel
theorem dX8_set_29 : decode cX8_set 29 = .ok (.aload_n 0, 1) := by decide +kernel
theorem dX8_set_30 : decode cX8_set 30 = .ok (.getfield 12, 3) := by decide +kernel
theorem dX8_set_33 : decode cX8_set 33 = .ok (.iload_n 1, 1) := by decide +kernel
theorem dX8_set_34 : decode cX8_set 34 = .ok (.invokevirtual 82, 3) := by decide +kernel
theorem dX8_set_37 : decode cX8_set 37 = .ok (.istore_n 3, 1) := by decide +kernel
theorem dX8_set_38 : decode cX8_set 38 = .ok (.aload_n 0, 1) := by decide +kernel
theorem dX8_set_39 : decode cX8_set 39 = .ok (.getfield 12, 3) := by decide +kernel
theorem dX8_set_42 : decode cX8_set 42 = .ok (.iload_n 1, 1) := by decide +kernel
theorem dX8_set_43 : decode cX8_set 43 = .ok (.iload_n 2, 1) := by decide +kernel
theorem dX8_set_44 : decode cX8_set 44 = .ok (.invokevirtual 86, 3) := by decide +kernel
theorem dX8_set_47 : decode cX8_set 47 = .ok (.aload_n 0, 1) := by decide +kernel
theorem dX8_set_48 : decode cX8_set 48 = .ok (.invokevirtual 90, 3) := by decide +kernel
theorem dX8_set_51 : decode cX8_set 51 = .ok (.iload_n 3, 1) := by decide +kernel
theorem dX8_set_52 : decode cX8_set 52 = .ok (.ireturn, 1) := by decide +kernel
theorem dX8_value_0 : decode cX8_value 0 = .ok (.iload_n 1, 1) := by decide +kernel
theorem dX8_value_1 : decode cX8_value 1 = .ok (.ifCond .lt 9, 3) := by decide +kernel
theorem dX8_value_4 : decode cX8_value 4 = .ok (.iload_n 1, 1) := by decide +kernel
theorem dX8_value_5 : decode cX8_value 5 = .ok (.bipush 6, 2) := by decide +kernel
theorem dX8_value_7 : decode cX8_value 7 = .ok (.if_icmp .lt 13, 3) := by decide +kernel
theorem dX8_value_10 : decode cX8_value 10 = .ok (.new 71, 3) := by decide +kernel
theorem dX8_value_13 : decode cX8_value 13 = .ok (.dup, 1) := by decide +kernel
theorem dX8_value_14 : decode cX8_value 14 = .ok (.ldc 93, 2) := by decide +kernel
theorem dX8_value_16 : decode cX8_value 16 = .ok (.invokespecial 75, 3) := by decide +kernel
theorem dX8_value_19 : decode cX8_value 19 = .ok (.athrow, 1) := by decide +kernel
theorem dX8_value_20 : decode cX8_value 20 = .ok (.aload_n 0, 1) := by decide +kernel
theorem dX8_value_21 : decode cX8_value 21 = .ok (.iload_n 1, 1) := by decide +kernel
theorem dX8_value_22 : decode cX8_value 22 = .ok (.invokevirtual 95, 3) := by decide +kernel
theorem dX8_value_25 : decode cX8_value 25 = .ok (.ireturn, 1) := by decide +kernel
theorem dX8_addTask_0 : decode cX8_addTask 0 = .ok (.iload_n 1, 1) := by decide +kernel
theorem dX8_addTask_1 : decode cX8_addTask 1 = .ok (.ifCond .lt 17, 3) := by decide +kernel
theorem dX8_addTask_4 : decode cX8_addTask 4 = .ok (.iload_n 1, 1) := by decide +kernel
theorem dX8_addTask_5 : decode cX8_addTask 5 = .ok (.bipush 6, 2) := by decide +kernel
theorem dX8_addTask_7 : decode cX8_addTask 7 = .ok (.if_icmp .ge 11, 3) := by decide +kernel
theorem dX8_addTask_10 : decode cX8_addTask 10 = .ok (.iload_n 2, 1) := by decide +kernel
theorem dX8_addTask_11 : decode cX8_addTask 11 = .ok (.iload_n 3, 1) := by decide +kernel
theorem dX8_addTask_12 : decode cX8_addTask 12 = .ok (.invokestatic 98, 3) := by decide +kernel
theorem dX8_addTask_15 : decode cX8_addTask 15 = .ok (.ifCond .ne 13, 3) := by decide +kernel
theorem dX8_addTask_18 : decode cX8_addTask 18 = .ok (.new 71, 3) := by decide +kernel
theorem dX8_addTask_21 : decode cX8_addTask 21 = .ok (.dup, 1) := by decide +kernel
theorem dX8_addTask_22 : decode cX8_addTask 22 = .ok (.ldc 101, 2) := by decide +kernel
theorem dX8_addTask_24 : decode cX8_addTask 24 = .ok (.invokespecial 75, 3) := by decide +kernel
theorem dX8_addTask_27 : decode cX8_addTask 27 = .ok (.athrow, 1) := by decide +kernel
theorem dX8_addTask_28 : decode cX8_addTask 28 = .ok (.aload_n 0, 1) := by decide +kernel
theorem dX8_addTask_29 : decode cX8_addTask 29 = .ok (.getfield 12, 3) := by decide +kernel
theorem dX8_addTask_32 : decode cX8_addTask 32 = .ok (.invokevirtual 103, 3) := by decide +kernel
theorem dX8_addTask_35 : decode cX8_addTask 35 = .ok (.bipush 24, 2) := by decide +kernel
theorem dX8_addTask_37 : decode cX8_addTask 37 = .ok (.if_icmp .lt 13, 3) := by decide +kernel
theorem dX8_addTask_40 : decode cX8_addTask 40 = .ok (.new 107, 3) := by decide +kernel
theorem dX8_addTask_43 : decode cX8_addTask 43 = .ok (.dup, 1) := by decide +kernel
theorem dX8_addTask_44 : decode cX8_addTask 44 = .ok (.ldc 109, 2) := by decide +kernel
theorem dX8_addTask_46 : decode cX8_addTask 46 = .ok (.invokespecial 111, 3) := by decide +kernel
theorem dX8_addTask_49 : decode cX8_addTask 49 = .ok (.athrow, 1) := by decide +kernel
theorem dX8_addTask_50 : decode cX8_addTask 50 = .ok (.aload_n 0, 1) := by decide +kernel
theorem dX8_addTask_51 : decode cX8_addTask 51 = .ok (.getfield 22, 3) := by decide +kernel
theorem dX8_addTask_54 : decode cX8_addTask 54 = .ok (.aload_n 0, 1) := by decide +kernel
theorem dX8_addTask_55 : decode cX8_addTask 55 = .ok (.getfield 12, 3) := by decide +kernel
theorem dX8_addTask_58 : decode cX8_addTask 58 = .ok (.invokevirtual 78, 3) := by decide +kernel
theorem dX8_addTask_61 : decode cX8_addTask 61 = .ok (.aload_n 0, 1) := by decide +kernel
theorem dX8_addTask_62 : decode cX8_addTask 62 = .ok (.getfield 12, 3) := by decide +kernel
theorem dX8_addTask_65 : decode cX8_addTask 65 = .ok (.iload_n 1, 1) := by decide +kernel
theorem dX8_addTask_66 : decode cX8_addTask 66 = .ok (.iload_n 2, 1) := by decide +kernel
theorem dX8_addTask_67 : decode cX8_addTask 67 = .ok (.iload_n 3, 1) := by decide +kernel
theorem dX8_addTask_68 : decode cX8_addTask 68 = .ok (.invokevirtual 112, 3) := by decide +kernel
theorem dX8_addTask_71 : decode cX8_addTask 71 = .ok (.istore 4, 2) := by decide +kernel
theorem dX8_addTask_73 : decode cX8_addTask 73 = .ok (.aload_n 0, 1) := by decide +kernel
theorem dX8_addTask_74 : decode cX8_addTask 74 = .ok (.invokevirtual 90, 3) := by decide +kernel
theorem dX8_addTask_77 : decode cX8_addTask 77 = .ok (.iload 4, 2) := by decide +kernel
theorem dX8_addTask_79 : decode cX8_addTask 79 = .ok (.ireturn, 1) := by decide +kernel
theorem dX8_move_0 : decode cX8_move 0 = .ok (.aload_n 0, 1) := by decide +kernel
theorem dX8_move_1 : decode cX8_move 1 = .ok (.iload_n 1, 1) := by decide +kernel
theorem dX8_move_2 : decode cX8_move 2 = .ok (.invokevirtual 116, 3) := by decide +kernel
theorem dX8_move_5 : decode cX8_move 5 = .ok (.iload_n 2, 1) := by decide +kernel
theorem dX8_move_6 : decode cX8_move 6 = .ok (.iload_n 3, 1) := by decide +kernel
theorem dX8_move_7 : decode cX8_move 7 = .ok (.invokestatic 98, 3) := by decide +kernel
theorem dX8_move_10 : decode cX8_move 10 = .ok (.ifCond .ne 13, 3) := by decide +kernel
theorem dX8_move_13 : decode cX8_move 13 = .ok (.new 71, 3) := by decide +kernel
theorem dX8_move_16 : decode cX8_move 16 = .ok (.dup, 1) := by decide +kernel
theorem dX8_move_17 : decode cX8_move 17 = .ok (.ldc 120, 2) := by decide +kernel
theorem dX8_move_19 : decode cX8_move 19 = .ok (.invokespecial 75, 3) := by decide +kernel
theorem dX8_move_22 : decode cX8_move 22 = .ok (.athrow, 1) := by decide +kernel
theorem dX8_move_23 : decode cX8_move 23 = .ok (.aload_n 0, 1) := by decide +kernel
theorem dX8_move_24 : decode cX8_move 24 = .ok (.getfield 22, 3) := by decide +kernel
theorem dX8_move_27 : decode cX8_move 27 = .ok (.aload_n 0, 1) := by decide +kernel
theorem dX8_move_28 : decode cX8_move 28 = .ok (.getfield 12, 3) := by decide +kernel
theorem dX8_move_31 : decode cX8_move 31 = .ok (.invokevirtual 78, 3) := by decide +kernel
theorem dX8_move_34 : decode cX8_move 34 = .ok (.aload_n 0, 1) := by decide +kernel
theorem dX8_move_35 : decode cX8_move 35 = .ok (.getfield 12, 3) := by decide +kernel
theorem dX8_move_38 : decode cX8_move 38 = .ok (.iload_n 1, 1) := by decide +kernel
theorem dX8_move_39 : decode cX8_move 39 = .ok (.invokevirtual 122, 3) := by decide +kernel
theorem dX8_move_42 : decode cX8_move 42 = .ok (.istore 4, 2) := by decide +kernel
theorem dX8_move_44 : decode cX8_move 44 = .ok (.aload_n 0, 1) := by decide +kernel
theorem dX8_move_45 : decode cX8_move 45 = .ok (.getfield 12, 3) := by decide +kernel
theorem dX8_move_48 : decode cX8_move 48 = .ok (.iload_n 1, 1) := by decide +kernel
theorem dX8_move_49 : decode cX8_move 49 = .ok (.iload_n 2, 1) := by decide +kernel
theorem dX8_move_50 : decode cX8_move 50 = .ok (.iload_n 3, 1) := by decide +kernel
theorem dX8_move_51 : decode cX8_move 51 = .ok (.invokevirtual 125, 3) := by decide +kernel
theorem dX8_move_54 : decode cX8_move 54 = .ok (.aload_n 0, 1) := by decide +kernel
theorem dX8_move_55 : decode cX8_move 55 = .ok (.invokevirtual 90, 3) := by decide +kernel
theorem dX8_move_58 : decode cX8_move 58 = .ok (.iload 4, 2) := by decide +kernel
theorem dX8_move_60 : decode cX8_move 60 = .ok (.ireturn, 1) := by decide +kernel
theorem dX8_removeTask_0 : decode cX8_removeTask 0 = .ok (.aload_n 0, 1) := by decide +kernel
theorem dX8_removeTask_1 : decode cX8_removeTask 1 = .ok (.iload_n 1, 1) := by decide +kernel
theorem dX8_removeTask_2 : decode cX8_removeTask 2 = .ok (.invokevirtual 116, 3) := by decide +kernel
theorem dX8_removeTask_5 : decode cX8_removeTask 5 = .ok (.aload_n 0, 1) := by decide +kernel
theorem dX8_removeTask_6 : decode cX8_removeTask 6 = .ok (.getfield 22, 3) := by decide +kernel
theorem dX8_removeTask_9 : decode cX8_removeTask 9 = .ok (.aload_n 0, 1) := by decide +kernel
theorem dX8_removeTask_10 : decode cX8_removeTask 10 = .ok (.getfield 12, 3) := by decide +kernel
theorem dX8_removeTask_13 : decode cX8_removeTask 13 = .ok (.invokevirtual 78, 3) := by decide +kernel
theorem dX8_removeTask_16 : decode cX8_removeTask 16 = .ok (.aload_n 0, 1) := by decide +kernel
theorem dX8_removeTask_17 : decode cX8_removeTask 17 = .ok (.getfield 12, 3) := by decide +kernel
theorem dX8_removeTask_20 : decode cX8_removeTask 20 = .ok (.iload_n 1, 1) := by decide +kernel
theorem dX8_removeTask_21 : decode cX8_removeTask 21 = .ok (.invokevirtual 129, 3) := by decide +kernel
theorem dX8_removeTask_24 : decode cX8_removeTask 24 = .ok (.istore_n 2, 1) := by decide +kernel
theorem dX8_removeTask_25 : decode cX8_removeTask 25 = .ok (.aload_n 0, 1) := by decide +kernel
theorem dX8_removeTask_26 : decode cX8_removeTask 26 = .ok (.invokevirtual 90, 3) := by decide +kernel
theorem dX8_removeTask_29 : decode cX8_removeTask 29 = .ok (.iload_n 2, 1) := by decide +kernel
theorem dX8_removeTask_30 : decode cX8_removeTask 30 = .ok (.ireturn, 1) := by decide +kernel
theorem dX8_addArrow_0 : decode cX8_addArrow 0 = .ok (.aload_n 0, 1) := by decide +kernel
theorem dX8_addArrow_1 : decode cX8_addArrow 1 = .ok (.iload_n 1, 1) := by decide +kernel
theorem dX8_addArrow_2 : decode cX8_addArrow 2 = .ok (.invokevirtual 116, 3) := by decide +kernel
theorem dX8_addArrow_5 : decode cX8_addArrow 5 = .ok (.aload_n 0, 1) := by decide +kernel
theorem dX8_addArrow_6 : decode cX8_addArrow 6 = .ok (.iload_n 2, 1) := by decide +kernel
theorem dX8_addArrow_7 : decode cX8_addArrow 7 = .ok (.invokevirtual 116, 3) := by decide +kernel
theorem dX8_addArrow_10 : decode cX8_addArrow 10 = .ok (.iload_n 1, 1) := by decide +kernel
theorem dX8_addArrow_11 : decode cX8_addArrow 11 = .ok (.iload_n 2, 1) := by decide +kernel
theorem dX8_addArrow_12 : decode cX8_addArrow 12 = .ok (.if_icmp .ne 13, 3) := by decide +kernel
theorem dX8_addArrow_15 : decode cX8_addArrow 15 = .ok (.new 71, 3) := by decide +kernel
theorem dX8_addArrow_18 : decode cX8_addArrow 18 = .ok (.dup, 1) := by decide +kernel
theorem dX8_addArrow_19 : decode cX8_addArrow 19 = .ok (.ldc 132, 2) := by decide +kernel
theorem dX8_addArrow_21 : decode cX8_addArrow 21 = .ok (.invokespecial 75, 3) := by decide +kernel
theorem dX8_addArrow_24 : decode cX8_addArrow 24 = .ok (.athrow, 1) := by decide +kernel
theorem dX8_addArrow_25 : decode cX8_addArrow 25 = .ok (.aload_n 0, 1) := by decide +kernel
theorem dX8_addArrow_26 : decode cX8_addArrow 26 = .ok (.getfield 12, 3) := by decide +kernel
theorem dX8_addArrow_29 : decode cX8_addArrow 29 = .ok (.iload_n 1, 1) := by decide +kernel
theorem dX8_addArrow_30 : decode cX8_addArrow 30 = .ok (.iload_n 2, 1) := by decide +kernel
theorem dX8_addArrow_31 : decode cX8_addArrow 31 = .ok (.invokevirtual 134, 3) := by decide +kernel
theorem dX8_addArrow_34 : decode cX8_addArrow 34 = .ok (.ifCond .ne 15, 3) := by decide +kernel
theorem dX8_addArrow_37 : decode cX8_addArrow 37 = .ok (.aload_n 0, 1) := by decide +kernel
theorem dX8_addArrow_38 : decode cX8_addArrow 38 = .ok (.getfield 12, 3) := by decide +kernel
theorem dX8_addArrow_41 : decode cX8_addArrow 41 = .ok (.invokevirtual 137, 3) := by decide +kernel
theorem dX8_addArrow_44 : decode cX8_addArrow 44 = .ok (.bipush 30, 2) := by decide +kernel
theorem dX8_addArrow_46 : decode cX8_addArrow 46 = .ok (.if_icmp .lt 13, 3) := by decide +kernel
theorem dX8_addArrow_49 : decode cX8_addArrow 49 = .ok (.new 107, 3) := by decide +kernel
theorem dX8_addArrow_52 : decode cX8_addArrow 52 = .ok (.dup, 1) := by decide +kernel
theorem dX8_addArrow_53 : decode cX8_addArrow 53 = .ok (.ldc 140, 2) := by decide +kernel
theorem dX8_addArrow_55 : decode cX8_addArrow 55 = .ok (.invokespecial 111, 3) := by decide +kernel
theorem dX8_addArrow_58 : decode cX8_addArrow 58 = .ok (.athrow, 1) := by decide +kernel
theorem dX8_addArrow_59 : decode cX8_addArrow 59 = .ok (.aload_n 0, 1) := by decide +kernel
theorem dX8_addArrow_60 : decode cX8_addArrow 60 = .ok (.getfield 22, 3) := by decide +kernel
theorem dX8_addArrow_63 : decode cX8_addArrow 63 = .ok (.aload_n 0, 1) := by decide +kernel
theorem dX8_addArrow_64 : decode cX8_addArrow 64 = .ok (.getfield 12, 3) := by decide +kernel
theorem dX8_addArrow_67 : decode cX8_addArrow 67 = .ok (.invokevirtual 78, 3) := by decide +kernel
theorem dX8_addArrow_70 : decode cX8_addArrow 70 = .ok (.aload_n 0, 1) := by decide +kernel
theorem dX8_addArrow_71 : decode cX8_addArrow 71 = .ok (.getfield 12, 3) := by decide +kernel
theorem dX8_addArrow_74 : decode cX8_addArrow 74 = .ok (.iload_n 1, 1) := by decide +kernel
theorem dX8_addArrow_75 : decode cX8_addArrow 75 = .ok (.iload_n 2, 1) := by decide +kernel
theorem dX8_addArrow_76 : decode cX8_addArrow 76 = .ok (.invokevirtual 142, 3) := by decide +kernel
theorem dX8_addArrow_79 : decode cX8_addArrow 79 = .ok (.istore_n 3, 1) := by decide +kernel
theorem dX8_addArrow_80 : decode cX8_addArrow 80 = .ok (.aload_n 0, 1) := by decide +kernel
theorem dX8_addArrow_81 : decode cX8_addArrow 81 = .ok (.invokevirtual 90, 3) := by decide +kernel
theorem dX8_addArrow_84 : decode cX8_addArrow 84 = .ok (.iload_n 3, 1) := by decide +kernel
theorem dX8_addArrow_85 : decode cX8_addArrow 85 = .ok (.ireturn, 1) := by decide +kernel
theorem dX8_removeArrow_0 : decode cX8_removeArrow 0 = .ok (.aload_n 0, 1) := by decide +kernel
theorem dX8_removeArrow_1 : decode cX8_removeArrow 1 = .ok (.iload_n 1, 1) := by decide +kernel
theorem dX8_removeArrow_2 : decode cX8_removeArrow 2 = .ok (.invokevirtual 146, 3) := by decide +kernel
theorem dX8_removeArrow_5 : decode cX8_removeArrow 5 = .ok (.aload_n 0, 1) := by decide +kernel
theorem dX8_removeArrow_6 : decode cX8_removeArrow 6 = .ok (.getfield 22, 3) := by decide +kernel
theorem dX8_removeArrow_9 : decode cX8_removeArrow 9 = .ok (.aload_n 0, 1) := by decide +kernel
theorem dX8_removeArrow_10 : decode cX8_removeArrow 10 = .ok (.getfield 12, 3) := by decide +kernel
theorem dX8_removeArrow_13 : decode cX8_removeArrow 13 = .ok (.invokevirtual 78, 3) := by decide +kernel
theorem dX8_removeArrow_16 : decode cX8_removeArrow 16 = .ok (.aload_n 0, 1) := by decide +kernel
theorem dX8_removeArrow_17 : decode cX8_removeArrow 17 = .ok (.getfield 12, 3) := by decide +kernel
theorem dX8_removeArrow_20 : decode cX8_removeArrow 20 = .ok (.iload_n 1, 1) := by decide +kernel
theorem dX8_removeArrow_21 : decode cX8_removeArrow 21 = .ok (.invokevirtual 149, 3) := by decide +kernel
theorem dX8_removeArrow_24 : decode cX8_removeArrow 24 = .ok (.aload_n 0, 1) := by decide +kernel
theorem dX8_removeArrow_25 : decode cX8_removeArrow 25 = .ok (.invokevirtual 90, 3) := by decide +kernel
theorem dX8_removeArrow_28 : decode cX8_removeArrow 28 = .ok (.aload_n 0, 1) := by decide +kernel
theorem dX8_removeArrow_29 : decode cX8_removeArrow 29 = .ok (.getfield 12, 3) := by decide +kernel
theorem dX8_removeArrow_32 : decode cX8_removeArrow 32 = .ok (.invokevirtual 137, 3) := by decide +kernel
theorem dX8_removeArrow_35 : decode cX8_removeArrow 35 = .ok (.ireturn, 1) := by decide +kernel
theorem dX8_task_0 : decode cX8_task 0 = .ok (.aload_n 0, 1) := by decide +kernel
theorem dX8_task_1 : decode cX8_task 1 = .ok (.iload_n 1, 1) := by decide +kernel
theorem dX8_task_2 : decode cX8_task 2 = .ok (.invokevirtual 116, 3) := by decide +kernel
theorem dX8_task_5 : decode cX8_task 5 = .ok (.iload_n 2, 1) := by decide +kernel
theorem dX8_task_6 : decode cX8_task 6 = .ok (.ifCond .lt 9, 3) := by decide +kernel
theorem dX8_task_9 : decode cX8_task 9 = .ok (.iload_n 2, 1) := by decide +kernel
theorem dX8_task_10 : decode cX8_task 10 = .ok (.bipush 7, 2) := by decide +kernel
theorem dX8_task_12 : decode cX8_task 12 = .ok (.if_icmp .lt 13, 3) := by decide +kernel
theorem dX8_task_15 : decode cX8_task 15 = .ok (.new 71, 3) := by decide +kernel
theorem dX8_task_18 : decode cX8_task 18 = .ok (.dup, 1) := by decide +kernel
theorem dX8_task_19 : decode cX8_task 19 = .ok (.ldc 152, 2) := by decide +kernel
theorem dX8_task_21 : decode cX8_task 21 = .ok (.invokespecial 75, 3) := by decide +kernel
theorem dX8_task_24 : decode cX8_task 24 = .ok (.athrow, 1) := by decide +kernel
theorem dX8_task_25 : decode cX8_task 25 = .ok (.aload_n 0, 1) := by decide +kernel
theorem dX8_task_26 : decode cX8_task 26 = .ok (.iload_n 1, 1) := by decide +kernel
theorem dX8_task_27 : decode cX8_task 27 = .ok (.iload_n 2, 1) := by decide +kernel
theorem dX8_task_28 : decode cX8_task 28 = .ok (.invokevirtual 154, 3) := by decide +kernel
theorem dX8_task_31 : decode cX8_task 31 = .ok (.ireturn, 1) := by decide +kernel
theorem dX8_bands_0 : decode cX8_bands 0 = .ok (.aload_n 0, 1) := by decide +kernel
theorem dX8_bands_1 : decode cX8_bands 1 = .ok (.getfield 43, 3) := by decide +kernel
theorem dX8_bands_4 : decode cX8_bands 4 = .ok (.invokevirtual 157, 3) := by decide +kernel
theorem dX8_bands_7 : decode cX8_bands 7 = .ok (.ireturn, 1) := by decide +kernel
theorem dX8_row_0 : decode cX8_row 0 = .ok (.aload_n 0, 1) := by decide +kernel
theorem dX8_row_1 : decode cX8_row 1 = .ok (.iload_n 1, 1) := by decide +kernel
theorem dX8_row_2 : decode cX8_row 2 = .ok (.invokevirtual 160, 3) := by decide +kernel
theorem dX8_row_5 : decode cX8_row 5 = .ok (.aload_n 0, 1) := by decide +kernel
theorem dX8_row_6 : decode cX8_row 6 = .ok (.iload_n 2, 1) := by decide +kernel
theorem dX8_row_7 : decode cX8_row 7 = .ok (.invokevirtual 163, 3) := by decide +kernel
theorem dX8_row_10 : decode cX8_row 10 = .ok (.aload_n 0, 1) := by decide +kernel
theorem dX8_row_11 : decode cX8_row 11 = .ok (.getfield 43, 3) := by decide +kernel
theorem dX8_row_14 : decode cX8_row 14 = .ok (.iload_n 1, 1) := by decide +kernel
theorem dX8_row_15 : decode cX8_row 15 = .ok (.iload_n 2, 1) := by decide +kernel
theorem dX8_row_16 : decode cX8_row 16 = .ok (.invokevirtual 166, 3) := by decide +kernel
theorem dX8_row_19 : decode cX8_row 19 = .ok (.ireturn, 1) := by decide +kernel
theorem dX8_part_0 : decode cX8_part 0 = .ok (.aload_n 0, 1) := by decide +kernel
theorem dX8_part_1 : decode cX8_part 1 = .ok (.iload_n 1, 1) := by decide +kernel
theorem dX8_part_2 : decode cX8_part 2 = .ok (.invokevirtual 116, 3) := by decide +kernel
theorem dX8_part_5 : decode cX8_part 5 = .ok (.iload_n 2, 1) := by decide +kernel
theorem dX8_part_6 : decode cX8_part 6 = .ok (.ifCond .lt 12, 3) := by decide +kernel
theorem dX8_part_9 : decode cX8_part 9 = .ok (.iload_n 2, 1) := by decide +kernel
theorem dX8_part_10 : decode cX8_part 10 = .ok (.aload_n 0, 1) := by decide +kernel
theorem dX8_part_11 : decode cX8_part 11 = .ok (.iload_n 1, 1) := by decide +kernel
theorem dX8_part_12 : decode cX8_part 12 = .ok (.invokevirtual 183, 3) := by decide +kernel
theorem dX8_part_15 : decode cX8_part 15 = .ok (.if_icmp .lt 13, 3) := by decide +kernel
theorem dX8_part_18 : decode cX8_part 18 = .ok (.new 186, 3) := by decide +kernel
theorem dX8_part_21 : decode cX8_part 21 = .ok (.dup, 1) := by decide +kernel
theorem dX8_part_22 : decode cX8_part 22 = .ok (.ldc 188, 2) := by decide +kernel
theorem dX8_part_24 : decode cX8_part 24 = .ok (.invokespecial 190, 3) := by decide +kernel
theorem dX8_part_27 : decode cX8_part 27 = .ok (.athrow, 1) := by decide +kernel
theorem dX8_part_28 : decode cX8_part 28 = .ok (.iload_n 3, 1) := by decide +kernel
theorem dX8_part_29 : decode cX8_part 29 = .ok (.ifCond .lt 8, 3) := by decide +kernel
theorem dX8_part_32 : decode cX8_part 32 = .ok (.iload_n 3, 1) := by decide +kernel
theorem dX8_part_33 : decode cX8_part 33 = .ok (.iconst 5, 1) := by decide +kernel
theorem dX8_part_34 : decode cX8_part 34 = .ok (.if_icmp .lt 13, 3) := by decide +kernel
theorem dX8_part_37 : decode cX8_part 37 = .ok (.new 71, 3) := by decide +kernel
theorem dX8_part_40 : decode cX8_part 40 = .ok (.dup, 1) := by decide +kernel
theorem dX8_part_41 : decode cX8_part 41 = .ok (.ldc 191, 2) := by decide +kernel
theorem dX8_part_43 : decode cX8_part 43 = .ok (.invokespecial 75, 3) := by decide +kernel
theorem dX8_part_46 : decode cX8_part 46 = .ok (.athrow, 1) := by decide +kernel
theorem dX8_part_47 : decode cX8_part 47 = .ok (.aload_n 0, 1) := by decide +kernel
theorem dX8_part_48 : decode cX8_part 48 = .ok (.iload_n 1, 1) := by decide +kernel
theorem dX8_part_49 : decode cX8_part 49 = .ok (.iload_n 2, 1) := by decide +kernel
theorem dX8_part_50 : decode cX8_part 50 = .ok (.iload_n 3, 1) := by decide +kernel
theorem dX8_part_51 : decode cX8_part 51 = .ok (.invokevirtual 193, 3) := by decide +kernel
theorem dX8_part_54 : decode cX8_part 54 = .ok (.ireturn, 1) := by decide +kernel
theorem dX8_arrow_0 : decode cX8_arrow 0 = .ok (.aload_n 0, 1) := by decide +kernel
theorem dX8_arrow_1 : decode cX8_arrow 1 = .ok (.iload_n 1, 1) := by decide +kernel
theorem dX8_arrow_2 : decode cX8_arrow 2 = .ok (.invokevirtual 146, 3) := by decide +kernel
theorem dX8_arrow_5 : decode cX8_arrow 5 = .ok (.iload_n 2, 1) := by decide +kernel
theorem dX8_arrow_6 : decode cX8_arrow 6 = .ok (.ifCond .lt 9, 3) := by decide +kernel
theorem dX8_arrow_9 : decode cX8_arrow 9 = .ok (.iload_n 2, 1) := by decide +kernel
theorem dX8_arrow_10 : decode cX8_arrow 10 = .ok (.bipush 6, 2) := by decide +kernel
theorem dX8_arrow_12 : decode cX8_arrow 12 = .ok (.if_icmp .lt 13, 3) := by decide +kernel
theorem dX8_arrow_15 : decode cX8_arrow 15 = .ok (.new 71, 3) := by decide +kernel
theorem dX8_arrow_18 : decode cX8_arrow 18 = .ok (.dup, 1) := by decide +kernel
theorem dX8_arrow_19 : decode cX8_arrow 19 = .ok (.ldc 196, 2) := by decide +kernel
theorem dX8_arrow_21 : decode cX8_arrow 21 = .ok (.invokespecial 75, 3) := by decide +kernel
theorem dX8_arrow_24 : decode cX8_arrow 24 = .ok (.athrow, 1) := by decide +kernel
theorem dX8_arrow_25 : decode cX8_arrow 25 = .ok (.aload_n 0, 1) := by decide +kernel
theorem dX8_arrow_26 : decode cX8_arrow 26 = .ok (.iload_n 1, 1) := by decide +kernel
theorem dX8_arrow_27 : decode cX8_arrow 27 = .ok (.iload_n 2, 1) := by decide +kernel
theorem dX8_arrow_28 : decode cX8_arrow 28 = .ok (.invokevirtual 198, 3) := by decide +kernel
theorem dX8_arrow_31 : decode cX8_arrow 31 = .ok (.ireturn, 1) := by decide +kernel
theorem dX8_delay_0 : decode cX8_delay 0 = .ok (.aload_n 0, 1) := by decide +kernel
theorem dX8_delay_1 : decode cX8_delay 1 = .ok (.iload_n 1, 1) := by decide +kernel
theorem dX8_delay_2 : decode cX8_delay 2 = .ok (.invokevirtual 116, 3) := by decide +kernel
theorem dX8_delay_5 : decode cX8_delay 5 = .ok (.iconst 0, 1) := by decide +kernel
theorem dX8_delay_6 : decode cX8_delay 6 = .ok (.istore_n 2, 1) := by decide +kernel
theorem dX8_delay_7 : decode cX8_delay 7 = .ok (.iconst 0, 1) := by decide +kernel
theorem dX8_delay_8 : decode cX8_delay 8 = .ok (.istore_n 3, 1) := by decide +kernel
theorem dX8_delay_9 : decode cX8_delay 9 = .ok (.iload_n 3, 1) := by decide +kernel
theorem dX8_delay_10 : decode cX8_delay 10 = .ok (.aload_n 0, 1) := by decide +kernel
theorem dX8_delay_11 : decode cX8_delay 11 = .ok (.getfield 12, 3) := by decide +kernel
theorem dX8_delay_14 : decode cX8_delay 14 = .ok (.invokevirtual 137, 3) := by decide +kernel
theorem dX8_delay_17 : decode cX8_delay 17 = .ok (.if_icmp .ge 52, 3) := by decide +kernel
theorem dX8_delay_20 : decode cX8_delay 20 = .ok (.aload_n 0, 1) := by decide +kernel
theorem dX8_delay_21 : decode cX8_delay 21 = .ok (.getfield 12, 3) := by decide +kernel
theorem dX8_delay_24 : decode cX8_delay 24 = .ok (.iload_n 3, 1) := by decide +kernel
theorem dX8_delay_25 : decode cX8_delay 25 = .ok (.invokevirtual 234, 3) := by decide +kernel
theorem dX8_delay_28 : decode cX8_delay 28 = .ok (.iload_n 1, 1) := by decide +kernel
theorem dX8_delay_29 : decode cX8_delay 29 = .ok (.if_icmp .ne 34, 3) := by decide +kernel
theorem dX8_delay_32 : decode cX8_delay 32 = .ok (.iload_n 2, 1) := by decide +kernel
theorem dX8_delay_33 : decode cX8_delay 33 = .ok (.aload_n 0, 1) := by decide +kernel
theorem dX8_delay_34 : decode cX8_delay 34 = .ok (.getfield 12, 3) := by decide +kernel
theorem dX8_delay_37 : decode cX8_delay 37 = .ok (.aload_n 0, 1) := by decide +kernel
theorem dX8_delay_38 : decode cX8_delay 38 = .ok (.getfield 12, 3) := by decide +kernel
theorem dX8_delay_41 : decode cX8_delay 41 = .ok (.iload_n 3, 1) := by decide +kernel
theorem dX8_delay_42 : decode cX8_delay 42 = .ok (.invokevirtual 237, 3) := by decide +kernel
theorem dX8_delay_45 : decode cX8_delay 45 = .ok (.invokevirtual 240, 3) := by decide +kernel
theorem dX8_delay_48 : decode cX8_delay 48 = .ok (.iconst 1, 1) := by decide +kernel
theorem dX8_delay_49 : decode cX8_delay 49 = .ok (.iadd, 1) := by decide +kernel
theorem dX8_delay_50 : decode cX8_delay 50 = .ok (.aload_n 0, 1) := by decide +kernel
theorem dX8_delay_51 : decode cX8_delay 51 = .ok (.getfield 12, 3) := by decide +kernel
theorem dX8_delay_54 : decode cX8_delay 54 = .ok (.iload_n 1, 1) := by decide +kernel
theorem dX8_delay_55 : decode cX8_delay 55 = .ok (.invokevirtual 122, 3) := by decide +kernel
theorem dX8_delay_58 : decode cX8_delay 58 = .ok (.isub, 1) := by decide +kernel
theorem dX8_delay_59 : decode cX8_delay 59 = .ok (.invokestatic 243, 3) := by decide +kernel
theorem dX8_delay_62 : decode cX8_delay 62 = .ok (.istore_n 2, 1) := by decide +kernel
theorem dX8_delay_63 : decode cX8_delay 63 = .ok (.iinc 3 1, 3) := by decide +kernel
theorem dX8_delay_66 : decode cX8_delay 66 = .ok (.goto (-57), 3) := by decide +kernel
theorem dX8_delay_69 : decode cX8_delay 69 = .ok (.iload_n 2, 1) := by decide +kernel
theorem dX8_delay_70 : decode cX8_delay 70 = .ok (.ireturn, 1) := by decide +kernel
theorem dX8_longestChain_0 : decode cX8_longestChain 0 = .ok (.aload_n 0, 1) := by decide +kernel
theorem dX8_longestChain_1 : decode cX8_longestChain 1 = .ok (.getfield 36, 3) := by decide +kernel
theorem dX8_longestChain_4 : decode cX8_longestChain 4 = .ok (.aload_n 0, 1) := by decide +kernel
theorem dX8_longestChain_5 : decode cX8_longestChain 5 = .ok (.getfield 12, 3) := by decide +kernel
theorem dX8_longestChain_8 : decode cX8_longestChain 8 = .ok (.invokevirtual 248, 3) := by decide +kernel
theorem dX8_longestChain_11 : decode cX8_longestChain 11 = .ok (.ireturn, 1) := by decide +kernel
theorem dX8_printAnew_0 : decode cX8_printAnew 0 = .ok (.aload_n 0, 1) := by decide +kernel
theorem dX8_printAnew_1 : decode cX8_printAnew 1 = .ok (.getfield 43, 3) := by decide +kernel
theorem dX8_printAnew_4 : decode cX8_printAnew 4 = .ok (.aload_n 0, 1) := by decide +kernel
theorem dX8_printAnew_5 : decode cX8_printAnew 5 = .ok (.getfield 12, 3) := by decide +kernel
theorem dX8_printAnew_8 : decode cX8_printAnew 8 = .ok (.aload_n 0, 1) := by decide +kernel
theorem dX8_printAnew_9 : decode cX8_printAnew 9 = .ok (.getfield 12, 3) := by decide +kernel
theorem dX8_printAnew_12 : decode cX8_printAnew 12 = .ok (.iconst 0, 1) := by decide +kernel
theorem dX8_printAnew_13 : decode cX8_printAnew 13 = .ok (.invokevirtual 82, 3) := by decide +kernel
theorem dX8_printAnew_16 : decode cX8_printAnew 16 = .ok (.invokevirtual 223, 3) := by decide +kernel
theorem dX8_printAnew_19 : decode cX8_printAnew 19 = .ok (.aload_n 0, 1) := by decide +kernel
theorem dX8_printAnew_20 : decode cX8_printAnew 20 = .ok (.getfield 50, 3) := by decide +kernel
theorem dX8_printAnew_23 : decode cX8_printAnew 23 = .ok (.aload_n 0, 1) := by decide +kernel
theorem dX8_printAnew_24 : decode cX8_printAnew 24 = .ok (.getfield 12, 3) := by decide +kernel
theorem dX8_printAnew_27 : decode cX8_printAnew 27 = .ok (.aload_n 0, 1) := by decide +kernel
theorem dX8_printAnew_28 : decode cX8_printAnew 28 = .ok (.getfield 43, 3) := by decide +kernel
theorem dX8_printAnew_31 : decode cX8_printAnew 31 = .ok (.aload_n 0, 1) := by decide +kernel
theorem dX8_printAnew_32 : decode cX8_printAnew 32 = .ok (.getfield 12, 3) := by decide +kernel
theorem dX8_printAnew_35 : decode cX8_printAnew 35 = .ok (.iconst 1, 1) := by decide +kernel
theorem dX8_printAnew_36 : decode cX8_printAnew 36 = .ok (.invokevirtual 82, 3) := by decide +kernel
theorem dX8_printAnew_39 : decode cX8_printAnew 39 = .ok (.invokevirtual 227, 3) := by decide +kernel
theorem dX8_printAnew_42 : decode cX8_printAnew 42 = .ok (.aload_n 0, 1) := by decide +kernel
theorem dX8_printAnew_43 : decode cX8_printAnew 43 = .ok (.getfield 57, 3) := by decide +kernel
theorem dX8_printAnew_46 : decode cX8_printAnew 46 = .ok (.aload_n 0, 1) := by decide +kernel
theorem dX8_printAnew_47 : decode cX8_printAnew 47 = .ok (.getfield 12, 3) := by decide +kernel
theorem dX8_printAnew_50 : decode cX8_printAnew 50 = .ok (.aload_n 0, 1) := by decide +kernel
theorem dX8_printAnew_51 : decode cX8_printAnew 51 = .ok (.getfield 43, 3) := by decide +kernel
theorem dX8_printAnew_54 : decode cX8_printAnew 54 = .ok (.aload_n 0, 1) := by decide +kernel
theorem dX8_printAnew_55 : decode cX8_printAnew 55 = .ok (.getfield 50, 3) := by decide +kernel
theorem dX8_printAnew_58 : decode cX8_printAnew 58 = .ok (.invokevirtual 294, 3) := by decide +kernel
theorem dX8_printAnew_61 : decode cX8_printAnew 61 = .ok (.return_, 1) := by decide +kernel
theorem dX8_requireTask_0 : decode cX8_requireTask 0 = .ok (.aload_n 0, 1) := by decide +kernel
theorem dX8_requireTask_1 : decode cX8_requireTask 1 = .ok (.getfield 12, 3) := by decide +kernel
theorem dX8_requireTask_4 : decode cX8_requireTask 4 = .ok (.iload_n 1, 1) := by decide +kernel
theorem dX8_requireTask_5 : decode cX8_requireTask 5 = .ok (.invokevirtual 298, 3) := by decide +kernel
theorem dX8_requireTask_8 : decode cX8_requireTask 8 = .ok (.ifCond .ne 14, 3) := by decide +kernel
theorem dX8_requireTask_11 : decode cX8_requireTask 11 = .ok (.new 186, 3) := by decide +kernel
theorem dX8_requireTask_14 : decode cX8_requireTask 14 = .ok (.dup, 1) := by decide +kernel
theorem dX8_requireTask_15 : decode cX8_requireTask 15 = .ok (.ldc_w 302, 3) := by decide +kernel
theorem dX8_requireTask_18 : decode cX8_requireTask 18 = .ok (.invokespecial 190, 3) := by decide +kernel
theorem dX8_requireTask_21 : decode cX8_requireTask 21 = .ok (.athrow, 1) := by decide +kernel
theorem dX8_requireTask_22 : decode cX8_requireTask 22 = .ok (.return_, 1) := by decide +kernel
theorem dX8_requireArrow_0 : decode cX8_requireArrow 0 = .ok (.aload_n 0, 1) := by decide +kernel
theorem dX8_requireArrow_1 : decode cX8_requireArrow 1 = .ok (.getfield 12, 3) := by decide +kernel
theorem dX8_requireArrow_4 : decode cX8_requireArrow 4 = .ok (.iload_n 1, 1) := by decide +kernel
theorem dX8_requireArrow_5 : decode cX8_requireArrow 5 = .ok (.invokevirtual 304, 3) := by decide +kernel
theorem dX8_requireArrow_8 : decode cX8_requireArrow 8 = .ok (.ifCond .ne 14, 3) := by decide +kernel
theorem dX8_requireArrow_11 : decode cX8_requireArrow 11 = .ok (.new 186, 3) := by decide +kernel
theorem dX8_requireArrow_14 : decode cX8_requireArrow 14 = .ok (.dup, 1) := by decide +kernel
theorem dX8_requireArrow_15 : decode cX8_requireArrow 15 = .ok (.ldc_w 307, 3) := by decide +kernel
theorem dX8_requireArrow_18 : decode cX8_requireArrow 18 = .ok (.invokespecial 190, 3) := by decide +kernel
theorem dX8_requireArrow_21 : decode cX8_requireArrow 21 = .ok (.athrow, 1) := by decide +kernel
theorem dX8_requireArrow_22 : decode cX8_requireArrow 22 = .ok (.return_, 1) := by decide +kernel
theorem dX8_requireBand_0 : decode cX8_requireBand 0 = .ok (.iload_n 1, 1) := by decide +kernel
theorem dX8_requireBand_1 : decode cX8_requireBand 1 = .ok (.ifCond .lt 14, 3) := by decide +kernel
theorem dX8_requireBand_4 : decode cX8_requireBand 4 = .ok (.iload_n 1, 1) := by decide +kernel
theorem dX8_requireBand_5 : decode cX8_requireBand 5 = .ok (.aload_n 0, 1) := by decide +kernel
theorem dX8_requireBand_6 : decode cX8_requireBand 6 = .ok (.getfield 43, 3) := by decide +kernel
theorem dX8_requireBand_9 : decode cX8_requireBand 9 = .ok (.invokevirtual 157, 3) := by decide +kernel
theorem dX8_requireBand_12 : decode cX8_requireBand 12 = .ok (.if_icmp .lt 14, 3) := by decide +kernel
theorem dX8_requireBand_15 : decode cX8_requireBand 15 = .ok (.new 186, 3) := by decide +kernel
theorem dX8_requireBand_18 : decode cX8_requireBand 18 = .ok (.dup, 1) := by decide +kernel
theorem dX8_requireBand_19 : decode cX8_requireBand 19 = .ok (.ldc_w 309, 3) := by decide +kernel
theorem dX8_requireBand_22 : decode cX8_requireBand 22 = .ok (.invokespecial 190, 3) := by decide +kernel
theorem dX8_requireBand_25 : decode cX8_requireBand 25 = .ok (.athrow, 1) := by decide +kernel
theorem dX8_requireBand_26 : decode cX8_requireBand 26 = .ok (.return_, 1) := by decide +kernel
theorem dX8_requireRow_0 : decode cX8_requireRow 0 = .ok (.iload_n 1, 1) := by decide +kernel
theorem dX8_requireRow_1 : decode cX8_requireRow 1 = .ok (.ifCond .lt 15, 3) := by decide +kernel
theorem dX8_requireRow_4 : decode cX8_requireRow 4 = .ok (.iload_n 1, 1) := by decide +kernel
theorem dX8_requireRow_5 : decode cX8_requireRow 5 = .ok (.aload_n 0, 1) := by decide +kernel
theorem dX8_requireRow_6 : decode cX8_requireRow 6 = .ok (.getfield 12, 3) := by decide +kernel
theorem dX8_requireRow_9 : decode cX8_requireRow 9 = .ok (.iconst 0, 1) := by decide +kernel
theorem dX8_requireRow_10 : decode cX8_requireRow 10 = .ok (.invokevirtual 82, 3) := by decide +kernel
theorem dX8_requireRow_13 : decode cX8_requireRow 13 = .ok (.if_icmp .lt 14, 3) := by decide +kernel
theorem dX8_requireRow_16 : decode cX8_requireRow 16 = .ok (.new 186, 3) := by decide +kernel
theorem dX8_requireRow_19 : decode cX8_requireRow 19 = .ok (.dup, 1) := by decide +kernel
theorem dX8_requireRow_20 : decode cX8_requireRow 20 = .ok (.ldc_w 311, 3) := by decide +kernel
theorem dX8_requireRow_23 : decode cX8_requireRow 23 = .ok (.invokespecial 190, 3) := by decide +kernel
theorem dX8_requireRow_26 : decode cX8_requireRow 26 = .ok (.athrow, 1) := by decide +kernel
theorem dX8_requireRow_27 : decode cX8_requireRow 27 = .ok (.return_, 1) := by decide +kernel
theorem dX8_isSetting_0 : decode cX8_isSetting 0 = .ok (.iload_n 0, 1) := by decide +kernel
theorem dX8_isSetting_1 : decode cX8_isSetting 1 = .ok (.ifCond .lt 19, 3) := by decide +kernel
theorem dX8_isSetting_4 : decode cX8_isSetting 4 = .ok (.iload_n 0, 1) := by decide +kernel
theorem dX8_isSetting_5 : decode cX8_isSetting 5 = .ok (.getstatic 315, 3) := by decide +kernel
theorem dX8_isSetting_8 : decode cX8_isSetting 8 = .ok (.arraylength, 1) := by decide +kernel
theorem dX8_isSetting_9 : decode cX8_isSetting 9 = .ok (.if_icmp .ge 11, 3) := by decide +kernel
theorem dX8_isSetting_12 : decode cX8_isSetting 12 = .ok (.iload_n 0, 1) := by decide +kernel
theorem dX8_isSetting_13 : decode cX8_isSetting 13 = .ok (.getstatic 319, 3) := by decide +kernel
theorem dX8_isSetting_16 : decode cX8_isSetting 16 = .ok (.arraylength, 1) := by decide +kernel
theorem dX8_isSetting_17 : decode cX8_isSetting 17 = .ok (.if_icmp .lt 5, 3) := by decide +kernel
theorem dX8_isSetting_20 : decode cX8_isSetting 20 = .ok (.iconst 0, 1) := by decide +kernel
theorem dX8_isSetting_21 : decode cX8_isSetting 21 = .ok (.ireturn, 1) := by decide +kernel
theorem dX8_isSetting_22 : decode cX8_isSetting 22 = .ok (.iload_n 1, 1) := by decide +kernel
theorem dX8_isSetting_23 : decode cX8_isSetting 23 = .ok (.getstatic 315, 3) := by decide +kernel
theorem dX8_isSetting_26 : decode cX8_isSetting 26 = .ok (.iload_n 0, 1) := by decide +kernel
theorem dX8_isSetting_27 : decode cX8_isSetting 27 = .ok (.iaload, 1) := by decide +kernel
theorem dX8_isSetting_28 : decode cX8_isSetting 28 = .ok (.if_icmp .lt 16, 3) := by decide +kernel
theorem dX8_isSetting_31 : decode cX8_isSetting 31 = .ok (.iload_n 1, 1) := by decide +kernel
theorem dX8_isSetting_32 : decode cX8_isSetting 32 = .ok (.getstatic 319, 3) := by decide +kernel
theorem dX8_isSetting_35 : decode cX8_isSetting 35 = .ok (.iload_n 0, 1) := by decide +kernel
theorem dX8_isSetting_36 : decode cX8_isSetting 36 = .ok (.iaload, 1) := by decide +kernel
theorem dX8_isSetting_37 : decode cX8_isSetting 37 = .ok (.if_icmp .gt 7, 3) := by decide +kernel
theorem dX8_isSetting_40 : decode cX8_isSetting 40 = .ok (.iconst 1, 1) := by decide +kernel
theorem dX8_isSetting_41 : decode cX8_isSetting 41 = .ok (.goto 4, 3) := by decide +kernel
theorem dX8_isSetting_44 : decode cX8_isSetting 44 = .ok (.iconst 0, 1) := by decide +kernel
theorem dX8_isSetting_45 : decode cX8_isSetting 45 = .ok (.ireturn, 1) := by decide +kernel
theorem dX8_isBar_0 : decode cX8_isBar 0 = .ok (.iload_n 0, 1) := by decide +kernel
theorem dX8_isBar_1 : decode cX8_isBar 1 = .ok (.ifCond .lt 25, 3) := by decide +kernel
theorem dX8_isBar_4 : decode cX8_isBar 4 = .ok (.iload_n 0, 1) := by decide +kernel
theorem dX8_isBar_5 : decode cX8_isBar 5 = .ok (.sipush 199, 3) := by decide +kernel
theorem dX8_isBar_8 : decode cX8_isBar 8 = .ok (.if_icmp .gt 18, 3) := by decide +kernel
theorem dX8_isBar_11 : decode cX8_isBar 11 = .ok (.iload_n 1, 1) := by decide +kernel
theorem dX8_isBar_12 : decode cX8_isBar 12 = .ok (.iconst 1, 1) := by decide +kernel
theorem dX8_isBar_13 : decode cX8_isBar 13 = .ok (.if_icmp .lt 13, 3) := by decide +kernel
theorem dX8_isBar_16 : decode cX8_isBar 16 = .ok (.iload_n 1, 1) := by decide +kernel
theorem dX8_isBar_17 : decode cX8_isBar 17 = .ok (.bipush 60, 2) := by decide +kernel
theorem dX8_isBar_19 : decode cX8_isBar 19 = .ok (.if_icmp .gt 7, 3) := by decide +kernel
theorem dX8_isBar_22 : decode cX8_isBar 22 = .ok (.iconst 1, 1) := by decide +kernel
theorem dX8_isBar_23 : decode cX8_isBar 23 = .ok (.goto 4, 3) := by decide +kernel
theorem dX8_isBar_26 : decode cX8_isBar 26 = .ok (.iconst 0, 1) := by decide +kernel
theorem dX8_isBar_27 : decode cX8_isBar 27 = .ok (.ireturn, 1) := by decide +kernel
theorem dX8_stripOfDay_0 : decode cX8_stripOfDay 0 = .ok (.iload_n 1, 1) := by decide +kernel
theorem dX8_stripOfDay_1 : decode cX8_stripOfDay 1 = .ok (.ifCond .le 9, 3) := by decide +kernel
theorem dX8_stripOfDay_4 : decode cX8_stripOfDay 4 = .ok (.iload_n 0, 1) := by decide +kernel
theorem dX8_stripOfDay_5 : decode cX8_stripOfDay 5 = .ok (.iload_n 1, 1) := by decide +kernel
theorem dX8_stripOfDay_6 : decode cX8_stripOfDay 6 = .ok (.idiv, 1) := by decide +kernel
theorem dX8_stripOfDay_7 : decode cX8_stripOfDay 7 = .ok (.goto 4, 3) := by decide +kernel
theorem dX8_stripOfDay_10 : decode cX8_stripOfDay 10 = .ok (.iconst 0, 1) := by decide +kernel
theorem dX8_stripOfDay_11 : decode cX8_stripOfDay 11 = .ok (.ireturn, 1) := by decide +kernel
theorem dX8_partsOf_0 : decode cX8_partsOf 0 = .ok (.aload_n 0, 1) := by decide +kernel
theorem dX8_partsOf_1 : decode cX8_partsOf 1 = .ok (.getfield 12, 3) := by decide +kernel
theorem dX8_partsOf_4 : decode cX8_partsOf 4 = .ok (.iconst 1, 1) := by decide +kernel
theorem dX8_partsOf_5 : decode cX8_partsOf 5 = .ok (.invokevirtual 82, 3) := by decide +kernel
theorem dX8_partsOf_8 : decode cX8_partsOf 8 = .ok (.istore_n 2, 1) := by decide +kernel
theorem dX8_partsOf_9 : decode cX8_partsOf 9 = .ok (.aload_n 0, 1) := by decide +kernel
theorem dX8_partsOf_10 : decode cX8_partsOf 10 = .ok (.getfield 12, 3) := by decide +kernel
theorem dX8_partsOf_13 : decode cX8_partsOf 13 = .ok (.iload_n 1, 1) := by decide +kernel
theorem dX8_partsOf_14 : decode cX8_partsOf 14 = .ok (.invokevirtual 240, 3) := by decide +kernel
theorem dX8_partsOf_17 : decode cX8_partsOf 17 = .ok (.iload_n 2, 1) := by decide +kernel
theorem dX8_partsOf_18 : decode cX8_partsOf 18 = .ok (.invokestatic 322, 3) := by decide +kernel
theorem dX8_partsOf_21 : decode cX8_partsOf 21 = .ok (.aload_n 0, 1) := by decide +kernel
theorem dX8_partsOf_22 : decode cX8_partsOf 22 = .ok (.getfield 12, 3) := by decide +kernel
theorem dX8_partsOf_25 : decode cX8_partsOf 25 = .ok (.iload_n 1, 1) := by decide +kernel
theorem dX8_partsOf_26 : decode cX8_partsOf 26 = .ok (.invokevirtual 122, 3) := by decide +kernel
theorem dX8_partsOf_29 : decode cX8_partsOf 29 = .ok (.iload_n 2, 1) := by decide +kernel
theorem dX8_partsOf_30 : decode cX8_partsOf 30 = .ok (.invokestatic 322, 3) := by decide +kernel
theorem dX8_partsOf_33 : decode cX8_partsOf 33 = .ok (.isub, 1) := by decide +kernel
theorem dX8_partsOf_34 : decode cX8_partsOf 34 = .ok (.iconst 1, 1) := by decide +kernel
theorem dX8_partsOf_35 : decode cX8_partsOf 35 = .ok (.iadd, 1) := by decide +kernel
theorem dX8_partsOf_36 : decode cX8_partsOf 36 = .ok (.ireturn, 1) := by decide +kernel
theorem dX8_numberOfPlan_0 : decode cX8_numberOfPlan 0 = .ok (.iload_n 1, 1) := by decide +kernel
theorem dX8_numberOfPlan_1 : decode cX8_numberOfPlan 1 = .ok (.lookupswitch 43 #[(4, 27), (5, 35)], 27) := by decide +kernel
theorem dX8_numberOfPlan_28 : decode cX8_numberOfPlan 28 = .ok (.aload_n 0, 1) := by decide +kernel
theorem dX8_numberOfPlan_29 : decode cX8_numberOfPlan 29 = .ok (.getfield 12, 3) := by decide +kernel
theorem dX8_numberOfPlan_32 : decode cX8_numberOfPlan 32 = .ok (.invokevirtual 103, 3) := by decide +kernel
theorem dX8_numberOfPlan_35 : decode cX8_numberOfPlan 35 = .ok (.ireturn, 1) := by decide +kernel
theorem dX8_numberOfPlan_36 : decode cX8_numberOfPlan 36 = .ok (.aload_n 0, 1) := by decide +kernel
theorem dX8_numberOfPlan_37 : decode cX8_numberOfPlan 37 = .ok (.getfield 12, 3) := by decide +kernel
theorem dX8_numberOfPlan_40 : decode cX8_numberOfPlan 40 = .ok (.invokevirtual 137, 3) := by decide +kernel
theorem dX8_numberOfPlan_43 : decode cX8_numberOfPlan 43 = .ok (.ireturn, 1) := by decide +kernel
theorem dX8_numberOfPlan_44 : decode cX8_numberOfPlan 44 = .ok (.aload_n 0, 1) := by decide +kernel
theorem dX8_numberOfPlan_45 : decode cX8_numberOfPlan 45 = .ok (.getfield 12, 3) := by decide +kernel
theorem dX8_numberOfPlan_48 : decode cX8_numberOfPlan 48 = .ok (.iload_n 1, 1) := by decide +kernel
theorem dX8_numberOfPlan_49 : decode cX8_numberOfPlan 49 = .ok (.invokevirtual 82, 3) := by decide +kernel
theorem dX8_numberOfPlan_52 : decode cX8_numberOfPlan 52 = .ok (.ireturn, 1) := by decide +kernel
theorem dX8_numberOfTask_0 : decode cX8_numberOfTask 0 = .ok (.iload_n 2, 1) := by decide +kernel
theorem dX8_numberOfTask_1 : decode cX8_numberOfTask 1 = .ok (.tableswitch 93 0 5 #[39, 48, 57, 66, 75, 84], 39) := by decide +kernel
theorem dX8_numberOfTask_40 : decode cX8_numberOfTask 40 = .ok (.aload_n 0, 1) := by decide +kernel
theorem dX8_numberOfTask_41 : decode cX8_numberOfTask 41 = .ok (.getfield 12, 3) := by decide +kernel
theorem dX8_numberOfTask_44 : decode cX8_numberOfTask 44 = .ok (.iload_n 1, 1) := by decide +kernel
theorem dX8_numberOfTask_45 : decode cX8_numberOfTask 45 = .ok (.invokevirtual 326, 3) := by decide +kernel
theorem dX8_numberOfTask_48 : decode cX8_numberOfTask 48 = .ok (.ireturn, 1) := by decide +kernel
theorem dX8_numberOfTask_49 : decode cX8_numberOfTask 49 = .ok (.aload_n 0, 1) := by decide +kernel
theorem dX8_numberOfTask_50 : decode cX8_numberOfTask 50 = .ok (.getfield 12, 3) := by decide +kernel
theorem dX8_numberOfTask_53 : decode cX8_numberOfTask 53 = .ok (.iload_n 1, 1) := by decide +kernel
theorem dX8_numberOfTask_54 : decode cX8_numberOfTask 54 = .ok (.invokevirtual 122, 3) := by decide +kernel
theorem dX8_numberOfTask_57 : decode cX8_numberOfTask 57 = .ok (.ireturn, 1) := by decide +kernel
theorem dX8_numberOfTask_58 : decode cX8_numberOfTask 58 = .ok (.aload_n 0, 1) := by decide +kernel
theorem dX8_numberOfTask_59 : decode cX8_numberOfTask 59 = .ok (.getfield 12, 3) := by decide +kernel
theorem dX8_numberOfTask_62 : decode cX8_numberOfTask 62 = .ok (.iload_n 1, 1) := by decide +kernel
theorem dX8_numberOfTask_63 : decode cX8_numberOfTask 63 = .ok (.invokevirtual 329, 3) := by decide +kernel
theorem dX8_numberOfTask_66 : decode cX8_numberOfTask 66 = .ok (.ireturn, 1) := by decide +kernel
theorem dX8_numberOfTask_67 : decode cX8_numberOfTask 67 = .ok (.aload_n 0, 1) := by decide +kernel
theorem dX8_numberOfTask_68 : decode cX8_numberOfTask 68 = .ok (.getfield 12, 3) := by decide +kernel
theorem dX8_numberOfTask_71 : decode cX8_numberOfTask 71 = .ok (.iload_n 1, 1) := by decide +kernel
theorem dX8_numberOfTask_72 : decode cX8_numberOfTask 72 = .ok (.invokevirtual 240, 3) := by decide +kernel
theorem dX8_numberOfTask_75 : decode cX8_numberOfTask 75 = .ok (.ireturn, 1) := by decide +kernel
theorem dX8_numberOfTask_76 : decode cX8_numberOfTask 76 = .ok (.aload_n 0, 1) := by decide +kernel
theorem dX8_numberOfTask_77 : decode cX8_numberOfTask 77 = .ok (.getfield 43, 3) := by decide +kernel
theorem dX8_numberOfTask_80 : decode cX8_numberOfTask 80 = .ok (.iload_n 1, 1) := by decide +kernel
theorem dX8_numberOfTask_81 : decode cX8_numberOfTask 81 = .ok (.invokevirtual 325, 3) := by decide +kernel
theorem dX8_numberOfTask_84 : decode cX8_numberOfTask 84 = .ok (.ireturn, 1) := by decide +kernel
theorem dX8_numberOfTask_85 : decode cX8_numberOfTask 85 = .ok (.aload_n 0, 1) := by decide +kernel
theorem dX8_numberOfTask_86 : decode cX8_numberOfTask 86 = .ok (.getfield 43, 3) := by decide +kernel
theorem dX8_numberOfTask_89 : decode cX8_numberOfTask 89 = .ok (.iload_n 1, 1) := by decide +kernel
theorem dX8_numberOfTask_90 : decode cX8_numberOfTask 90 = .ok (.invokevirtual 331, 3) := by decide +kernel
theorem dX8_numberOfTask_93 : decode cX8_numberOfTask 93 = .ok (.ireturn, 1) := by decide +kernel
theorem dX8_numberOfTask_94 : decode cX8_numberOfTask 94 = .ok (.aload_n 0, 1) := by decide +kernel
theorem dX8_numberOfTask_95 : decode cX8_numberOfTask 95 = .ok (.iload_n 1, 1) := by decide +kernel
theorem dX8_numberOfTask_96 : decode cX8_numberOfTask 96 = .ok (.invokevirtual 183, 3) := by decide +kernel
theorem dX8_numberOfTask_99 : decode cX8_numberOfTask 99 = .ok (.ireturn, 1) := by decide +kernel
theorem dX8_numberOfPart_0 : decode cX8_numberOfPart 0 = .ok (.aload_n 0, 1) := by decide +kernel
theorem dX8_numberOfPart_1 : decode cX8_numberOfPart 1 = .ok (.getfield 43, 3) := by decide +kernel
theorem dX8_numberOfPart_4 : decode cX8_numberOfPart 4 = .ok (.iload_n 1, 1) := by decide +kernel
theorem dX8_numberOfPart_5 : decode cX8_numberOfPart 5 = .ok (.invokevirtual 325, 3) := by decide +kernel
theorem dX8_numberOfPart_8 : decode cX8_numberOfPart 8 = .ok (.istore 4, 2) := by decide +kernel
theorem dX8_numberOfPart_10 : decode cX8_numberOfPart 10 = .ok (.aload_n 0, 1) := by decide +kernel
theorem dX8_numberOfPart_11 : decode cX8_numberOfPart 11 = .ok (.getfield 12, 3) := by decide +kernel
theorem dX8_numberOfPart_14 : decode cX8_numberOfPart 14 = .ok (.iconst 1, 1) := by decide +kernel
theorem dX8_numberOfPart_15 : decode cX8_numberOfPart 15 = .ok (.invokevirtual 82, 3) := by decide +kernel
theorem dX8_numberOfPart_18 : decode cX8_numberOfPart 18 = .ok (.istore 5, 2) := by decide +kernel
theorem dX8_numberOfPart_20 : decode cX8_numberOfPart 20 = .ok (.aload_n 0, 1) := by decide +kernel
theorem dX8_numberOfPart_21 : decode cX8_numberOfPart 21 = .ok (.getfield 12, 3) := by decide +kernel
theorem dX8_numberOfPart_24 : decode cX8_numberOfPart 24 = .ok (.iload_n 1, 1) := by decide +kernel
theorem dX8_numberOfPart_25 : decode cX8_numberOfPart 25 = .ok (.invokevirtual 122, 3) := by decide +kernel
theorem dX8_numberOfPart_28 : decode cX8_numberOfPart 28 = .ok (.iload 5, 2) := by decide +kernel
theorem dX8_numberOfPart_30 : decode cX8_numberOfPart 30 = .ok (.invokestatic 322, 3) := by decide +kernel
theorem dX8_numberOfPart_33 : decode cX8_numberOfPart 33 = .ok (.iload_n 2, 1) := by decide +kernel
theorem dX8_numberOfPart_34 : decode cX8_numberOfPart 34 = .ok (.iadd, 1) := by decide +kernel
theorem dX8_numberOfPart_35 : decode cX8_numberOfPart 35 = .ok (.istore 6, 2) := by decide +kernel
theorem dX8_numberOfPart_37 : decode cX8_numberOfPart 37 = .ok (.aload_n 0, 1) := by decide +kernel
theorem dX8_numberOfPart_38 : decode cX8_numberOfPart 38 = .ok (.getfield 12, 3) := by decide +kernel
theorem dX8_numberOfPart_41 : decode cX8_numberOfPart 41 = .ok (.iload_n 1, 1) := by decide +kernel
theorem dX8_numberOfPart_42 : decode cX8_numberOfPart 42 = .ok (.invokevirtual 122, 3) := by decide +kernel
theorem dX8_numberOfPart_45 : decode cX8_numberOfPart 45 = .ok (.iload 6, 2) := by decide +kernel
theorem dX8_numberOfPart_47 : decode cX8_numberOfPart 47 = .ok (.iload 5, 2) := by decide +kernel
theorem dX8_numberOfPart_49 : decode cX8_numberOfPart 49 = .ok (.imul, 1) := by decide +kernel
theorem dX8_numberOfPart_50 : decode cX8_numberOfPart 50 = .ok (.invokestatic 243, 3) := by decide +kernel
theorem dX8_numberOfPart_53 : decode cX8_numberOfPart 53 = .ok (.istore 7, 2) := by decide +kernel
theorem dX8_numberOfPart_55 : decode cX8_numberOfPart 55 = .ok (.aload_n 0, 1) := by decide +kernel
theorem dX8_numberOfPart_56 : decode cX8_numberOfPart 56 = .ok (.getfield 12, 3) := by decide +kernel
theorem dX8_numberOfPart_59 : decode cX8_numberOfPart 59 = .ok (.iload_n 1, 1) := by decide +kernel
theorem dX8_numberOfPart_60 : decode cX8_numberOfPart 60 = .ok (.invokevirtual 240, 3) := by decide +kernel
theorem dX8_numberOfPart_63 : decode cX8_numberOfPart 63 = .ok (.iload 6, 2) := by decide +kernel
theorem dX8_numberOfPart_65 : decode cX8_numberOfPart 65 = .ok (.iload 5, 2) := by decide +kernel
theorem dX8_numberOfPart_67 : decode cX8_numberOfPart 67 = .ok (.imul, 1) := by decide +kernel
theorem dX8_numberOfPart_68 : decode cX8_numberOfPart 68 = .ok (.iload 5, 2) := by decide +kernel
theorem dX8_numberOfPart_70 : decode cX8_numberOfPart 70 = .ok (.iadd, 1) := by decide +kernel
theorem dX8_numberOfPart_71 : decode cX8_numberOfPart 71 = .ok (.iconst 1, 1) := by decide +kernel
theorem dX8_numberOfPart_72 : decode cX8_numberOfPart 72 = .ok (.isub, 1) := by decide +kernel
theorem dX8_numberOfPart_73 : decode cX8_numberOfPart 73 = .ok (.invokestatic 343, 3) := by decide +kernel
theorem dX8_numberOfPart_76 : decode cX8_numberOfPart 76 = .ok (.istore 8, 2) := by decide +kernel
theorem dX8_numberOfPart_78 : decode cX8_numberOfPart 78 = .ok (.iload_n 3, 1) := by decide +kernel
theorem dX8_numberOfPart_79 : decode cX8_numberOfPart 79 = .ok (.tableswitch 80 0 3 #[29, 41, 50, 58], 29) := by decide +kernel
theorem dX8_numberOfPart_108 : decode cX8_numberOfPart 108 = .ok (.aload_n 0, 1) := by decide +kernel
theorem dX8_numberOfPart_109 : decode cX8_numberOfPart 109 = .ok (.getfield 50, 3) := by decide +kernel
theorem dX8_numberOfPart_112 : decode cX8_numberOfPart 112 = .ok (.iload 4, 2) := by decide +kernel
theorem dX8_numberOfPart_114 : decode cX8_numberOfPart 114 = .ok (.iload 6, 2) := by decide +kernel
theorem dX8_numberOfPart_116 : decode cX8_numberOfPart 116 = .ok (.invokevirtual 180, 3) := by decide +kernel
theorem dX8_numberOfPart_119 : decode cX8_numberOfPart 119 = .ok (.ireturn, 1) := by decide +kernel
theorem dX8_numberOfPart_120 : decode cX8_numberOfPart 120 = .ok (.iload 7, 2) := by decide +kernel
theorem dX8_numberOfPart_122 : decode cX8_numberOfPart 122 = .ok (.iload 6, 2) := by decide +kernel
theorem dX8_numberOfPart_124 : decode cX8_numberOfPart 124 = .ok (.iload 5, 2) := by decide +kernel
theorem dX8_numberOfPart_126 : decode cX8_numberOfPart 126 = .ok (.imul, 1) := by decide +kernel
theorem dX8_numberOfPart_127 : decode cX8_numberOfPart 127 = .ok (.isub, 1) := by decide +kernel
theorem dX8_numberOfPart_128 : decode cX8_numberOfPart 128 = .ok (.ireturn, 1) := by decide +kernel
theorem dX8_numberOfPart_129 : decode cX8_numberOfPart 129 = .ok (.iload 8, 2) := by decide +kernel
theorem dX8_numberOfPart_131 : decode cX8_numberOfPart 131 = .ok (.iload 7, 2) := by decide +kernel
theorem dX8_numberOfPart_133 : decode cX8_numberOfPart 133 = .ok (.isub, 1) := by decide +kernel
theorem dX8_numberOfPart_134 : decode cX8_numberOfPart 134 = .ok (.iconst 1, 1) := by decide +kernel
theorem dX8_numberOfPart_135 : decode cX8_numberOfPart 135 = .ok (.iadd, 1) := by decide +kernel
theorem dX8_numberOfPart_136 : decode cX8_numberOfPart 136 = .ok (.ireturn, 1) := by decide +kernel
theorem dX8_numberOfPart_137 : decode cX8_numberOfPart 137 = .ok (.iload_n 2, 1) := by decide +kernel
theorem dX8_numberOfPart_138 : decode cX8_numberOfPart 138 = .ok (.ifCond .ne 7, 3) := by decide +kernel
theorem dX8_numberOfPart_141 : decode cX8_numberOfPart 141 = .ok (.iconst (-1), 1) := by decide +kernel
theorem dX8_numberOfPart_142 : decode cX8_numberOfPart 142 = .ok (.goto 16, 3) := by decide +kernel
theorem dX8_numberOfPart_145 : decode cX8_numberOfPart 145 = .ok (.aload_n 0, 1) := by decide +kernel
theorem dX8_numberOfPart_146 : decode cX8_numberOfPart 146 = .ok (.getfield 50, 3) := by decide +kernel
theorem dX8_numberOfPart_149 : decode cX8_numberOfPart 149 = .ok (.iload 4, 2) := by decide +kernel
theorem dX8_numberOfPart_151 : decode cX8_numberOfPart 151 = .ok (.iload 6, 2) := by decide +kernel
theorem dX8_numberOfPart_153 : decode cX8_numberOfPart 153 = .ok (.iconst 1, 1) := by decide +kernel
theorem dX8_numberOfPart_154 : decode cX8_numberOfPart 154 = .ok (.isub, 1) := by decide +kernel
theorem dX8_numberOfPart_155 : decode cX8_numberOfPart 155 = .ok (.invokevirtual 180, 3) := by decide +kernel
theorem dX8_numberOfPart_158 : decode cX8_numberOfPart 158 = .ok (.ireturn, 1) := by decide +kernel
theorem dX8_numberOfPart_159 : decode cX8_numberOfPart 159 = .ok (.iload_n 2, 1) := by decide +kernel
theorem dX8_numberOfPart_160 : decode cX8_numberOfPart 160 = .ok (.aload_n 0, 1) := by decide +kernel
theorem dX8_numberOfPart_161 : decode cX8_numberOfPart 161 = .ok (.iload_n 1, 1) := by decide +kernel
theorem dX8_numberOfPart_162 : decode cX8_numberOfPart 162 = .ok (.invokevirtual 183, 3) := by decide +kernel
theorem dX8_numberOfPart_165 : decode cX8_numberOfPart 165 = .ok (.iconst 1, 1) := by decide +kernel
theorem dX8_numberOfPart_166 : decode cX8_numberOfPart 166 = .ok (.isub, 1) := by decide +kernel
theorem dX8_numberOfPart_167 : decode cX8_numberOfPart 167 = .ok (.if_icmp .ne 7, 3) := by decide +kernel
theorem dX8_numberOfPart_170 : decode cX8_numberOfPart 170 = .ok (.iconst (-1), 1) := by decide +kernel
theorem dX8_numberOfPart_171 : decode cX8_numberOfPart 171 = .ok (.goto 16, 3) := by decide +kernel
theorem dX8_numberOfPart_174 : decode cX8_numberOfPart 174 = .ok (.aload_n 0, 1) := by decide +kernel
theorem dX8_numberOfPart_175 : decode cX8_numberOfPart 175 = .ok (.getfield 50, 3) := by decide +kernel
theorem dX8_numberOfPart_178 : decode cX8_numberOfPart 178 = .ok (.iload 4, 2) := by decide +kernel
theorem dX8_numberOfPart_180 : decode cX8_numberOfPart 180 = .ok (.iload 6, 2) := by decide +kernel
theorem dX8_numberOfPart_182 : decode cX8_numberOfPart 182 = .ok (.iconst 1, 1) := by decide +kernel
theorem dX8_numberOfPart_183 : decode cX8_numberOfPart 183 = .ok (.iadd, 1) := by decide +kernel
theorem dX8_numberOfPart_184 : decode cX8_numberOfPart 184 = .ok (.invokevirtual 180, 3) := by decide +kernel
theorem dX8_numberOfPart_187 : decode cX8_numberOfPart 187 = .ok (.ireturn, 1) := by decide +kernel
theorem dX8_numberOfArrow_0 : decode cX8_numberOfArrow 0 = .ok (.iload_n 2, 1) := by decide +kernel
theorem dX8_numberOfArrow_1 : decode cX8_numberOfArrow 1 = .ok (.tableswitch 80 0 4 #[35, 44, 53, 62, 71], 35) := by decide +kernel
theorem dX8_numberOfArrow_36 : decode cX8_numberOfArrow 36 = .ok (.aload_n 0, 1) := by decide +kernel
theorem dX8_numberOfArrow_37 : decode cX8_numberOfArrow 37 = .ok (.getfield 12, 3) := by decide +kernel
theorem dX8_numberOfArrow_40 : decode cX8_numberOfArrow 40 = .ok (.iload_n 1, 1) := by decide +kernel
theorem dX8_numberOfArrow_41 : decode cX8_numberOfArrow 41 = .ok (.invokevirtual 237, 3) := by decide +kernel
theorem dX8_numberOfArrow_44 : decode cX8_numberOfArrow 44 = .ok (.ireturn, 1) := by decide +kernel
theorem dX8_numberOfArrow_45 : decode cX8_numberOfArrow 45 = .ok (.aload_n 0, 1) := by decide +kernel
theorem dX8_numberOfArrow_46 : decode cX8_numberOfArrow 46 = .ok (.getfield 12, 3) := by decide +kernel
theorem dX8_numberOfArrow_49 : decode cX8_numberOfArrow 49 = .ok (.iload_n 1, 1) := by decide +kernel
theorem dX8_numberOfArrow_50 : decode cX8_numberOfArrow 50 = .ok (.invokevirtual 234, 3) := by decide +kernel
theorem dX8_numberOfArrow_53 : decode cX8_numberOfArrow 53 = .ok (.ireturn, 1) := by decide +kernel
theorem dX8_numberOfArrow_54 : decode cX8_numberOfArrow 54 = .ok (.aload_n 0, 1) := by decide +kernel
theorem dX8_numberOfArrow_55 : decode cX8_numberOfArrow 55 = .ok (.getfield 57, 3) := by decide +kernel
theorem dX8_numberOfArrow_58 : decode cX8_numberOfArrow 58 = .ok (.iload_n 1, 1) := by decide +kernel
theorem dX8_numberOfArrow_59 : decode cX8_numberOfArrow 59 = .ok (.invokevirtual 346, 3) := by decide +kernel
theorem dX8_numberOfArrow_62 : decode cX8_numberOfArrow 62 = .ok (.ireturn, 1) := by decide +kernel
theorem dX8_numberOfArrow_63 : decode cX8_numberOfArrow 63 = .ok (.aload_n 0, 1) := by decide +kernel
theorem dX8_numberOfArrow_64 : decode cX8_numberOfArrow 64 = .ok (.getfield 57, 3) := by decide +kernel
theorem dX8_numberOfArrow_67 : decode cX8_numberOfArrow 67 = .ok (.iload_n 1, 1) := by decide +kernel
theorem dX8_numberOfArrow_68 : decode cX8_numberOfArrow 68 = .ok (.invokevirtual 349, 3) := by decide +kernel
theorem dX8_numberOfArrow_71 : decode cX8_numberOfArrow 71 = .ok (.ireturn, 1) := by decide +kernel
theorem dX8_numberOfArrow_72 : decode cX8_numberOfArrow 72 = .ok (.aload_n 0, 1) := by decide +kernel
theorem dX8_numberOfArrow_73 : decode cX8_numberOfArrow 73 = .ok (.getfield 57, 3) := by decide +kernel
theorem dX8_numberOfArrow_76 : decode cX8_numberOfArrow 76 = .ok (.iload_n 1, 1) := by decide +kernel
theorem dX8_numberOfArrow_77 : decode cX8_numberOfArrow 77 = .ok (.invokevirtual 352, 3) := by decide +kernel
theorem dX8_numberOfArrow_80 : decode cX8_numberOfArrow 80 = .ok (.ireturn, 1) := by decide +kernel
theorem dX8_numberOfArrow_81 : decode cX8_numberOfArrow 81 = .ok (.aload_n 0, 1) := by decide +kernel
theorem dX8_numberOfArrow_82 : decode cX8_numberOfArrow 82 = .ok (.getfield 12, 3) := by decide +kernel
theorem dX8_numberOfArrow_85 : decode cX8_numberOfArrow 85 = .ok (.iload_n 1, 1) := by decide +kernel
theorem dX8_numberOfArrow_86 : decode cX8_numberOfArrow 86 = .ok (.invokevirtual 355, 3) := by decide +kernel
theorem dX8_numberOfArrow_89 : decode cX8_numberOfArrow 89 = .ok (.ifCond .eq 7, 3) := by decide +kernel
theorem dX8_numberOfArrow_92 : decode cX8_numberOfArrow 92 = .ok (.iconst 1, 1) := by decide +kernel
theorem dX8_numberOfArrow_93 : decode cX8_numberOfArrow 93 = .ok (.goto 4, 3) := by decide +kernel
theorem dX8_numberOfArrow_96 : decode cX8_numberOfArrow 96 = .ok (.iconst 0, 1) := by decide +kernel
theorem dX8_numberOfArrow_97 : decode cX8_numberOfArrow 97 = .ok (.ireturn, 1) := by decide +kernel
theorem dJ9_max_7cf53_0 : decode cJ9_max_7cf53 0 = .ok (.iload_n 0, 1) := by decide +kernel
theorem dJ9_max_7cf53_1 : decode cJ9_max_7cf53 1 = .ok (.iload_n 1, 1) := by decide +kernel
theorem dJ9_max_7cf53_2 : decode cJ9_max_7cf53 2 = .ok (.if_icmp .lt 7, 3) := by decide +kernel
theorem dJ9_max_7cf53_5 : decode cJ9_max_7cf53 5 = .ok (.iload_n 0, 1) := by decide +kernel
theorem dJ9_max_7cf53_6 : decode cJ9_max_7cf53 6 = .ok (.goto 4, 3) := by decide +kernel
theorem dJ9_max_7cf53_9 : decode cJ9_max_7cf53 9 = .ok (.iload_n 1, 1) := by decide +kernel
theorem dJ9_max_7cf53_10 : decode cJ9_max_7cf53 10 = .ok (.ireturn, 1) := by decide +kernel
theorem dJ9_min_7cf53_0 : decode cJ9_min_7cf53 0 = .ok (.iload_n 0, 1) := by decide +kernel
theorem dJ9_min_7cf53_1 : decode cJ9_min_7cf53 1 = .ok (.iload_n 1, 1) := by decide +kernel
theorem dJ9_min_7cf53_2 : decode cJ9_min_7cf53 2 = .ok (.if_icmp .gt 7, 3) := by decide +kernel
theorem dJ9_min_7cf53_5 : decode cJ9_min_7cf53 5 = .ok (.iload_n 0, 1) := by decide +kernel
theorem dJ9_min_7cf53_6 : decode cJ9_min_7cf53 6 = .ok (.goto 4, 3) := by decide +kernel
theorem dJ9_min_7cf53_9 : decode cJ9_min_7cf53 9 = .ok (.iload_n 1, 1) := by decide +kernel
theorem dJ9_min_7cf53_10 : decode cJ9_min_7cf53 10 = .ok (.ireturn, 1) := by decide +kernel
theorem dL_cell_0 : decode cL_cell 0 = .ok (.iload_n 1, 1) := by decide +kernel
theorem dL_cell_1 : decode cL_cell 1 = .ok (.aload_n 0, 1) := by decide +kernel
theorem dL_cell_2 : decode cL_cell 2 = .ok (.arraylength, 1) := by decide +kernel
theorem dL_cell_3 : decode cL_cell 3 = .ok (.if_icmp .ge 9, 3) := by decide +kernel
theorem dL_cell_6 : decode cL_cell 6 = .ok (.aload_n 0, 1) := by decide +kernel
theorem dL_cell_7 : decode cL_cell 7 = .ok (.iload_n 1, 1) := by decide +kernel
theorem dL_cell_8 : decode cL_cell 8 = .ok (.iaload, 1) := by decide +kernel
theorem dL_cell_9 : decode cL_cell 9 = .ok (.goto 9, 3) := by decide +kernel
theorem dL_cell_12 : decode cL_cell 12 = .ok (.ldc 7, 2) := by decide +kernel
theorem dL_cell_14 : decode cL_cell 14 = .ok (.iload_n 1, 1) := by decide +kernel
theorem dL_cell_15 : decode cL_cell 15 = .ok (.iconst 3, 1) := by decide +kernel
theorem dL_cell_16 : decode cL_cell 16 = .ok (.iadd, 1) := by decide +kernel
theorem dL_cell_17 : decode cL_cell 17 = .ok (.imul, 1) := by decide +kernel
theorem dL_cell_18 : decode cL_cell 18 = .ok (.ireturn, 1) := by decide +kernel
theorem dL_low_0 : decode cL_low 0 = .ok (.iload_n 0, 1) := by decide +kernel
theorem dL_low_1 : decode cL_low 1 = .ok (.ldc 8, 2) := by decide +kernel
theorem dL_low_3 : decode cL_low 3 = .ok (.iand, 1) := by decide +kernel
theorem dL_low_4 : decode cL_low 4 = .ok (.iload_n 1, 1) := by decide +kernel
theorem dL_low_5 : decode cL_low 5 = .ok (.irem, 1) := by decide +kernel
theorem dL_low_6 : decode cL_low 6 = .ok (.ireturn, 1) := by decide +kernel
theorem dL_last_0 : decode cL_last 0 = .ok (.aload_n 0, 1) := by decide +kernel
theorem dL_last_1 : decode cL_last 1 = .ok (.iload_n 2, 1) := by decide +kernel
theorem dL_last_2 : decode cL_last 2 = .ok (.iaload, 1) := by decide +kernel
theorem dL_last_3 : decode cL_last 3 = .ok (.aload_n 1, 1) := by decide +kernel
theorem dL_last_4 : decode cL_last 4 = .ok (.iload_n 2, 1) := by decide +kernel
theorem dL_last_5 : decode cL_last 5 = .ok (.iaload, 1) := by decide +kernel
theorem dL_last_6 : decode cL_last 6 = .ok (.iadd, 1) := by decide +kernel
theorem dL_last_7 : decode cL_last 7 = .ok (.iconst 1, 1) := by decide +kernel
theorem dL_last_8 : decode cL_last 8 = .ok (.isub, 1) := by decide +kernel
theorem dL_last_9 : decode cL_last 9 = .ok (.ireturn, 1) := by decide +kernel
theorem dL_key_0 : decode cL_key 0 = .ok (.aload_n 0, 1) := by decide +kernel
theorem dL_key_1 : decode cL_key 1 = .ok (.iload_n 2, 1) := by decide +kernel
theorem dL_key_2 : decode cL_key 2 = .ok (.iaload, 1) := by decide +kernel
theorem dL_key_3 : decode cL_key 3 = .ok (.sipush 200, 3) := by decide +kernel
theorem dL_key_6 : decode cL_key 6 = .ok (.imul, 1) := by decide +kernel
theorem dL_key_7 : decode cL_key 7 = .ok (.aload_n 1, 1) := by decide +kernel
theorem dL_key_8 : decode cL_key 8 = .ok (.iload_n 2, 1) := by decide +kernel
theorem dL_key_9 : decode cL_key 9 = .ok (.iaload, 1) := by decide +kernel
theorem dL_key_10 : decode cL_key 10 = .ok (.iadd, 1) := by decide +kernel
theorem dL_key_11 : decode cL_key 11 = .ok (.bipush 32, 2) := by decide +kernel
theorem dL_key_13 : decode cL_key 13 = .ok (.imul, 1) := by decide +kernel
theorem dL_key_14 : decode cL_key 14 = .ok (.iload_n 2, 1) := by decide +kernel
theorem dL_key_15 : decode cL_key 15 = .ok (.iadd, 1) := by decide +kernel
theorem dL_key_16 : decode cL_key 16 = .ok (.ireturn, 1) := by decide +kernel
theorem dL_next_0 : decode cL_next 0 = .ok (.iconst (-1), 1) := by decide +kernel
theorem dL_next_1 : decode cL_next 1 = .ok (.istore 4, 2) := by decide +kernel
theorem dL_next_3 : decode cL_next 3 = .ok (.iconst 0, 1) := by decide +kernel
theorem dL_next_4 : decode cL_next 4 = .ok (.istore 5, 2) := by decide +kernel
theorem dL_next_6 : decode cL_next 6 = .ok (.iload 5, 2) := by decide +kernel
theorem dL_next_8 : decode cL_next 8 = .ok (.aload_n 0, 1) := by decide +kernel
theorem dL_next_9 : decode cL_next 9 = .ok (.iconst 4, 1) := by decide +kernel
theorem dL_next_10 : decode cL_next 10 = .ok (.iaload, 1) := by decide +kernel
theorem dL_next_11 : decode cL_next 11 = .ok (.if_icmp .ge 51, 3) := by decide +kernel
theorem dL_next_14 : decode cL_next 14 = .ok (.aload_n 1, 1) := by decide +kernel
theorem dL_next_15 : decode cL_next 15 = .ok (.aload_n 2, 1) := by decide +kernel
theorem dL_next_16 : decode cL_next 16 = .ok (.iload 5, 2) := by decide +kernel
theorem dL_next_18 : decode cL_next 18 = .ok (.invokestatic 9, 3) := by decide +kernel
theorem dL_next_21 : decode cL_next 21 = .ok (.iload_n 3, 1) := by decide +kernel
theorem dL_next_22 : decode cL_next 22 = .ok (.if_icmp .le 30, 3) := by decide +kernel
theorem dL_next_25 : decode cL_next 25 = .ok (.iload 4, 2) := by decide +kernel
theorem dL_next_27 : decode cL_next 27 = .ok (.ifCond .lt 20, 3) := by decide +kernel
theorem dL_next_30 : decode cL_next 30 = .ok (.aload_n 1, 1) := by decide +kernel
theorem dL_next_31 : decode cL_next 31 = .ok (.aload_n 2, 1) := by decide +kernel
theorem dL_next_32 : decode cL_next 32 = .ok (.iload 5, 2) := by decide +kernel
theorem dL_next_34 : decode cL_next 34 = .ok (.invokestatic 9, 3) := by decide +kernel
theorem dL_next_37 : decode cL_next 37 = .ok (.aload_n 1, 1) := by decide +kernel
theorem dL_next_38 : decode cL_next 38 = .ok (.aload_n 2, 1) := by decide +kernel
theorem dL_next_39 : decode cL_next 39 = .ok (.iload 4, 2) := by decide +kernel
theorem dL_next_41 : decode cL_next 41 = .ok (.invokestatic 9, 3) := by decide +kernel
theorem dL_next_44 : decode cL_next 44 = .ok (.if_icmp .ge 8, 3) := by decide +kernel
theorem dL_next_47 : decode cL_next 47 = .ok (.iload 5, 2) := by decide +kernel
theorem dL_next_49 : decode cL_next 49 = .ok (.goto 5, 3) := by decide +kernel
theorem dL_next_52 : decode cL_next 52 = .ok (.iload 4, 2) := by decide +kernel
theorem dL_next_54 : decode cL_next 54 = .ok (.istore 4, 2) := by decide +kernel
theorem dL_next_56 : decode cL_next 56 = .ok (.iinc 5 1, 3) := by decide +kernel
theorem dL_next_59 : decode cL_next 59 = .ok (.goto (-53), 3) := by decide +kernel
theorem dL_next_62 : decode cL_next 62 = .ok (.iload 4, 2) := by decide +kernel
theorem dL_next_64 : decode cL_next 64 = .ok (.ireturn, 1) := by decide +kernel
theorem dL_size_0 : decode cL_size 0 = .ok (.iconst 0, 1) := by decide +kernel
theorem dL_size_1 : decode cL_size 1 = .ok (.istore_n 3, 1) := by decide +kernel
theorem dL_size_2 : decode cL_size 2 = .ok (.iconst 0, 1) := by decide +kernel
theorem dL_size_3 : decode cL_size 3 = .ok (.istore 4, 2) := by decide +kernel
theorem dL_size_5 : decode cL_size 5 = .ok (.iload 4, 2) := by decide +kernel
theorem dL_size_7 : decode cL_size 7 = .ok (.aload_n 0, 1) := by decide +kernel
theorem dL_size_8 : decode cL_size 8 = .ok (.iconst 4, 1) := by decide +kernel
theorem dL_size_9 : decode cL_size 9 = .ok (.iaload, 1) := by decide +kernel
theorem dL_size_10 : decode cL_size 10 = .ok (.if_icmp .ge 25, 3) := by decide +kernel
theorem dL_size_13 : decode cL_size 13 = .ok (.iload_n 3, 1) := by decide +kernel
theorem dL_size_14 : decode cL_size 14 = .ok (.aload_n 1, 1) := by decide +kernel
theorem dL_size_15 : decode cL_size 15 = .ok (.iload 4, 2) := by decide +kernel
theorem dL_size_17 : decode cL_size 17 = .ok (.iaload, 1) := by decide +kernel
theorem dL_size_18 : decode cL_size 18 = .ok (.iload_n 2, 1) := by decide +kernel
theorem dL_size_19 : decode cL_size 19 = .ok (.if_icmp .ne 7, 3) := by decide +kernel
theorem dL_size_22 : decode cL_size 22 = .ok (.iconst 1, 1) := by decide +kernel
theorem dL_size_23 : decode cL_size 23 = .ok (.goto 4, 3) := by decide +kernel
theorem dL_size_26 : decode cL_size 26 = .ok (.iconst 0, 1) := by decide +kernel
theorem dL_size_27 : decode cL_size 27 = .ok (.iadd, 1) := by decide +kernel
theorem dL_size_28 : decode cL_size 28 = .ok (.istore_n 3, 1) := by decide +kernel
theorem dL_size_29 : decode cL_size 29 = .ok (.iinc 4 1, 3) := by decide +kernel
theorem dL_size_32 : decode cL_size 32 = .ok (.goto (-27), 3) := by decide +kernel
theorem dL_size_35 : decode cL_size 35 = .ok (.iload_n 3, 1) := by decide +kernel
theorem dL_size_36 : decode cL_size 36 = .ok (.ireturn, 1) := by decide +kernel
theorem dL_bands_0 : decode cL_bands 0 = .ok (.iconst 0, 1) := by decide +kernel
theorem dL_bands_1 : decode cL_bands 1 = .ok (.istore 5, 2) := by decide +kernel
theorem dL_bands_3 : decode cL_bands 3 = .ok (.iconst 0, 1) := by decide +kernel
theorem dL_bands_4 : decode cL_bands 4 = .ok (.istore 6, 2) := by decide +kernel
theorem dL_bands_6 : decode cL_bands 6 = .ok (.iconst (-1), 1) := by decide +kernel
theorem dL_bands_7 : decode cL_bands 7 = .ok (.istore 7, 2) := by decide +kernel
theorem dL_bands_9 : decode cL_bands 9 = .ok (.aload_n 0, 1) := by decide +kernel
theorem dL_bands_10 : decode cL_bands 10 = .ok (.aload_n 1, 1) := by decide +kernel
theorem dL_bands_11 : decode cL_bands 11 = .ok (.aload_n 2, 1) := by decide +kernel
theorem dL_bands_12 : decode cL_bands 12 = .ok (.iconst (-1), 1) := by decide +kernel
theorem dL_bands_13 : decode cL_bands 13 = .ok (.invokestatic 15, 3) := by decide +kernel
theorem dL_bands_16 : decode cL_bands 16 = .ok (.istore 8, 2) := by decide +kernel
theorem dL_bands_18 : decode cL_bands 18 = .ok (.iload 8, 2) := by decide +kernel
theorem dL_bands_20 : decode cL_bands 20 = .ok (.ifCond .lt 153, 3) := by decide +kernel
theorem dL_bands_23 : decode cL_bands 23 = .ok (.aload_n 1, 1) := by decide +kernel
theorem dL_bands_24 : decode cL_bands 24 = .ok (.iload 8, 2) := by decide +kernel
theorem dL_bands_26 : decode cL_bands 26 = .ok (.iaload, 1) := by decide +kernel
theorem dL_bands_27 : decode cL_bands 27 = .ok (.iload 7, 2) := by decide +kernel
theorem dL_bands_29 : decode cL_bands 29 = .ok (.if_icmp .eq 98, 3) := by decide +kernel
theorem dL_bands_32 : decode cL_bands 32 = .ok (.aload_n 1, 1) := by decide +kernel
theorem dL_bands_33 : decode cL_bands 33 = .ok (.iload 8, 2) := by decide +kernel
theorem dL_bands_35 : decode cL_bands 35 = .ok (.iaload, 1) := by decide +kernel
theorem dL_bands_36 : decode cL_bands 36 = .ok (.istore 7, 2) := by decide +kernel
theorem dL_bands_38 : decode cL_bands 38 = .ok (.iconst 1, 1) := by decide +kernel
theorem dL_bands_39 : decode cL_bands 39 = .ok (.aload_n 0, 1) := by decide +kernel
theorem dL_bands_40 : decode cL_bands 40 = .ok (.aload_n 1, 1) := by decide +kernel
theorem dL_bands_41 : decode cL_bands 41 = .ok (.iload 7, 2) := by decide +kernel
theorem dL_bands_43 : decode cL_bands 43 = .ok (.invokestatic 19, 3) := by decide +kernel
theorem dL_bands_46 : decode cL_bands 46 = .ok (.iadd, 1) := by decide +kernel
theorem dL_bands_47 : decode cL_bands 47 = .ok (.istore 9, 2) := by decide +kernel
theorem dL_bands_49 : decode cL_bands 49 = .ok (.aload_n 0, 1) := by decide +kernel
theorem dL_bands_50 : decode cL_bands 50 = .ok (.iconst 2, 1) := by decide +kernel
theorem dL_bands_51 : decode cL_bands 51 = .ok (.iaload, 1) := by decide +kernel
theorem dL_bands_52 : decode cL_bands 52 = .ok (.iconst 1, 1) := by decide +kernel
theorem dL_bands_53 : decode cL_bands 53 = .ok (.if_icmp .ne 25, 3) := by decide +kernel
theorem dL_bands_56 : decode cL_bands 56 = .ok (.iload 6, 2) := by decide +kernel
theorem dL_bands_58 : decode cL_bands 58 = .ok (.ifCond .le 20, 3) := by decide +kernel
theorem dL_bands_61 : decode cL_bands 61 = .ok (.iload 6, 2) := by decide +kernel
theorem dL_bands_63 : decode cL_bands 63 = .ok (.iload 9, 2) := by decide +kernel
theorem dL_bands_65 : decode cL_bands 65 = .ok (.iadd, 1) := by decide +kernel
theorem dL_bands_66 : decode cL_bands 66 = .ok (.iload 4, 2) := by decide +kernel
theorem dL_bands_68 : decode cL_bands 68 = .ok (.if_icmp .le 10, 3) := by decide +kernel
theorem dL_bands_71 : decode cL_bands 71 = .ok (.iload 9, 2) := by decide +kernel
theorem dL_bands_73 : decode cL_bands 73 = .ok (.iload 4, 2) := by decide +kernel
theorem dL_bands_75 : decode cL_bands 75 = .ok (.if_icmp .le 12, 3) := by decide +kernel
theorem dL_bands_78 : decode cL_bands 78 = .ok (.iload 4, 2) := by decide +kernel
theorem dL_bands_80 : decode cL_bands 80 = .ok (.iload 6, 2) := by decide +kernel
theorem dL_bands_82 : decode cL_bands 82 = .ok (.isub, 1) := by decide +kernel
theorem dL_bands_83 : decode cL_bands 83 = .ok (.iconst 2, 1) := by decide +kernel
theorem dL_bands_84 : decode cL_bands 84 = .ok (.if_icmp .ge 7, 3) := by decide +kernel
theorem dL_bands_87 : decode cL_bands 87 = .ok (.iconst 1, 1) := by decide +kernel
theorem dL_bands_88 : decode cL_bands 88 = .ok (.goto 4, 3) := by decide +kernel
theorem dL_bands_91 : decode cL_bands 91 = .ok (.iconst 0, 1) := by decide +kernel
theorem dL_bands_92 : decode cL_bands 92 = .ok (.istore 10, 2) := by decide +kernel
theorem dL_bands_94 : decode cL_bands 94 = .ok (.iload 5, 2) := by decide +kernel
theorem dL_bands_96 : decode cL_bands 96 = .ok (.iload 10, 2) := by decide +kernel
theorem dL_bands_98 : decode cL_bands 98 = .ok (.ifCond .eq 7, 3) := by decide +kernel
theorem dL_bands_101 : decode cL_bands 101 = .ok (.iconst 1, 1) := by decide +kernel
theorem dL_bands_102 : decode cL_bands 102 = .ok (.goto 4, 3) := by decide +kernel
theorem dL_bands_105 : decode cL_bands 105 = .ok (.iconst 0, 1) := by decide +kernel
theorem dL_bands_106 : decode cL_bands 106 = .ok (.iadd, 1) := by decide +kernel
theorem dL_bands_107 : decode cL_bands 107 = .ok (.istore 5, 2) := by decide +kernel
theorem dL_bands_109 : decode cL_bands 109 = .ok (.iload 10, 2) := by decide +kernel
theorem dL_bands_111 : decode cL_bands 111 = .ok (.ifCond .eq 7, 3) := by decide +kernel
theorem dL_bands_114 : decode cL_bands 114 = .ok (.iconst 1, 1) := by decide +kernel
theorem dL_bands_115 : decode cL_bands 115 = .ok (.goto 7, 3) := by decide +kernel
theorem dL_bands_118 : decode cL_bands 118 = .ok (.iload 6, 2) := by decide +kernel
theorem dL_bands_120 : decode cL_bands 120 = .ok (.iconst 1, 1) := by decide +kernel
theorem dL_bands_121 : decode cL_bands 121 = .ok (.iadd, 1) := by decide +kernel
theorem dL_bands_122 : decode cL_bands 122 = .ok (.istore 6, 2) := by decide +kernel
theorem dL_bands_124 : decode cL_bands 124 = .ok (.goto 16, 3) := by decide +kernel
theorem dL_bands_127 : decode cL_bands 127 = .ok (.iload 6, 2) := by decide +kernel
theorem dL_bands_129 : decode cL_bands 129 = .ok (.iload 4, 2) := by decide +kernel
theorem dL_bands_131 : decode cL_bands 131 = .ok (.if_icmp .ne 9, 3) := by decide +kernel
theorem dL_bands_134 : decode cL_bands 134 = .ok (.iinc 5 1, 3) := by decide +kernel
theorem dL_bands_137 : decode cL_bands 137 = .ok (.iconst 1, 1) := by decide +kernel
theorem dL_bands_138 : decode cL_bands 138 = .ok (.istore 6, 2) := by decide +kernel
theorem dL_bands_140 : decode cL_bands 140 = .ok (.aload_n 3, 1) := by decide +kernel
theorem dL_bands_141 : decode cL_bands 141 = .ok (.iload 8, 2) := by decide +kernel
theorem dL_bands_143 : decode cL_bands 143 = .ok (.bipush 32, 2) := by decide +kernel
theorem dL_bands_145 : decode cL_bands 145 = .ok (.iload 5, 2) := by decide +kernel
theorem dL_bands_147 : decode cL_bands 147 = .ok (.imul, 1) := by decide +kernel
theorem dL_bands_148 : decode cL_bands 148 = .ok (.iload 6, 2) := by decide +kernel
theorem dL_bands_150 : decode cL_bands 150 = .ok (.iadd, 1) := by decide +kernel
theorem dL_bands_151 : decode cL_bands 151 = .ok (.iastore, 1) := by decide +kernel
theorem dL_bands_152 : decode cL_bands 152 = .ok (.iinc 6 1, 3) := by decide +kernel
theorem dL_bands_155 : decode cL_bands 155 = .ok (.aload_n 0, 1) := by decide +kernel
theorem dL_bands_156 : decode cL_bands 156 = .ok (.aload_n 1, 1) := by decide +kernel
theorem dL_bands_157 : decode cL_bands 157 = .ok (.aload_n 2, 1) := by decide +kernel
theorem dL_bands_158 : decode cL_bands 158 = .ok (.aload_n 1, 1) := by decide +kernel
theorem dL_bands_159 : decode cL_bands 159 = .ok (.aload_n 2, 1) := by decide +kernel
theorem dL_bands_160 : decode cL_bands 160 = .ok (.iload 8, 2) := by decide +kernel
theorem dL_bands_162 : decode cL_bands 162 = .ok (.invokestatic 9, 3) := by decide +kernel
theorem dL_bands_165 : decode cL_bands 165 = .ok (.invokestatic 15, 3) := by decide +kernel
theorem dL_bands_168 : decode cL_bands 168 = .ok (.istore 8, 2) := by decide +kernel
theorem dL_bands_170 : decode cL_bands 170 = .ok (.goto (-152), 3) := by decide +kernel
theorem dL_bands_173 : decode cL_bands 173 = .ok (.aload_n 0, 1) := by decide +kernel
theorem dL_bands_174 : decode cL_bands 174 = .ok (.iconst 4, 1) := by decide +kernel
theorem dL_bands_175 : decode cL_bands 175 = .ok (.iaload, 1) := by decide +kernel
theorem dL_bands_176 : decode cL_bands 176 = .ok (.ifCond .ne 7, 3) := by decide +kernel
theorem dL_bands_179 : decode cL_bands 179 = .ok (.iconst 0, 1) := by decide +kernel
theorem dL_bands_180 : decode cL_bands 180 = .ok (.goto 7, 3) := by decide +kernel
theorem dL_bands_183 : decode cL_bands 183 = .ok (.iload 5, 2) := by decide +kernel
theorem dL_bands_185 : decode cL_bands 185 = .ok (.iconst 1, 1) := by decide +kernel
theorem dL_bands_186 : decode cL_bands 186 = .ok (.iadd, 1) := by decide +kernel
theorem dL_bands_187 : decode cL_bands 187 = .ok (.ireturn, 1) := by decide +kernel
theorem dL_indexOf_0 : decode cL_indexOf 0 = .ok (.iconst (-1), 1) := by decide +kernel
theorem dL_indexOf_1 : decode cL_indexOf 1 = .ok (.istore 4, 2) := by decide +kernel
theorem dL_indexOf_3 : decode cL_indexOf 3 = .ok (.iconst 0, 1) := by decide +kernel
theorem dL_indexOf_4 : decode cL_indexOf 4 = .ok (.istore 5, 2) := by decide +kernel
theorem dL_indexOf_6 : decode cL_indexOf 6 = .ok (.iload 5, 2) := by decide +kernel
theorem dL_indexOf_8 : decode cL_indexOf 8 = .ok (.aload_n 0, 1) := by decide +kernel
theorem dL_indexOf_9 : decode cL_indexOf 9 = .ok (.iconst 5, 1) := by decide +kernel
theorem dL_indexOf_10 : decode cL_indexOf 10 = .ok (.iaload, 1) := by decide +kernel
theorem dL_indexOf_11 : decode cL_indexOf 11 = .ok (.if_icmp .ge 31, 3) := by decide +kernel
theorem dL_indexOf_14 : decode cL_indexOf 14 = .ok (.aload_n 1, 1) := by decide +kernel
theorem dL_indexOf_15 : decode cL_indexOf 15 = .ok (.iload 5, 2) := by decide +kernel
theorem dL_indexOf_17 : decode cL_indexOf 17 = .ok (.iaload, 1) := by decide +kernel
theorem dL_indexOf_18 : decode cL_indexOf 18 = .ok (.bipush 32, 2) := by decide +kernel
theorem dL_indexOf_20 : decode cL_indexOf 20 = .ok (.iload_n 2, 1) := by decide +kernel
theorem dL_indexOf_21 : decode cL_indexOf 21 = .ok (.imul, 1) := by decide +kernel
theorem dL_indexOf_22 : decode cL_indexOf 22 = .ok (.iload_n 3, 1) := by decide +kernel
theorem dL_indexOf_23 : decode cL_indexOf 23 = .ok (.iadd, 1) := by decide +kernel
theorem dL_indexOf_24 : decode cL_indexOf 24 = .ok (.if_icmp .ne 8, 3) := by decide +kernel
theorem dL_indexOf_27 : decode cL_indexOf 27 = .ok (.iload 5, 2) := by decide +kernel
theorem dL_indexOf_29 : decode cL_indexOf 29 = .ok (.goto 5, 3) := by decide +kernel
theorem dL_indexOf_32 : decode cL_indexOf 32 = .ok (.iload 4, 2) := by decide +kernel
theorem dL_indexOf_34 : decode cL_indexOf 34 = .ok (.istore 4, 2) := by decide +kernel
theorem dL_indexOf_36 : decode cL_indexOf 36 = .ok (.iinc 5 1, 3) := by decide +kernel
theorem dL_indexOf_39 : decode cL_indexOf 39 = .ok (.goto (-33), 3) := by decide +kernel
theorem dL_indexOf_42 : decode cL_indexOf 42 = .ok (.iload 4, 2) := by decide +kernel
theorem dL_indexOf_44 : decode cL_indexOf 44 = .ok (.ireturn, 1) := by decide +kernel
theorem dL_acts_0 : decode cL_acts 0 = .ok (.iload 6, 2) := by decide +kernel
theorem dL_acts_2 : decode cL_acts 2 = .ok (.bipush 8, 2) := by decide +kernel
theorem dL_acts_4 : decode cL_acts 4 = .ok (.ishr, 1) := by decide +kernel
theorem dL_acts_5 : decode cL_acts 5 = .ok (.ldc 25, 2) := by decide +kernel
theorem dL_acts_7 : decode cL_acts 7 = .ok (.invokestatic 26, 3) := by decide +kernel
theorem dL_acts_10 : decode cL_acts 10 = .ok (.istore 7, 2) := by decide +kernel
theorem dL_acts_12 : decode cL_acts 12 = .ok (.aload_n 1, 1) := by decide +kernel
theorem dL_acts_13 : decode cL_acts 13 = .ok (.iconst 4, 1) := by decide +kernel
theorem dL_acts_14 : decode cL_acts 14 = .ok (.iaload, 1) := by decide +kernel
theorem dL_acts_15 : decode cL_acts 15 = .ok (.istore 8, 2) := by decide +kernel
theorem dL_acts_17 : decode cL_acts 17 = .ok (.iload 6, 2) := by decide +kernel
theorem dL_acts_19 : decode cL_acts 19 = .ok (.bipush 16, 2) := by decide +kernel
theorem dL_acts_21 : decode cL_acts 21 = .ok (.invokestatic 26, 3) := by decide +kernel
theorem dL_acts_24 : decode cL_acts 24 = .ok (.istore 9, 2) := by decide +kernel
theorem dL_acts_26 : decode cL_acts 26 = .ok (.iload 8, 2) := by decide +kernel
theorem dL_acts_28 : decode cL_acts 28 = .ok (.iconst 2, 1) := by decide +kernel
theorem dL_acts_29 : decode cL_acts 29 = .ok (.if_icmp .lt 9, 3) := by decide +kernel
theorem dL_acts_32 : decode cL_acts 32 = .ok (.iload 9, 2) := by decide +kernel
theorem dL_acts_34 : decode cL_acts 34 = .ok (.iconst 5, 1) := by decide +kernel
theorem dL_acts_35 : decode cL_acts 35 = .ok (.if_icmp .ge 122, 3) := by decide +kernel
theorem dL_acts_38 : decode cL_acts 38 = .ok (.iload 6, 2) := by decide +kernel
theorem dL_acts_40 : decode cL_acts 40 = .ok (.iconst 4, 1) := by decide +kernel
theorem dL_acts_41 : decode cL_acts 41 = .ok (.ishr, 1) := by decide +kernel
theorem dL_acts_42 : decode cL_acts 42 = .ok (.bipush 6, 2) := by decide +kernel
theorem dL_acts_44 : decode cL_acts 44 = .ok (.invokestatic 26, 3) := by decide +kernel
theorem dL_acts_47 : decode cL_acts 47 = .ok (.istore 10, 2) := by decide +kernel
theorem dL_acts_49 : decode cL_acts 49 = .ok (.iload 7, 2) := by decide +kernel
theorem dL_acts_51 : decode cL_acts 51 = .ok (.sipush 200, 3) := by decide +kernel
theorem dL_acts_54 : decode cL_acts 54 = .ok (.irem, 1) := by decide +kernel
theorem dL_acts_55 : decode cL_acts 55 = .ok (.istore 11, 2) := by decide +kernel
theorem dL_acts_57 : decode cL_acts 57 = .ok (.iconst 1, 1) := by decide +kernel
theorem dL_acts_58 : decode cL_acts 58 = .ok (.iload 7, 2) := by decide +kernel
theorem dL_acts_60 : decode cL_acts 60 = .ok (.sipush 200, 3) := by decide +kernel
theorem dL_acts_63 : decode cL_acts 63 = .ok (.idiv, 1) := by decide +kernel
theorem dL_acts_64 : decode cL_acts 64 = .ok (.iload 7, 2) := by decide +kernel
theorem dL_acts_66 : decode cL_acts 66 = .ok (.iconst 3, 1) := by decide +kernel
theorem dL_acts_67 : decode cL_acts 67 = .ok (.irem, 1) := by decide +kernel
theorem dL_acts_68 : decode cL_acts 68 = .ok (.ifCond .ne 8, 3) := by decide +kernel
theorem dL_acts_71 : decode cL_acts 71 = .ok (.bipush 60, 2) := by decide +kernel
theorem dL_acts_73 : decode cL_acts 73 = .ok (.goto 5, 3) := by decide +kernel
theorem dL_acts_76 : decode cL_acts 76 = .ok (.bipush 15, 2) := by decide +kernel
theorem dL_acts_78 : decode cL_acts 78 = .ok (.irem, 1) := by decide +kernel
theorem dL_acts_79 : decode cL_acts 79 = .ok (.iadd, 1) := by decide +kernel
theorem dL_acts_80 : decode cL_acts 80 = .ok (.istore 12, 2) := by decide +kernel
theorem dL_acts_82 : decode cL_acts 82 = .ok (.iload 8, 2) := by decide +kernel
theorem dL_acts_84 : decode cL_acts 84 = .ok (.bipush 24, 2) := by decide +kernel
theorem dL_acts_86 : decode cL_acts 86 = .ok (.if_icmp .ne 24, 3) := by decide +kernel
theorem dL_acts_89 : decode cL_acts 89 = .ok (.aload_n 0, 1) := by decide +kernel
theorem dL_acts_90 : decode cL_acts 90 = .ok (.iload 10, 2) := by decide +kernel
theorem dL_acts_92 : decode cL_acts 92 = .ok (.iload 11, 2) := by decide +kernel
theorem dL_acts_94 : decode cL_acts 94 = .ok (.iload 12, 2) := by decide +kernel
theorem dL_acts_96 : decode cL_acts 96 = .ok (.invokestatic 30, 3) := by decide +kernel
theorem dL_acts_99 : decode cL_acts 99 = .ok (.ldc 34, 2) := by decide +kernel
theorem dL_acts_101 : decode cL_acts 101 = .ok (.if_icmp .ne 7, 3) := by decide +kernel
theorem dL_acts_104 : decode cL_acts 104 = .ok (.iconst 1, 1) := by decide +kernel
theorem dL_acts_105 : decode cL_acts 105 = .ok (.goto 4, 3) := by decide +kernel
theorem dL_acts_108 : decode cL_acts 108 = .ok (.iconst 0, 1) := by decide +kernel
theorem dL_acts_109 : decode cL_acts 109 = .ok (.ireturn, 1) := by decide +kernel
theorem dL_acts_110 : decode cL_acts 110 = .ok (.aload_n 2, 1) := by decide +kernel
theorem dL_acts_111 : decode cL_acts 111 = .ok (.iload 8, 2) := by decide +kernel
theorem dL_acts_113 : decode cL_acts 113 = .ok (.iload 10, 2) := by decide +kernel
theorem dL_acts_115 : decode cL_acts 115 = .ok (.iastore, 1) := by decide +kernel
theorem dL_acts_116 : decode cL_acts 116 = .ok (.aload_n 3, 1) := by decide +kernel
theorem dL_acts_117 : decode cL_acts 117 = .ok (.iload 8, 2) := by decide +kernel
theorem dL_acts_119 : decode cL_acts 119 = .ok (.iload 11, 2) := by decide +kernel
theorem dL_acts_121 : decode cL_acts 121 = .ok (.iastore, 1) := by decide +kernel
theorem dL_acts_122 : decode cL_acts 122 = .ok (.aload 4, 2) := by decide +kernel
theorem dL_acts_124 : decode cL_acts 124 = .ok (.iload 8, 2) := by decide +kernel
theorem dL_acts_126 : decode cL_acts 126 = .ok (.iload 12, 2) := by decide +kernel
theorem dL_acts_128 : decode cL_acts 128 = .ok (.iastore, 1) := by decide +kernel
theorem dL_acts_129 : decode cL_acts 129 = .ok (.aload_n 1, 1) := by decide +kernel
theorem dL_acts_130 : decode cL_acts 130 = .ok (.iconst 4, 1) := by decide +kernel
theorem dL_acts_131 : decode cL_acts 131 = .ok (.dup2, 1) := by decide +kernel
theorem dL_acts_132 : decode cL_acts 132 = .ok (.iaload, 1) := by decide +kernel
theorem dL_acts_133 : decode cL_acts 133 = .ok (.iconst 1, 1) := by decide +kernel
theorem dL_acts_134 : decode cL_acts 134 = .ok (.iadd, 1) := by decide +kernel
theorem dL_acts_135 : decode cL_acts 135 = .ok (.iastore, 1) := by decide +kernel
theorem dL_acts_136 : decode cL_acts 136 = .ok (.aload_n 0, 1) := by decide +kernel
theorem dL_acts_137 : decode cL_acts 137 = .ok (.iload 10, 2) := by decide +kernel
theorem dL_acts_139 : decode cL_acts 139 = .ok (.iload 11, 2) := by decide +kernel
theorem dL_acts_141 : decode cL_acts 141 = .ok (.iload 12, 2) := by decide +kernel
theorem dL_acts_143 : decode cL_acts 143 = .ok (.invokestatic 30, 3) := by decide +kernel
theorem dL_acts_146 : decode cL_acts 146 = .ok (.iload 8, 2) := by decide +kernel
theorem dL_acts_148 : decode cL_acts 148 = .ok (.if_icmp .ne 7, 3) := by decide +kernel
theorem dL_acts_151 : decode cL_acts 151 = .ok (.iconst 1, 1) := by decide +kernel
theorem dL_acts_152 : decode cL_acts 152 = .ok (.goto 4, 3) := by decide +kernel
theorem dL_acts_155 : decode cL_acts 155 = .ok (.iconst 0, 1) := by decide +kernel
theorem dL_acts_156 : decode cL_acts 156 = .ok (.ireturn, 1) := by decide +kernel
theorem dL_acts_157 : decode cL_acts 157 = .ok (.iload 6, 2) := by decide +kernel
theorem dL_acts_159 : decode cL_acts 159 = .ok (.iconst 4, 1) := by decide +kernel
theorem dL_acts_160 : decode cL_acts 160 = .ok (.ishr, 1) := by decide +kernel
theorem dL_acts_161 : decode cL_acts 161 = .ok (.iload 8, 2) := by decide +kernel
theorem dL_acts_163 : decode cL_acts 163 = .ok (.invokestatic 26, 3) := by decide +kernel
theorem dL_acts_166 : decode cL_acts 166 = .ok (.istore 10, 2) := by decide +kernel
theorem dL_acts_168 : decode cL_acts 168 = .ok (.iload 7, 2) := by decide +kernel
theorem dL_acts_170 : decode cL_acts 170 = .ok (.iload 8, 2) := by decide +kernel
theorem dL_acts_172 : decode cL_acts 172 = .ok (.irem, 1) := by decide +kernel
theorem dL_acts_173 : decode cL_acts 173 = .ok (.istore 11, 2) := by decide +kernel
theorem dL_acts_175 : decode cL_acts 175 = .ok (.iload 9, 2) := by decide +kernel
theorem dL_acts_177 : decode cL_acts 177 = .ok (.tableswitch 415 5 9 #[35, 35, 115, 115, 173], 35) := by decide +kernel
theorem dL_acts_212 : decode cL_acts 212 = .ok (.iload 7, 2) := by decide +kernel
theorem dL_acts_214 : decode cL_acts 214 = .ok (.iconst 4, 1) := by decide +kernel
theorem dL_acts_215 : decode cL_acts 215 = .ok (.irem, 1) := by decide +kernel
theorem dL_acts_216 : decode cL_acts 216 = .ok (.istore 12, 2) := by decide +kernel
theorem dL_acts_218 : decode cL_acts 218 = .ok (.iload 12, 2) := by decide +kernel
theorem dL_acts_220 : decode cL_acts 220 = .ok (.ifCond .ne 15, 3) := by decide +kernel
theorem dL_acts_223 : decode cL_acts 223 = .ok (.iconst 3, 1) := by decide +kernel
theorem dL_acts_224 : decode cL_acts 224 = .ok (.iload 7, 2) := by decide +kernel
theorem dL_acts_226 : decode cL_acts 226 = .ok (.iconst 4, 1) := by decide +kernel
theorem dL_acts_227 : decode cL_acts 227 = .ok (.idiv, 1) := by decide +kernel
theorem dL_acts_228 : decode cL_acts 228 = .ok (.bipush 18, 2) := by decide +kernel
theorem dL_acts_230 : decode cL_acts 230 = .ok (.irem, 1) := by decide +kernel
theorem dL_acts_231 : decode cL_acts 231 = .ok (.iadd, 1) := by decide +kernel
theorem dL_acts_232 : decode cL_acts 232 = .ok (.goto 27, 3) := by decide +kernel
theorem dL_acts_235 : decode cL_acts 235 = .ok (.iload 12, 2) := by decide +kernel
theorem dL_acts_237 : decode cL_acts 237 = .ok (.iconst 1, 1) := by decide +kernel
theorem dL_acts_238 : decode cL_acts 238 = .ok (.if_icmp .ne 15, 3) := by decide +kernel
theorem dL_acts_241 : decode cL_acts 241 = .ok (.iconst 5, 1) := by decide +kernel
theorem dL_acts_242 : decode cL_acts 242 = .ok (.iload 7, 2) := by decide +kernel
theorem dL_acts_244 : decode cL_acts 244 = .ok (.iconst 4, 1) := by decide +kernel
theorem dL_acts_245 : decode cL_acts 245 = .ok (.idiv, 1) := by decide +kernel
theorem dL_acts_246 : decode cL_acts 246 = .ok (.bipush 56, 2) := by decide +kernel
theorem dL_acts_248 : decode cL_acts 248 = .ok (.irem, 1) := by decide +kernel
theorem dL_acts_249 : decode cL_acts 249 = .ok (.iadd, 1) := by decide +kernel
theorem dL_acts_250 : decode cL_acts 250 = .ok (.goto 9, 3) := by decide +kernel
theorem dL_acts_253 : decode cL_acts 253 = .ok (.iload 7, 2) := by decide +kernel
theorem dL_acts_255 : decode cL_acts 255 = .ok (.iconst 4, 1) := by decide +kernel
theorem dL_acts_256 : decode cL_acts 256 = .ok (.idiv, 1) := by decide +kernel
theorem dL_acts_257 : decode cL_acts 257 = .ok (.iconst 2, 1) := by decide +kernel
theorem dL_acts_258 : decode cL_acts 258 = .ok (.irem, 1) := by decide +kernel
theorem dL_acts_259 : decode cL_acts 259 = .ok (.istore 13, 2) := by decide +kernel
theorem dL_acts_261 : decode cL_acts 261 = .ok (.aload_n 1, 1) := by decide +kernel
theorem dL_acts_262 : decode cL_acts 262 = .ok (.iload 12, 2) := by decide +kernel
theorem dL_acts_264 : decode cL_acts 264 = .ok (.iaload, 1) := by decide +kernel
theorem dL_acts_265 : decode cL_acts 265 = .ok (.istore 14, 2) := by decide +kernel
theorem dL_acts_267 : decode cL_acts 267 = .ok (.aload_n 1, 1) := by decide +kernel
theorem dL_acts_268 : decode cL_acts 268 = .ok (.iload 12, 2) := by decide +kernel
theorem dL_acts_270 : decode cL_acts 270 = .ok (.iload 13, 2) := by decide +kernel
theorem dL_acts_272 : decode cL_acts 272 = .ok (.iastore, 1) := by decide +kernel
theorem dL_acts_273 : decode cL_acts 273 = .ok (.aload_n 0, 1) := by decide +kernel
theorem dL_acts_274 : decode cL_acts 274 = .ok (.iload 12, 2) := by decide +kernel
theorem dL_acts_276 : decode cL_acts 276 = .ok (.iload 13, 2) := by decide +kernel
theorem dL_acts_278 : decode cL_acts 278 = .ok (.invokestatic 35, 3) := by decide +kernel
theorem dL_acts_281 : decode cL_acts 281 = .ok (.iload 14, 2) := by decide +kernel
theorem dL_acts_283 : decode cL_acts 283 = .ok (.if_icmp .ne 7, 3) := by decide +kernel
theorem dL_acts_286 : decode cL_acts 286 = .ok (.iconst 1, 1) := by decide +kernel
theorem dL_acts_287 : decode cL_acts 287 = .ok (.goto 4, 3) := by decide +kernel
theorem dL_acts_290 : decode cL_acts 290 = .ok (.iconst 0, 1) := by decide +kernel
theorem dL_acts_291 : decode cL_acts 291 = .ok (.ireturn, 1) := by decide +kernel
theorem dL_acts_292 : decode cL_acts 292 = .ok (.aload_n 3, 1) := by decide +kernel
theorem dL_acts_293 : decode cL_acts 293 = .ok (.iload 10, 2) := by decide +kernel
theorem dL_acts_295 : decode cL_acts 295 = .ok (.iaload, 1) := by decide +kernel
theorem dL_acts_296 : decode cL_acts 296 = .ok (.istore 15, 2) := by decide +kernel
theorem dL_acts_298 : decode cL_acts 298 = .ok (.aload_n 3, 1) := by decide +kernel
theorem dL_acts_299 : decode cL_acts 299 = .ok (.iload 10, 2) := by decide +kernel
theorem dL_acts_301 : decode cL_acts 301 = .ok (.iload 7, 2) := by decide +kernel
theorem dL_acts_303 : decode cL_acts 303 = .ok (.sipush 200, 3) := by decide +kernel
theorem dL_acts_306 : decode cL_acts 306 = .ok (.irem, 1) := by decide +kernel
theorem dL_acts_307 : decode cL_acts 307 = .ok (.iastore, 1) := by decide +kernel
theorem dL_acts_308 : decode cL_acts 308 = .ok (.aload 4, 2) := by decide +kernel
theorem dL_acts_310 : decode cL_acts 310 = .ok (.iload 10, 2) := by decide +kernel
theorem dL_acts_312 : decode cL_acts 312 = .ok (.iconst 1, 1) := by decide +kernel
theorem dL_acts_313 : decode cL_acts 313 = .ok (.iload 7, 2) := by decide +kernel
theorem dL_acts_315 : decode cL_acts 315 = .ok (.sipush 200, 3) := by decide +kernel
theorem dL_acts_318 : decode cL_acts 318 = .ok (.idiv, 1) := by decide +kernel
theorem dL_acts_319 : decode cL_acts 319 = .ok (.bipush 60, 2) := by decide +kernel
theorem dL_acts_321 : decode cL_acts 321 = .ok (.irem, 1) := by decide +kernel
theorem dL_acts_322 : decode cL_acts 322 = .ok (.iadd, 1) := by decide +kernel
theorem dL_acts_323 : decode cL_acts 323 = .ok (.iastore, 1) := by decide +kernel
theorem dL_acts_324 : decode cL_acts 324 = .ok (.aload_n 0, 1) := by decide +kernel
theorem dL_acts_325 : decode cL_acts 325 = .ok (.iload 10, 2) := by decide +kernel
theorem dL_acts_327 : decode cL_acts 327 = .ok (.aload_n 3, 1) := by decide +kernel
theorem dL_acts_328 : decode cL_acts 328 = .ok (.iload 10, 2) := by decide +kernel
theorem dL_acts_330 : decode cL_acts 330 = .ok (.iaload, 1) := by decide +kernel
theorem dL_acts_331 : decode cL_acts 331 = .ok (.aload 4, 2) := by decide +kernel
theorem dL_acts_333 : decode cL_acts 333 = .ok (.iload 10, 2) := by decide +kernel
theorem dL_acts_335 : decode cL_acts 335 = .ok (.iaload, 1) := by decide +kernel
theorem dL_acts_336 : decode cL_acts 336 = .ok (.invokestatic 39, 3) := by decide +kernel
theorem dL_acts_339 : decode cL_acts 339 = .ok (.iload 15, 2) := by decide +kernel
theorem dL_acts_341 : decode cL_acts 341 = .ok (.if_icmp .ne 7, 3) := by decide +kernel
theorem dL_acts_344 : decode cL_acts 344 = .ok (.iconst 1, 1) := by decide +kernel
theorem dL_acts_345 : decode cL_acts 345 = .ok (.goto 4, 3) := by decide +kernel
theorem dL_acts_348 : decode cL_acts 348 = .ok (.iconst 0, 1) := by decide +kernel
theorem dL_acts_349 : decode cL_acts 349 = .ok (.ireturn, 1) := by decide +kernel
theorem dL_acts_350 : decode cL_acts 350 = .ok (.iload 7, 2) := by decide +kernel
theorem dL_acts_352 : decode cL_acts 352 = .ok (.iconst 3, 1) := by decide +kernel
theorem dL_acts_353 : decode cL_acts 353 = .ok (.irem, 1) := by decide +kernel
theorem dL_acts_354 : decode cL_acts 354 = .ok (.ifCond .le 43, 3) := by decide +kernel
theorem dL_acts_357 : decode cL_acts 357 = .ok (.aload_n 1, 1) := by decide +kernel
theorem dL_acts_358 : decode cL_acts 358 = .ok (.iconst 5, 1) := by decide +kernel
theorem dL_acts_359 : decode cL_acts 359 = .ok (.iaload, 1) := by decide +kernel
theorem dL_acts_360 : decode cL_acts 360 = .ok (.ifCond .ne 21, 3) := by decide +kernel
theorem dL_acts_363 : decode cL_acts 363 = .ok (.aload_n 0, 1) := by decide +kernel
theorem dL_acts_364 : decode cL_acts 364 = .ok (.iconst 0, 1) := by decide +kernel
theorem dL_acts_365 : decode cL_acts 365 = .ok (.invokestatic 42, 3) := by decide +kernel
theorem dL_acts_368 : decode cL_acts 368 = .ok (.ldc 46, 2) := by decide +kernel
theorem dL_acts_370 : decode cL_acts 370 = .ok (.if_icmp .ne 7, 3) := by decide +kernel
theorem dL_acts_373 : decode cL_acts 373 = .ok (.iconst 1, 1) := by decide +kernel
theorem dL_acts_374 : decode cL_acts 374 = .ok (.goto 22, 3) := by decide +kernel
theorem dL_acts_377 : decode cL_acts 377 = .ok (.iconst 0, 1) := by decide +kernel
theorem dL_acts_378 : decode cL_acts 378 = .ok (.goto 18, 3) := by decide +kernel
theorem dL_acts_381 : decode cL_acts 381 = .ok (.aload_n 0, 1) := by decide +kernel
theorem dL_acts_382 : decode cL_acts 382 = .ok (.aload_n 1, 1) := by decide +kernel
theorem dL_acts_383 : decode cL_acts 383 = .ok (.aload 5, 2) := by decide +kernel
theorem dL_acts_385 : decode cL_acts 385 = .ok (.iload 7, 2) := by decide +kernel
theorem dL_acts_387 : decode cL_acts 387 = .ok (.iconst 3, 1) := by decide +kernel
theorem dL_acts_388 : decode cL_acts 388 = .ok (.idiv, 1) := by decide +kernel
theorem dL_acts_389 : decode cL_acts 389 = .ok (.aload_n 1, 1) := by decide +kernel
theorem dL_acts_390 : decode cL_acts 390 = .ok (.iconst 5, 1) := by decide +kernel
theorem dL_acts_391 : decode cL_acts 391 = .ok (.iaload, 1) := by decide +kernel
theorem dL_acts_392 : decode cL_acts 392 = .ok (.irem, 1) := by decide +kernel
theorem dL_acts_393 : decode cL_acts 393 = .ok (.invokestatic 47, 3) := by decide +kernel
theorem dL_acts_396 : decode cL_acts 396 = .ok (.ireturn, 1) := by decide +kernel
theorem dL_acts_397 : decode cL_acts 397 = .ok (.iconst 0, 1) := by decide +kernel
theorem dL_acts_398 : decode cL_acts 398 = .ok (.istore 16, 2) := by decide +kernel
theorem dL_acts_400 : decode cL_acts 400 = .ok (.aload_n 1, 1) := by decide +kernel
theorem dL_acts_401 : decode cL_acts 401 = .ok (.iconst 5, 1) := by decide +kernel
theorem dL_acts_402 : decode cL_acts 402 = .ok (.iaload, 1) := by decide +kernel
theorem dL_acts_403 : decode cL_acts 403 = .ok (.iconst 1, 1) := by decide +kernel
theorem dL_acts_404 : decode cL_acts 404 = .ok (.isub, 1) := by decide +kernel
theorem dL_acts_405 : decode cL_acts 405 = .ok (.istore 17, 2) := by decide +kernel
theorem dL_acts_407 : decode cL_acts 407 = .ok (.iload 17, 2) := by decide +kernel
theorem dL_acts_409 : decode cL_acts 409 = .ok (.ifCond .lt 46, 3) := by decide +kernel
theorem dL_acts_412 : decode cL_acts 412 = .ok (.aload 5, 2) := by decide +kernel
theorem dL_acts_414 : decode cL_acts 414 = .ok (.iload 17, 2) := by decide +kernel
theorem dL_acts_416 : decode cL_acts 416 = .ok (.iaload, 1) := by decide +kernel
theorem dL_acts_417 : decode cL_acts 417 = .ok (.bipush 32, 2) := by decide +kernel
theorem dL_acts_419 : decode cL_acts 419 = .ok (.idiv, 1) := by decide +kernel
theorem dL_acts_420 : decode cL_acts 420 = .ok (.iload 10, 2) := by decide +kernel
theorem dL_acts_422 : decode cL_acts 422 = .ok (.if_icmp .eq 16, 3) := by decide +kernel
theorem dL_acts_425 : decode cL_acts 425 = .ok (.aload 5, 2) := by decide +kernel
theorem dL_acts_427 : decode cL_acts 427 = .ok (.iload 17, 2) := by decide +kernel
theorem dL_acts_429 : decode cL_acts 429 = .ok (.iaload, 1) := by decide +kernel
theorem dL_acts_430 : decode cL_acts 430 = .ok (.bipush 32, 2) := by decide +kernel
theorem dL_acts_432 : decode cL_acts 432 = .ok (.irem, 1) := by decide +kernel
theorem dL_acts_433 : decode cL_acts 433 = .ok (.iload 10, 2) := by decide +kernel
theorem dL_acts_435 : decode cL_acts 435 = .ok (.if_icmp .ne 14, 3) := by decide +kernel
theorem dL_acts_438 : decode cL_acts 438 = .ok (.aload_n 1, 1) := by decide +kernel
theorem dL_acts_439 : decode cL_acts 439 = .ok (.aload 5, 2) := by decide +kernel
theorem dL_acts_441 : decode cL_acts 441 = .ok (.iload 17, 2) := by decide +kernel
theorem dL_acts_443 : decode cL_acts 443 = .ok (.invokestatic 51, 3) := by decide +kernel
theorem dL_acts_446 : decode cL_acts 446 = .ok (.iinc 16 1, 3) := by decide +kernel
theorem dL_acts_449 : decode cL_acts 449 = .ok (.iinc 17 (-1), 3) := by decide +kernel
theorem dL_acts_452 : decode cL_acts 452 = .ok (.goto (-45), 3) := by decide +kernel
theorem dL_acts_455 : decode cL_acts 455 = .ok (.iconst 0, 1) := by decide +kernel
theorem dL_acts_456 : decode cL_acts 456 = .ok (.istore 17, 2) := by decide +kernel
theorem dL_acts_458 : decode cL_acts 458 = .ok (.iload 17, 2) := by decide +kernel
theorem dL_acts_460 : decode cL_acts 460 = .ok (.aload_n 1, 1) := by decide +kernel
theorem dL_acts_461 : decode cL_acts 461 = .ok (.iconst 5, 1) := by decide +kernel
theorem dL_acts_462 : decode cL_acts 462 = .ok (.iaload, 1) := by decide +kernel
theorem dL_acts_463 : decode cL_acts 463 = .ok (.if_icmp .ge 55, 3) := by decide +kernel
theorem dL_acts_466 : decode cL_acts 466 = .ok (.aload 5, 2) := by decide +kernel
theorem dL_acts_468 : decode cL_acts 468 = .ok (.iload 17, 2) := by decide +kernel
theorem dL_acts_470 : decode cL_acts 470 = .ok (.dup2, 1) := by decide +kernel
theorem dL_acts_471 : decode cL_acts 471 = .ok (.iaload, 1) := by decide +kernel
theorem dL_acts_472 : decode cL_acts 472 = .ok (.aload 5, 2) := by decide +kernel
theorem dL_acts_474 : decode cL_acts 474 = .ok (.iload 17, 2) := by decide +kernel
theorem dL_acts_476 : decode cL_acts 476 = .ok (.iaload, 1) := by decide +kernel
theorem dL_acts_477 : decode cL_acts 477 = .ok (.bipush 32, 2) := by decide +kernel
theorem dL_acts_479 : decode cL_acts 479 = .ok (.idiv, 1) := by decide +kernel
theorem dL_acts_480 : decode cL_acts 480 = .ok (.iload 10, 2) := by decide +kernel
theorem dL_acts_482 : decode cL_acts 482 = .ok (.if_icmp .le 8, 3) := by decide +kernel
theorem dL_acts_485 : decode cL_acts 485 = .ok (.bipush 32, 2) := by decide +kernel
theorem dL_acts_487 : decode cL_acts 487 = .ok (.goto 4, 3) := by decide +kernel
theorem dL_acts_490 : decode cL_acts 490 = .ok (.iconst 0, 1) := by decide +kernel
theorem dL_acts_491 : decode cL_acts 491 = .ok (.aload 5, 2) := by decide +kernel
theorem dL_acts_493 : decode cL_acts 493 = .ok (.iload 17, 2) := by decide +kernel
theorem dL_acts_495 : decode cL_acts 495 = .ok (.iaload, 1) := by decide +kernel
theorem dL_acts_496 : decode cL_acts 496 = .ok (.bipush 32, 2) := by decide +kernel
theorem dL_acts_498 : decode cL_acts 498 = .ok (.irem, 1) := by decide +kernel
theorem dL_acts_499 : decode cL_acts 499 = .ok (.iload 10, 2) := by decide +kernel
theorem dL_acts_501 : decode cL_acts 501 = .ok (.if_icmp .le 7, 3) := by decide +kernel
theorem dL_acts_504 : decode cL_acts 504 = .ok (.iconst 1, 1) := by decide +kernel
theorem dL_acts_505 : decode cL_acts 505 = .ok (.goto 4, 3) := by decide +kernel
theorem dL_acts_508 : decode cL_acts 508 = .ok (.iconst 0, 1) := by decide +kernel
theorem dL_acts_509 : decode cL_acts 509 = .ok (.iadd, 1) := by decide +kernel
theorem dL_acts_510 : decode cL_acts 510 = .ok (.isub, 1) := by decide +kernel
theorem dL_acts_511 : decode cL_acts 511 = .ok (.iastore, 1) := by decide +kernel
theorem dL_acts_512 : decode cL_acts 512 = .ok (.iinc 17 1, 3) := by decide +kernel
theorem dL_acts_515 : decode cL_acts 515 = .ok (.goto (-57), 3) := by decide +kernel
theorem dL_acts_518 : decode cL_acts 518 = .ok (.aload_n 1, 1) := by decide +kernel
theorem dL_acts_519 : decode cL_acts 519 = .ok (.iconst 4, 1) := by decide +kernel
theorem dL_acts_520 : decode cL_acts 520 = .ok (.dup2, 1) := by decide +kernel
theorem dL_acts_521 : decode cL_acts 521 = .ok (.iaload, 1) := by decide +kernel
theorem dL_acts_522 : decode cL_acts 522 = .ok (.iconst 1, 1) := by decide +kernel
theorem dL_acts_523 : decode cL_acts 523 = .ok (.isub, 1) := by decide +kernel
theorem dL_acts_524 : decode cL_acts 524 = .ok (.iastore, 1) := by decide +kernel
theorem dL_acts_525 : decode cL_acts 525 = .ok (.iload 10, 2) := by decide +kernel
theorem dL_acts_527 : decode cL_acts 527 = .ok (.istore 17, 2) := by decide +kernel
theorem dL_acts_529 : decode cL_acts 529 = .ok (.iload 17, 2) := by decide +kernel
theorem dL_acts_531 : decode cL_acts 531 = .ok (.aload_n 1, 1) := by decide +kernel
theorem dL_acts_532 : decode cL_acts 532 = .ok (.iconst 4, 1) := by decide +kernel
theorem dL_acts_533 : decode cL_acts 533 = .ok (.iaload, 1) := by decide +kernel
theorem dL_acts_534 : decode cL_acts 534 = .ok (.if_icmp .ge 41, 3) := by decide +kernel
theorem dL_acts_537 : decode cL_acts 537 = .ok (.aload_n 2, 1) := by decide +kernel
theorem dL_acts_538 : decode cL_acts 538 = .ok (.iload 17, 2) := by decide +kernel
theorem dL_acts_540 : decode cL_acts 540 = .ok (.aload_n 2, 1) := by decide +kernel
theorem dL_acts_541 : decode cL_acts 541 = .ok (.iload 17, 2) := by decide +kernel
theorem dL_acts_543 : decode cL_acts 543 = .ok (.iconst 1, 1) := by decide +kernel
theorem dL_acts_544 : decode cL_acts 544 = .ok (.iadd, 1) := by decide +kernel
theorem dL_acts_545 : decode cL_acts 545 = .ok (.iaload, 1) := by decide +kernel
theorem dL_acts_546 : decode cL_acts 546 = .ok (.iastore, 1) := by decide +kernel
theorem dL_acts_547 : decode cL_acts 547 = .ok (.aload_n 3, 1) := by decide +kernel
theorem dL_acts_548 : decode cL_acts 548 = .ok (.iload 17, 2) := by decide +kernel
theorem dL_acts_550 : decode cL_acts 550 = .ok (.aload_n 3, 1) := by decide +kernel
theorem dL_acts_551 : decode cL_acts 551 = .ok (.iload 17, 2) := by decide +kernel
theorem dL_acts_553 : decode cL_acts 553 = .ok (.iconst 1, 1) := by decide +kernel
theorem dL_acts_554 : decode cL_acts 554 = .ok (.iadd, 1) := by decide +kernel
theorem dL_acts_555 : decode cL_acts 555 = .ok (.iaload, 1) := by decide +kernel
theorem dL_acts_556 : decode cL_acts 556 = .ok (.iastore, 1) := by decide +kernel
theorem dL_acts_557 : decode cL_acts 557 = .ok (.aload 4, 2) := by decide +kernel
theorem dL_acts_559 : decode cL_acts 559 = .ok (.iload 17, 2) := by decide +kernel
theorem dL_acts_561 : decode cL_acts 561 = .ok (.aload 4, 2) := by decide +kernel
theorem dL_acts_563 : decode cL_acts 563 = .ok (.iload 17, 2) := by decide +kernel
theorem dL_acts_565 : decode cL_acts 565 = .ok (.iconst 1, 1) := by decide +kernel
theorem dL_acts_566 : decode cL_acts 566 = .ok (.iadd, 1) := by decide +kernel
theorem dL_acts_567 : decode cL_acts 567 = .ok (.iaload, 1) := by decide +kernel
theorem dL_acts_568 : decode cL_acts 568 = .ok (.iastore, 1) := by decide +kernel
theorem dL_acts_569 : decode cL_acts 569 = .ok (.iinc 17 1, 3) := by decide +kernel
theorem dL_acts_572 : decode cL_acts 572 = .ok (.goto (-43), 3) := by decide +kernel
theorem dL_acts_575 : decode cL_acts 575 = .ok (.aload_n 0, 1) := by decide +kernel
theorem dL_acts_576 : decode cL_acts 576 = .ok (.iload 10, 2) := by decide +kernel
theorem dL_acts_578 : decode cL_acts 578 = .ok (.invokestatic 55, 3) := by decide +kernel
theorem dL_acts_581 : decode cL_acts 581 = .ok (.iload 16, 2) := by decide +kernel
theorem dL_acts_583 : decode cL_acts 583 = .ok (.if_icmp .ne 7, 3) := by decide +kernel
theorem dL_acts_586 : decode cL_acts 586 = .ok (.iconst 1, 1) := by decide +kernel
theorem dL_acts_587 : decode cL_acts 587 = .ok (.goto 4, 3) := by decide +kernel
theorem dL_acts_590 : decode cL_acts 590 = .ok (.iconst 0, 1) := by decide +kernel
theorem dL_acts_591 : decode cL_acts 591 = .ok (.ireturn, 1) := by decide +kernel
theorem dL_acts_592 : decode cL_acts 592 = .ok (.iload 10, 2) := by decide +kernel
theorem dL_acts_594 : decode cL_acts 594 = .ok (.iload 11, 2) := by decide +kernel
theorem dL_acts_596 : decode cL_acts 596 = .ok (.if_icmp .ne 22, 3) := by decide +kernel
theorem dL_acts_599 : decode cL_acts 599 = .ok (.aload_n 0, 1) := by decide +kernel
theorem dL_acts_600 : decode cL_acts 600 = .ok (.iload 10, 2) := by decide +kernel
theorem dL_acts_602 : decode cL_acts 602 = .ok (.iload 11, 2) := by decide +kernel
theorem dL_acts_604 : decode cL_acts 604 = .ok (.invokestatic 58, 3) := by decide +kernel
theorem dL_acts_607 : decode cL_acts 607 = .ok (.ldc 61, 2) := by decide +kernel
theorem dL_acts_609 : decode cL_acts 609 = .ok (.if_icmp .ne 7, 3) := by decide +kernel
theorem dL_acts_612 : decode cL_acts 612 = .ok (.iconst 1, 1) := by decide +kernel
theorem dL_acts_613 : decode cL_acts 613 = .ok (.goto 4, 3) := by decide +kernel
theorem dL_acts_616 : decode cL_acts 616 = .ok (.iconst 0, 1) := by decide +kernel
theorem dL_acts_617 : decode cL_acts 617 = .ok (.ireturn, 1) := by decide +kernel
theorem dL_acts_618 : decode cL_acts 618 = .ok (.aload_n 1, 1) := by decide +kernel
theorem dL_acts_619 : decode cL_acts 619 = .ok (.aload 5, 2) := by decide +kernel
theorem dL_acts_621 : decode cL_acts 621 = .ok (.iload 10, 2) := by decide +kernel
theorem dL_acts_623 : decode cL_acts 623 = .ok (.iload 11, 2) := by decide +kernel
theorem dL_acts_625 : decode cL_acts 625 = .ok (.invokestatic 62, 3) := by decide +kernel
theorem dL_acts_628 : decode cL_acts 628 = .ok (.ifCond .ge 11, 3) := by decide +kernel
theorem dL_acts_631 : decode cL_acts 631 = .ok (.aload_n 1, 1) := by decide +kernel
theorem dL_acts_632 : decode cL_acts 632 = .ok (.iconst 5, 1) := by decide +kernel
theorem dL_acts_633 : decode cL_acts 633 = .ok (.iaload, 1) := by decide +kernel
theorem dL_acts_634 : decode cL_acts 634 = .ok (.bipush 30, 2) := by decide +kernel
theorem dL_acts_636 : decode cL_acts 636 = .ok (.if_icmp .ne 22, 3) := by decide +kernel
theorem dL_acts_639 : decode cL_acts 639 = .ok (.aload_n 0, 1) := by decide +kernel
theorem dL_acts_640 : decode cL_acts 640 = .ok (.iload 10, 2) := by decide +kernel
theorem dL_acts_642 : decode cL_acts 642 = .ok (.iload 11, 2) := by decide +kernel
theorem dL_acts_644 : decode cL_acts 644 = .ok (.invokestatic 58, 3) := by decide +kernel
theorem dL_acts_647 : decode cL_acts 647 = .ok (.ldc 34, 2) := by decide +kernel
theorem dL_acts_649 : decode cL_acts 649 = .ok (.if_icmp .ne 7, 3) := by decide +kernel
theorem dL_acts_652 : decode cL_acts 652 = .ok (.iconst 1, 1) := by decide +kernel
theorem dL_acts_653 : decode cL_acts 653 = .ok (.goto 4, 3) := by decide +kernel
theorem dL_acts_656 : decode cL_acts 656 = .ok (.iconst 0, 1) := by decide +kernel
theorem dL_acts_657 : decode cL_acts 657 = .ok (.ireturn, 1) := by decide +kernel
theorem dL_acts_658 : decode cL_acts 658 = .ok (.aload 5, 2) := by decide +kernel
theorem dL_acts_660 : decode cL_acts 660 = .ok (.aload_n 1, 1) := by decide +kernel
theorem dL_acts_661 : decode cL_acts 661 = .ok (.iconst 5, 1) := by decide +kernel
theorem dL_acts_662 : decode cL_acts 662 = .ok (.iaload, 1) := by decide +kernel
theorem dL_acts_663 : decode cL_acts 663 = .ok (.bipush 32, 2) := by decide +kernel
theorem dL_acts_665 : decode cL_acts 665 = .ok (.iload 10, 2) := by decide +kernel
theorem dL_acts_667 : decode cL_acts 667 = .ok (.imul, 1) := by decide +kernel
theorem dL_acts_668 : decode cL_acts 668 = .ok (.iload 11, 2) := by decide +kernel
theorem dL_acts_670 : decode cL_acts 670 = .ok (.iadd, 1) := by decide +kernel
theorem dL_acts_671 : decode cL_acts 671 = .ok (.iastore, 1) := by decide +kernel
theorem dL_acts_672 : decode cL_acts 672 = .ok (.aload_n 1, 1) := by decide +kernel
theorem dL_acts_673 : decode cL_acts 673 = .ok (.iconst 5, 1) := by decide +kernel
theorem dL_acts_674 : decode cL_acts 674 = .ok (.dup2, 1) := by decide +kernel
theorem dL_acts_675 : decode cL_acts 675 = .ok (.iaload, 1) := by decide +kernel
theorem dL_acts_676 : decode cL_acts 676 = .ok (.iconst 1, 1) := by decide +kernel
theorem dL_acts_677 : decode cL_acts 677 = .ok (.iadd, 1) := by decide +kernel
theorem dL_acts_678 : decode cL_acts 678 = .ok (.iastore, 1) := by decide +kernel
theorem dL_acts_679 : decode cL_acts 679 = .ok (.aload_n 0, 1) := by decide +kernel
theorem dL_acts_680 : decode cL_acts 680 = .ok (.iload 10, 2) := by decide +kernel
theorem dL_acts_682 : decode cL_acts 682 = .ok (.iload 11, 2) := by decide +kernel
theorem dL_acts_684 : decode cL_acts 684 = .ok (.invokestatic 58, 3) := by decide +kernel
theorem dL_acts_687 : decode cL_acts 687 = .ok (.aload_n 1, 1) := by decide +kernel
theorem dL_acts_688 : decode cL_acts 688 = .ok (.iconst 5, 1) := by decide +kernel
theorem dL_acts_689 : decode cL_acts 689 = .ok (.iaload, 1) := by decide +kernel
theorem dL_acts_690 : decode cL_acts 690 = .ok (.iconst 1, 1) := by decide +kernel
theorem dL_acts_691 : decode cL_acts 691 = .ok (.isub, 1) := by decide +kernel
theorem dL_acts_692 : decode cL_acts 692 = .ok (.if_icmp .ne 7, 3) := by decide +kernel
theorem dL_acts_695 : decode cL_acts 695 = .ok (.iconst 1, 1) := by decide +kernel
theorem dL_acts_696 : decode cL_acts 696 = .ok (.goto 4, 3) := by decide +kernel
theorem dL_acts_699 : decode cL_acts 699 = .ok (.iconst 0, 1) := by decide +kernel
theorem dL_acts_700 : decode cL_acts 700 = .ok (.ireturn, 1) := by decide +kernel
theorem dL_drop_0 : decode cL_drop 0 = .ok (.iload_n 2, 1) := by decide +kernel
theorem dL_drop_1 : decode cL_drop 1 = .ok (.istore_n 3, 1) := by decide +kernel
theorem dL_drop_2 : decode cL_drop 2 = .ok (.iload_n 3, 1) := by decide +kernel
theorem dL_drop_3 : decode cL_drop 3 = .ok (.iconst 1, 1) := by decide +kernel
theorem dL_drop_4 : decode cL_drop 4 = .ok (.iadd, 1) := by decide +kernel
theorem dL_drop_5 : decode cL_drop 5 = .ok (.aload_n 0, 1) := by decide +kernel
theorem dL_drop_6 : decode cL_drop 6 = .ok (.iconst 5, 1) := by decide +kernel
theorem dL_drop_7 : decode cL_drop 7 = .ok (.iaload, 1) := by decide +kernel
theorem dL_drop_8 : decode cL_drop 8 = .ok (.if_icmp .ge 17, 3) := by decide +kernel
theorem dL_drop_11 : decode cL_drop 11 = .ok (.aload_n 1, 1) := by decide +kernel
theorem dL_drop_12 : decode cL_drop 12 = .ok (.iload_n 3, 1) := by decide +kernel
theorem dL_drop_13 : decode cL_drop 13 = .ok (.aload_n 1, 1) := by decide +kernel
theorem dL_drop_14 : decode cL_drop 14 = .ok (.iload_n 3, 1) := by decide +kernel
theorem dL_drop_15 : decode cL_drop 15 = .ok (.iconst 1, 1) := by decide +kernel
theorem dL_drop_16 : decode cL_drop 16 = .ok (.iadd, 1) := by decide +kernel
theorem dL_drop_17 : decode cL_drop 17 = .ok (.iaload, 1) := by decide +kernel
theorem dL_drop_18 : decode cL_drop 18 = .ok (.iastore, 1) := by decide +kernel
theorem dL_drop_19 : decode cL_drop 19 = .ok (.iinc 3 1, 3) := by decide +kernel
theorem dL_drop_22 : decode cL_drop 22 = .ok (.goto (-20), 3) := by decide +kernel
theorem dL_drop_25 : decode cL_drop 25 = .ok (.aload_n 0, 1) := by decide +kernel
theorem dL_drop_26 : decode cL_drop 26 = .ok (.iconst 5, 1) := by decide +kernel
theorem dL_drop_27 : decode cL_drop 27 = .ok (.dup2, 1) := by decide +kernel
theorem dL_drop_28 : decode cL_drop 28 = .ok (.iaload, 1) := by decide +kernel
theorem dL_drop_29 : decode cL_drop 29 = .ok (.iconst 1, 1) := by decide +kernel
theorem dL_drop_30 : decode cL_drop 30 = .ok (.isub, 1) := by decide +kernel
theorem dL_drop_31 : decode cL_drop 31 = .ok (.iastore, 1) := by decide +kernel
theorem dL_drop_32 : decode cL_drop 32 = .ok (.return_, 1) := by decide +kernel
theorem dL_goes_0 : decode cL_goes 0 = .ok (.aload_n 1, 1) := by decide +kernel
theorem dL_goes_1 : decode cL_goes 1 = .ok (.aload_n 2, 1) := by decide +kernel
theorem dL_goes_2 : decode cL_goes 2 = .ok (.iload_n 3, 1) := by decide +kernel
theorem dL_goes_3 : decode cL_goes 3 = .ok (.invokestatic 51, 3) := by decide +kernel
theorem dL_goes_6 : decode cL_goes 6 = .ok (.aload_n 0, 1) := by decide +kernel
theorem dL_goes_7 : decode cL_goes 7 = .ok (.iload_n 3, 1) := by decide +kernel
theorem dL_goes_8 : decode cL_goes 8 = .ok (.invokestatic 42, 3) := by decide +kernel
theorem dL_goes_11 : decode cL_goes 11 = .ok (.aload_n 1, 1) := by decide +kernel
theorem dL_goes_12 : decode cL_goes 12 = .ok (.iconst 5, 1) := by decide +kernel
theorem dL_goes_13 : decode cL_goes 13 = .ok (.iaload, 1) := by decide +kernel
theorem dL_goes_14 : decode cL_goes 14 = .ok (.if_icmp .ne 7, 3) := by decide +kernel
theorem dL_goes_17 : decode cL_goes 17 = .ok (.iconst 1, 1) := by decide +kernel
theorem dL_goes_18 : decode cL_goes 18 = .ok (.goto 4, 3) := by decide +kernel
theorem dL_goes_21 : decode cL_goes 21 = .ok (.iconst 0, 1) := by decide +kernel
theorem dL_goes_22 : decode cL_goes 22 = .ok (.ireturn, 1) := by decide +kernel
theorem dL_first_0 : decode cL_first 0 = .ok (.aload_n 0, 1) := by decide +kernel
theorem dL_first_1 : decode cL_first 1 = .ok (.iconst 0, 1) := by decide +kernel
theorem dL_first_2 : decode cL_first 2 = .ok (.bipush 8, 2) := by decide +kernel
theorem dL_first_4 : decode cL_first 4 = .ok (.iastore, 1) := by decide +kernel
theorem dL_first_5 : decode cL_first 5 = .ok (.aload_n 0, 1) := by decide +kernel
theorem dL_first_6 : decode cL_first 6 = .ok (.iconst 1, 1) := by decide +kernel
theorem dL_first_7 : decode cL_first 7 = .ok (.bipush 20, 2) := by decide +kernel
theorem dL_first_9 : decode cL_first 9 = .ok (.iastore, 1) := by decide +kernel
theorem dL_first_10 : decode cL_first 10 = .ok (.aload_n 0, 1) := by decide +kernel
theorem dL_first_11 : decode cL_first 11 = .ok (.iconst 2, 1) := by decide +kernel
theorem dL_first_12 : decode cL_first 12 = .ok (.iconst 1, 1) := by decide +kernel
theorem dL_first_13 : decode cL_first 13 = .ok (.iastore, 1) := by decide +kernel
theorem dL_first_14 : decode cL_first 14 = .ok (.return_, 1) := by decide +kernel
theorem dL_sets_0 : decode cL_sets 0 = .ok (.aload_n 0, 1) := by decide +kernel
theorem dL_sets_1 : decode cL_sets 1 = .ok (.iload_n 1, 1) := by decide +kernel
theorem dL_sets_2 : decode cL_sets 2 = .ok (.iload_n 2, 1) := by decide +kernel
theorem dL_sets_3 : decode cL_sets 3 = .ok (.invokevirtual 66, 3) := by decide +kernel
theorem dL_sets_6 : decode cL_sets 6 = .ok (.ireturn, 1) := by decide +kernel
theorem dL_sets_7 : decode cL_sets 7 = .ok (.astore_n 3, 1) := by decide +kernel
theorem dL_sets_8 : decode cL_sets 8 = .ok (.ldc 61, 2) := by decide +kernel
theorem dL_sets_10 : decode cL_sets 10 = .ok (.ireturn, 1) := by decide +kernel
theorem dL_adds_0 : decode cL_adds 0 = .ok (.aload_n 0, 1) := by decide +kernel
theorem dL_adds_1 : decode cL_adds 1 = .ok (.iload_n 1, 1) := by decide +kernel
theorem dL_adds_2 : decode cL_adds 2 = .ok (.iload_n 2, 1) := by decide +kernel
theorem dL_adds_3 : decode cL_adds 3 = .ok (.iload_n 3, 1) := by decide +kernel
theorem dL_adds_4 : decode cL_adds 4 = .ok (.invokevirtual 73, 3) := by decide +kernel
theorem dL_adds_7 : decode cL_adds 7 = .ok (.ireturn, 1) := by decide +kernel
theorem dL_adds_8 : decode cL_adds 8 = .ok (.astore 4, 2) := by decide +kernel
theorem dL_adds_10 : decode cL_adds 10 = .ok (.ldc 61, 2) := by decide +kernel
theorem dL_adds_12 : decode cL_adds 12 = .ok (.ireturn, 1) := by decide +kernel
theorem dL_adds_13 : decode cL_adds 13 = .ok (.astore 4, 2) := by decide +kernel
theorem dL_adds_15 : decode cL_adds 15 = .ok (.ldc 34, 2) := by decide +kernel
theorem dL_adds_17 : decode cL_adds 17 = .ok (.ireturn, 1) := by decide +kernel
theorem dL_moves_0 : decode cL_moves 0 = .ok (.aload_n 0, 1) := by decide +kernel
theorem dL_moves_1 : decode cL_moves 1 = .ok (.iload_n 1, 1) := by decide +kernel
theorem dL_moves_2 : decode cL_moves 2 = .ok (.iload_n 2, 1) := by decide +kernel
theorem dL_moves_3 : decode cL_moves 3 = .ok (.iload_n 3, 1) := by decide +kernel
theorem dL_moves_4 : decode cL_moves 4 = .ok (.invokevirtual 79, 3) := by decide +kernel
theorem dL_moves_7 : decode cL_moves 7 = .ok (.ireturn, 1) := by decide +kernel
theorem dL_moves_8 : decode cL_moves 8 = .ok (.astore 4, 2) := by decide +kernel
theorem dL_moves_10 : decode cL_moves 10 = .ok (.ldc 46, 2) := by decide +kernel
theorem dL_moves_12 : decode cL_moves 12 = .ok (.ireturn, 1) := by decide +kernel
theorem dL_moves_13 : decode cL_moves 13 = .ok (.astore 4, 2) := by decide +kernel
theorem dL_moves_15 : decode cL_moves 15 = .ok (.ldc 61, 2) := by decide +kernel
theorem dL_moves_17 : decode cL_moves 17 = .ok (.ireturn, 1) := by decide +kernel
theorem dL_drops_0 : decode cL_drops 0 = .ok (.aload_n 0, 1) := by decide +kernel
theorem dL_drops_1 : decode cL_drops 1 = .ok (.iload_n 1, 1) := by decide +kernel
theorem dL_drops_2 : decode cL_drops 2 = .ok (.invokevirtual 84, 3) := by decide +kernel
theorem dL_drops_5 : decode cL_drops 5 = .ok (.ireturn, 1) := by decide +kernel
theorem dL_drops_6 : decode cL_drops 6 = .ok (.astore_n 2, 1) := by decide +kernel
theorem dL_drops_7 : decode cL_drops 7 = .ok (.ldc 46, 2) := by decide +kernel
theorem dL_drops_9 : decode cL_drops 9 = .ok (.ireturn, 1) := by decide +kernel
theorem dL_points_0 : decode cL_points 0 = .ok (.aload_n 0, 1) := by decide +kernel
theorem dL_points_1 : decode cL_points 1 = .ok (.iload_n 1, 1) := by decide +kernel
theorem dL_points_2 : decode cL_points 2 = .ok (.iload_n 2, 1) := by decide +kernel
theorem dL_points_3 : decode cL_points 3 = .ok (.invokevirtual 88, 3) := by decide +kernel
theorem dL_points_6 : decode cL_points 6 = .ok (.ireturn, 1) := by decide +kernel
theorem dL_points_7 : decode cL_points 7 = .ok (.astore_n 3, 1) := by decide +kernel
theorem dL_points_8 : decode cL_points 8 = .ok (.ldc 46, 2) := by decide +kernel
theorem dL_points_10 : decode cL_points 10 = .ok (.ireturn, 1) := by decide +kernel
theorem dL_points_11 : decode cL_points 11 = .ok (.astore_n 3, 1) := by decide +kernel
theorem dL_points_12 : decode cL_points 12 = .ok (.ldc 61, 2) := by decide +kernel
theorem dL_points_14 : decode cL_points 14 = .ok (.ireturn, 1) := by decide +kernel
theorem dL_points_15 : decode cL_points 15 = .ok (.astore_n 3, 1) := by decide +kernel
theorem dL_points_16 : decode cL_points 16 = .ok (.ldc 34, 2) := by decide +kernel
theorem dL_points_18 : decode cL_points 18 = .ok (.ireturn, 1) := by decide +kernel
theorem dL_unpoints_0 : decode cL_unpoints 0 = .ok (.aload_n 0, 1) := by decide +kernel
theorem dL_unpoints_1 : decode cL_unpoints 1 = .ok (.iload_n 1, 1) := by decide +kernel
theorem dL_unpoints_2 : decode cL_unpoints 2 = .ok (.invokevirtual 91, 3) := by decide +kernel
theorem dL_unpoints_5 : decode cL_unpoints 5 = .ok (.ireturn, 1) := by decide +kernel
theorem dL_unpoints_6 : decode cL_unpoints 6 = .ok (.astore_n 2, 1) := by decide +kernel
theorem dL_unpoints_7 : decode cL_unpoints 7 = .ok (.ldc 46, 2) := by decide +kernel
theorem dL_unpoints_9 : decode cL_unpoints 9 = .ok (.ireturn, 1) := by decide +kernel
theorem dL_valueOf_0 : decode cL_valueOf 0 = .ok (.aload_n 0, 1) := by decide +kernel
theorem dL_valueOf_1 : decode cL_valueOf 1 = .ok (.iload_n 1, 1) := by decide +kernel
theorem dL_valueOf_2 : decode cL_valueOf 2 = .ok (.invokevirtual 94, 3) := by decide +kernel
theorem dL_valueOf_5 : decode cL_valueOf 5 = .ok (.ireturn, 1) := by decide +kernel
theorem dL_valueOf_6 : decode cL_valueOf 6 = .ok (.astore_n 2, 1) := by decide +kernel
theorem dL_valueOf_7 : decode cL_valueOf 7 = .ok (.ldc 61, 2) := by decide +kernel
theorem dL_valueOf_9 : decode cL_valueOf 9 = .ok (.ireturn, 1) := by decide +kernel
theorem dL_taskOf_0 : decode cL_taskOf 0 = .ok (.aload_n 0, 1) := by decide +kernel
theorem dL_taskOf_1 : decode cL_taskOf 1 = .ok (.iload_n 1, 1) := by decide +kernel
theorem dL_taskOf_2 : decode cL_taskOf 2 = .ok (.iload_n 2, 1) := by decide +kernel
theorem dL_taskOf_3 : decode cL_taskOf 3 = .ok (.invokevirtual 97, 3) := by decide +kernel
theorem dL_taskOf_6 : decode cL_taskOf 6 = .ok (.ireturn, 1) := by decide +kernel
theorem dL_taskOf_7 : decode cL_taskOf 7 = .ok (.astore_n 3, 1) := by decide +kernel
theorem dL_taskOf_8 : decode cL_taskOf 8 = .ok (.ldc 46, 2) := by decide +kernel
theorem dL_taskOf_10 : decode cL_taskOf 10 = .ok (.ireturn, 1) := by decide +kernel
theorem dL_taskOf_11 : decode cL_taskOf 11 = .ok (.astore_n 3, 1) := by decide +kernel
theorem dL_taskOf_12 : decode cL_taskOf 12 = .ok (.ldc 61, 2) := by decide +kernel
theorem dL_taskOf_14 : decode cL_taskOf 14 = .ok (.ireturn, 1) := by decide +kernel
theorem dL_rowOf_0 : decode cL_rowOf 0 = .ok (.aload_n 0, 1) := by decide +kernel
theorem dL_rowOf_1 : decode cL_rowOf 1 = .ok (.iload_n 1, 1) := by decide +kernel
theorem dL_rowOf_2 : decode cL_rowOf 2 = .ok (.iload_n 2, 1) := by decide +kernel
theorem dL_rowOf_3 : decode cL_rowOf 3 = .ok (.invokevirtual 100, 3) := by decide +kernel
theorem dL_rowOf_6 : decode cL_rowOf 6 = .ok (.ireturn, 1) := by decide +kernel
theorem dL_rowOf_7 : decode cL_rowOf 7 = .ok (.astore_n 3, 1) := by decide +kernel
theorem dL_rowOf_8 : decode cL_rowOf 8 = .ok (.ldc 46, 2) := by decide +kernel
theorem dL_rowOf_10 : decode cL_rowOf 10 = .ok (.ireturn, 1) := by decide +kernel
theorem dL_partOf_0 : decode cL_partOf 0 = .ok (.aload_n 0, 1) := by decide +kernel
theorem dL_partOf_1 : decode cL_partOf 1 = .ok (.iload_n 1, 1) := by decide +kernel
theorem dL_partOf_2 : decode cL_partOf 2 = .ok (.iload_n 2, 1) := by decide +kernel
theorem dL_partOf_3 : decode cL_partOf 3 = .ok (.iload_n 3, 1) := by decide +kernel
theorem dL_partOf_4 : decode cL_partOf 4 = .ok (.invokevirtual 103, 3) := by decide +kernel
theorem dL_partOf_7 : decode cL_partOf 7 = .ok (.ireturn, 1) := by decide +kernel
theorem dL_partOf_8 : decode cL_partOf 8 = .ok (.astore 4, 2) := by decide +kernel
theorem dL_partOf_10 : decode cL_partOf 10 = .ok (.ldc 46, 2) := by decide +kernel
theorem dL_partOf_12 : decode cL_partOf 12 = .ok (.ireturn, 1) := by decide +kernel
theorem dL_partOf_13 : decode cL_partOf 13 = .ok (.astore 4, 2) := by decide +kernel
theorem dL_partOf_15 : decode cL_partOf 15 = .ok (.ldc 61, 2) := by decide +kernel
theorem dL_partOf_17 : decode cL_partOf 17 = .ok (.ireturn, 1) := by decide +kernel
theorem dL_delayOf_0 : decode cL_delayOf 0 = .ok (.aload_n 0, 1) := by decide +kernel
theorem dL_delayOf_1 : decode cL_delayOf 1 = .ok (.iload_n 1, 1) := by decide +kernel
theorem dL_delayOf_2 : decode cL_delayOf 2 = .ok (.invokevirtual 106, 3) := by decide +kernel
theorem dL_delayOf_5 : decode cL_delayOf 5 = .ok (.ireturn, 1) := by decide +kernel
theorem dL_delayOf_6 : decode cL_delayOf 6 = .ok (.astore_n 2, 1) := by decide +kernel
theorem dL_delayOf_7 : decode cL_delayOf 7 = .ok (.ldc 46, 2) := by decide +kernel
theorem dL_delayOf_9 : decode cL_delayOf 9 = .ok (.ireturn, 1) := by decide +kernel
theorem dL_arrowBy_0 : decode cL_arrowBy 0 = .ok (.aload_n 0, 1) := by decide +kernel
theorem dL_arrowBy_1 : decode cL_arrowBy 1 = .ok (.iload_n 1, 1) := by decide +kernel
theorem dL_arrowBy_2 : decode cL_arrowBy 2 = .ok (.iload_n 2, 1) := by decide +kernel
theorem dL_arrowBy_3 : decode cL_arrowBy 3 = .ok (.invokevirtual 109, 3) := by decide +kernel
theorem dL_arrowBy_6 : decode cL_arrowBy 6 = .ok (.ireturn, 1) := by decide +kernel
theorem dL_arrowBy_7 : decode cL_arrowBy 7 = .ok (.astore_n 3, 1) := by decide +kernel
theorem dL_arrowBy_8 : decode cL_arrowBy 8 = .ok (.ldc 46, 2) := by decide +kernel
theorem dL_arrowBy_10 : decode cL_arrowBy 10 = .ok (.ireturn, 1) := by decide +kernel
theorem dL_arrowBy_11 : decode cL_arrowBy 11 = .ok (.astore_n 3, 1) := by decide +kernel
theorem dL_arrowBy_12 : decode cL_arrowBy 12 = .ok (.ldc 61, 2) := by decide +kernel
theorem dL_arrowBy_14 : decode cL_arrowBy 14 = .ok (.ireturn, 1) := by decide +kernel
theorem dL_isSo_0 : decode cL_isSo 0 = .ok (.bipush 24, 2) := by decide +kernel
theorem dL_isSo_2 : decode cL_isSo 2 = .ok (.newarray .int, 2) := by decide +kernel
theorem dL_isSo_4 : decode cL_isSo 4 = .ok (.astore 6, 2) := by decide +kernel
theorem dL_isSo_6 : decode cL_isSo 6 = .ok (.aload_n 1, 1) := by decide +kernel
theorem dL_isSo_7 : decode cL_isSo 7 = .ok (.aload_n 2, 1) := by decide +kernel
theorem dL_isSo_8 : decode cL_isSo 8 = .ok (.aload_n 3, 1) := by decide +kernel
theorem dL_isSo_9 : decode cL_isSo 9 = .ok (.aload 6, 2) := by decide +kernel
theorem dL_isSo_11 : decode cL_isSo 11 = .ok (.aload_n 1, 1) := by decide +kernel
theorem dL_isSo_12 : decode cL_isSo 12 = .ok (.iconst 0, 1) := by decide +kernel
theorem dL_isSo_13 : decode cL_isSo 13 = .ok (.iaload, 1) := by decide +kernel
theorem dL_isSo_14 : decode cL_isSo 14 = .ok (.invokestatic 112, 3) := by decide +kernel
theorem dL_isSo_17 : decode cL_isSo 17 = .ok (.istore 7, 2) := by decide +kernel
theorem dL_isSo_19 : decode cL_isSo 19 = .ok (.aload_n 0, 1) := by decide +kernel
theorem dL_isSo_20 : decode cL_isSo 20 = .ok (.invokevirtual 116, 3) := by decide +kernel
theorem dL_isSo_23 : decode cL_isSo 23 = .ok (.iload 7, 2) := by decide +kernel
theorem dL_isSo_25 : decode cL_isSo 25 = .ok (.if_icmp .ne 7, 3) := by decide +kernel
theorem dL_isSo_28 : decode cL_isSo 28 = .ok (.iconst 1, 1) := by decide +kernel
theorem dL_isSo_29 : decode cL_isSo 29 = .ok (.goto 4, 3) := by decide +kernel
theorem dL_isSo_32 : decode cL_isSo 32 = .ok (.iconst 0, 1) := by decide +kernel
theorem dL_isSo_33 : decode cL_isSo 33 = .ok (.istore 8, 2) := by decide +kernel
theorem dL_isSo_35 : decode cL_isSo 35 = .ok (.iconst 0, 1) := by decide +kernel
theorem dL_isSo_36 : decode cL_isSo 36 = .ok (.istore 9, 2) := by decide +kernel
theorem dL_isSo_38 : decode cL_isSo 38 = .ok (.iload 9, 2) := by decide +kernel
theorem dL_isSo_40 : decode cL_isSo 40 = .ok (.bipush 6, 2) := by decide +kernel
theorem dL_isSo_42 : decode cL_isSo 42 = .ok (.if_icmp .ge 34, 3) := by decide +kernel
theorem dL_isSo_45 : decode cL_isSo 45 = .ok (.iload 8, 2) := by decide +kernel
theorem dL_isSo_47 : decode cL_isSo 47 = .ok (.ifCond .eq 20, 3) := by decide +kernel
theorem dL_isSo_50 : decode cL_isSo 50 = .ok (.aload_n 0, 1) := by decide +kernel
theorem dL_isSo_51 : decode cL_isSo 51 = .ok (.iload 9, 2) := by decide +kernel
theorem dL_isSo_53 : decode cL_isSo 53 = .ok (.invokestatic 119, 3) := by decide +kernel
theorem dL_isSo_56 : decode cL_isSo 56 = .ok (.aload_n 1, 1) := by decide +kernel
theorem dL_isSo_57 : decode cL_isSo 57 = .ok (.iload 9, 2) := by decide +kernel
theorem dL_isSo_59 : decode cL_isSo 59 = .ok (.iaload, 1) := by decide +kernel
theorem dL_isSo_60 : decode cL_isSo 60 = .ok (.if_icmp .ne 7, 3) := by decide +kernel
theorem dL_isSo_63 : decode cL_isSo 63 = .ok (.iconst 1, 1) := by decide +kernel
theorem dL_isSo_64 : decode cL_isSo 64 = .ok (.goto 4, 3) := by decide +kernel
theorem dL_isSo_67 : decode cL_isSo 67 = .ok (.iconst 0, 1) := by decide +kernel
theorem dL_isSo_68 : decode cL_isSo 68 = .ok (.istore 8, 2) := by decide +kernel
theorem dL_isSo_70 : decode cL_isSo 70 = .ok (.iinc 9 1, 3) := by decide +kernel
theorem dL_isSo_73 : decode cL_isSo 73 = .ok (.goto (-35), 3) := by decide +kernel
theorem dL_isSo_76 : decode cL_isSo 76 = .ok (.iconst 0, 1) := by decide +kernel
theorem dL_isSo_77 : decode cL_isSo 77 = .ok (.istore 9, 2) := by decide +kernel
theorem dL_isSo_79 : decode cL_isSo 79 = .ok (.iload 9, 2) := by decide +kernel
theorem dL_isSo_81 : decode cL_isSo 81 = .ok (.aload_n 1, 1) := by decide +kernel
theorem dL_isSo_82 : decode cL_isSo 82 = .ok (.iconst 4, 1) := by decide +kernel
theorem dL_isSo_83 : decode cL_isSo 83 = .ok (.iaload, 1) := by decide +kernel
theorem dL_isSo_84 : decode cL_isSo 84 = .ok (.if_icmp .ge 396, 3) := by decide +kernel
theorem dL_isSo_87 : decode cL_isSo 87 = .ok (.iload 8, 2) := by decide +kernel
theorem dL_isSo_89 : decode cL_isSo 89 = .ok (.ifCond .eq 391, 3) := by decide +kernel
theorem dL_isSo_92 : decode cL_isSo 92 = .ok (.aload_n 3, 1) := by decide +kernel
theorem dL_isSo_93 : decode cL_isSo 93 = .ok (.aload 4, 2) := by decide +kernel
theorem dL_isSo_95 : decode cL_isSo 95 = .ok (.iload 9, 2) := by decide +kernel
theorem dL_isSo_97 : decode cL_isSo 97 = .ok (.invokestatic 22, 3) := by decide +kernel
theorem dL_isSo_100 : decode cL_isSo 100 = .ok (.aload_n 1, 1) := by decide +kernel
theorem dL_isSo_101 : decode cL_isSo 101 = .ok (.iconst 1, 1) := by decide +kernel
theorem dL_isSo_102 : decode cL_isSo 102 = .ok (.iaload, 1) := by decide +kernel
theorem dL_isSo_103 : decode cL_isSo 103 = .ok (.idiv, 1) := by decide +kernel
theorem dL_isSo_104 : decode cL_isSo 104 = .ok (.aload_n 3, 1) := by decide +kernel
theorem dL_isSo_105 : decode cL_isSo 105 = .ok (.iload 9, 2) := by decide +kernel
theorem dL_isSo_107 : decode cL_isSo 107 = .ok (.iaload, 1) := by decide +kernel
theorem dL_isSo_108 : decode cL_isSo 108 = .ok (.aload_n 1, 1) := by decide +kernel
theorem dL_isSo_109 : decode cL_isSo 109 = .ok (.iconst 1, 1) := by decide +kernel
theorem dL_isSo_110 : decode cL_isSo 110 = .ok (.iaload, 1) := by decide +kernel
theorem dL_isSo_111 : decode cL_isSo 111 = .ok (.idiv, 1) := by decide +kernel
theorem dL_isSo_112 : decode cL_isSo 112 = .ok (.isub, 1) := by decide +kernel
theorem dL_isSo_113 : decode cL_isSo 113 = .ok (.iconst 1, 1) := by decide +kernel
theorem dL_isSo_114 : decode cL_isSo 114 = .ok (.iadd, 1) := by decide +kernel
theorem dL_isSo_115 : decode cL_isSo 115 = .ok (.istore 10, 2) := by decide +kernel
theorem dL_isSo_117 : decode cL_isSo 117 = .ok (.iconst 0, 1) := by decide +kernel
theorem dL_isSo_118 : decode cL_isSo 118 = .ok (.istore 11, 2) := by decide +kernel
theorem dL_isSo_120 : decode cL_isSo 120 = .ok (.iconst 0, 1) := by decide +kernel
theorem dL_isSo_121 : decode cL_isSo 121 = .ok (.istore 12, 2) := by decide +kernel
theorem dL_isSo_123 : decode cL_isSo 123 = .ok (.iload 12, 2) := by decide +kernel
theorem dL_isSo_125 : decode cL_isSo 125 = .ok (.aload_n 1, 1) := by decide +kernel
theorem dL_isSo_126 : decode cL_isSo 126 = .ok (.iconst 5, 1) := by decide +kernel
theorem dL_isSo_127 : decode cL_isSo 127 = .ok (.iaload, 1) := by decide +kernel
theorem dL_isSo_128 : decode cL_isSo 128 = .ok (.if_icmp .ge 61, 3) := by decide +kernel
theorem dL_isSo_131 : decode cL_isSo 131 = .ok (.aload_n 3, 1) := by decide +kernel
theorem dL_isSo_132 : decode cL_isSo 132 = .ok (.aload 4, 2) := by decide +kernel
theorem dL_isSo_134 : decode cL_isSo 134 = .ok (.aload 5, 2) := by decide +kernel
theorem dL_isSo_136 : decode cL_isSo 136 = .ok (.iload 12, 2) := by decide +kernel
theorem dL_isSo_138 : decode cL_isSo 138 = .ok (.iaload, 1) := by decide +kernel
theorem dL_isSo_139 : decode cL_isSo 139 = .ok (.bipush 32, 2) := by decide +kernel
theorem dL_isSo_141 : decode cL_isSo 141 = .ok (.idiv, 1) := by decide +kernel
theorem dL_isSo_142 : decode cL_isSo 142 = .ok (.invokestatic 22, 3) := by decide +kernel
theorem dL_isSo_145 : decode cL_isSo 145 = .ok (.iconst 1, 1) := by decide +kernel
theorem dL_isSo_146 : decode cL_isSo 146 = .ok (.iadd, 1) := by decide +kernel
theorem dL_isSo_147 : decode cL_isSo 147 = .ok (.aload_n 3, 1) := by decide +kernel
theorem dL_isSo_148 : decode cL_isSo 148 = .ok (.iload 9, 2) := by decide +kernel
theorem dL_isSo_150 : decode cL_isSo 150 = .ok (.iaload, 1) := by decide +kernel
theorem dL_isSo_151 : decode cL_isSo 151 = .ok (.isub, 1) := by decide +kernel
theorem dL_isSo_152 : decode cL_isSo 152 = .ok (.istore 13, 2) := by decide +kernel
theorem dL_isSo_154 : decode cL_isSo 154 = .ok (.aload 5, 2) := by decide +kernel
theorem dL_isSo_156 : decode cL_isSo 156 = .ok (.iload 12, 2) := by decide +kernel
theorem dL_isSo_158 : decode cL_isSo 158 = .ok (.iaload, 1) := by decide +kernel
theorem dL_isSo_159 : decode cL_isSo 159 = .ok (.bipush 32, 2) := by decide +kernel
theorem dL_isSo_161 : decode cL_isSo 161 = .ok (.irem, 1) := by decide +kernel
theorem dL_isSo_162 : decode cL_isSo 162 = .ok (.iload 9, 2) := by decide +kernel
theorem dL_isSo_164 : decode cL_isSo 164 = .ok (.if_icmp .ne 15, 3) := by decide +kernel
theorem dL_isSo_167 : decode cL_isSo 167 = .ok (.iload 13, 2) := by decide +kernel
theorem dL_isSo_169 : decode cL_isSo 169 = .ok (.iload 11, 2) := by decide +kernel
theorem dL_isSo_171 : decode cL_isSo 171 = .ok (.if_icmp .le 8, 3) := by decide +kernel
theorem dL_isSo_174 : decode cL_isSo 174 = .ok (.iload 13, 2) := by decide +kernel
theorem dL_isSo_176 : decode cL_isSo 176 = .ok (.goto 5, 3) := by decide +kernel
theorem dL_isSo_179 : decode cL_isSo 179 = .ok (.iload 11, 2) := by decide +kernel
theorem dL_isSo_181 : decode cL_isSo 181 = .ok (.istore 11, 2) := by decide +kernel
theorem dL_isSo_183 : decode cL_isSo 183 = .ok (.iinc 12 1, 3) := by decide +kernel
theorem dL_isSo_186 : decode cL_isSo 186 = .ok (.goto (-63), 3) := by decide +kernel
theorem dL_isSo_189 : decode cL_isSo 189 = .ok (.aload_n 0, 1) := by decide +kernel
theorem dL_isSo_190 : decode cL_isSo 190 = .ok (.iload 9, 2) := by decide +kernel
theorem dL_isSo_192 : decode cL_isSo 192 = .ok (.iconst 0, 1) := by decide +kernel
theorem dL_isSo_193 : decode cL_isSo 193 = .ok (.invokestatic 122, 3) := by decide +kernel
theorem dL_isSo_196 : decode cL_isSo 196 = .ok (.aload_n 2, 1) := by decide +kernel
theorem dL_isSo_197 : decode cL_isSo 197 = .ok (.iload 9, 2) := by decide +kernel
theorem dL_isSo_199 : decode cL_isSo 199 = .ok (.iaload, 1) := by decide +kernel
theorem dL_isSo_200 : decode cL_isSo 200 = .ok (.if_icmp .ne 114, 3) := by decide +kernel
theorem dL_isSo_203 : decode cL_isSo 203 = .ok (.aload_n 0, 1) := by decide +kernel
theorem dL_isSo_204 : decode cL_isSo 204 = .ok (.iload 9, 2) := by decide +kernel
theorem dL_isSo_206 : decode cL_isSo 206 = .ok (.iconst 1, 1) := by decide +kernel
theorem dL_isSo_207 : decode cL_isSo 207 = .ok (.invokestatic 122, 3) := by decide +kernel
theorem dL_isSo_210 : decode cL_isSo 210 = .ok (.aload_n 3, 1) := by decide +kernel
theorem dL_isSo_211 : decode cL_isSo 211 = .ok (.iload 9, 2) := by decide +kernel
theorem dL_isSo_213 : decode cL_isSo 213 = .ok (.iaload, 1) := by decide +kernel
theorem dL_isSo_214 : decode cL_isSo 214 = .ok (.if_icmp .ne 100, 3) := by decide +kernel
theorem dL_isSo_217 : decode cL_isSo 217 = .ok (.aload_n 0, 1) := by decide +kernel
theorem dL_isSo_218 : decode cL_isSo 218 = .ok (.iload 9, 2) := by decide +kernel
theorem dL_isSo_220 : decode cL_isSo 220 = .ok (.iconst 2, 1) := by decide +kernel
theorem dL_isSo_221 : decode cL_isSo 221 = .ok (.invokestatic 122, 3) := by decide +kernel
theorem dL_isSo_224 : decode cL_isSo 224 = .ok (.aload 4, 2) := by decide +kernel
theorem dL_isSo_226 : decode cL_isSo 226 = .ok (.iload 9, 2) := by decide +kernel
theorem dL_isSo_228 : decode cL_isSo 228 = .ok (.iaload, 1) := by decide +kernel
theorem dL_isSo_229 : decode cL_isSo 229 = .ok (.if_icmp .ne 85, 3) := by decide +kernel
theorem dL_isSo_232 : decode cL_isSo 232 = .ok (.aload_n 0, 1) := by decide +kernel
theorem dL_isSo_233 : decode cL_isSo 233 = .ok (.iload 9, 2) := by decide +kernel
theorem dL_isSo_235 : decode cL_isSo 235 = .ok (.iconst 3, 1) := by decide +kernel
theorem dL_isSo_236 : decode cL_isSo 236 = .ok (.invokestatic 122, 3) := by decide +kernel
theorem dL_isSo_239 : decode cL_isSo 239 = .ok (.aload_n 3, 1) := by decide +kernel
theorem dL_isSo_240 : decode cL_isSo 240 = .ok (.aload 4, 2) := by decide +kernel
theorem dL_isSo_242 : decode cL_isSo 242 = .ok (.iload 9, 2) := by decide +kernel
theorem dL_isSo_244 : decode cL_isSo 244 = .ok (.invokestatic 22, 3) := by decide +kernel
theorem dL_isSo_247 : decode cL_isSo 247 = .ok (.if_icmp .ne 67, 3) := by decide +kernel
theorem dL_isSo_250 : decode cL_isSo 250 = .ok (.aload_n 0, 1) := by decide +kernel
theorem dL_isSo_251 : decode cL_isSo 251 = .ok (.iload 9, 2) := by decide +kernel
theorem dL_isSo_253 : decode cL_isSo 253 = .ok (.iconst 4, 1) := by decide +kernel
theorem dL_isSo_254 : decode cL_isSo 254 = .ok (.invokestatic 122, 3) := by decide +kernel
theorem dL_isSo_257 : decode cL_isSo 257 = .ok (.aload 6, 2) := by decide +kernel
theorem dL_isSo_259 : decode cL_isSo 259 = .ok (.iload 9, 2) := by decide +kernel
theorem dL_isSo_261 : decode cL_isSo 261 = .ok (.iaload, 1) := by decide +kernel
theorem dL_isSo_262 : decode cL_isSo 262 = .ok (.bipush 32, 2) := by decide +kernel
theorem dL_isSo_264 : decode cL_isSo 264 = .ok (.idiv, 1) := by decide +kernel
theorem dL_isSo_265 : decode cL_isSo 265 = .ok (.if_icmp .ne 49, 3) := by decide +kernel
theorem dL_isSo_268 : decode cL_isSo 268 = .ok (.aload_n 0, 1) := by decide +kernel
theorem dL_isSo_269 : decode cL_isSo 269 = .ok (.iload 9, 2) := by decide +kernel
theorem dL_isSo_271 : decode cL_isSo 271 = .ok (.iconst 5, 1) := by decide +kernel
theorem dL_isSo_272 : decode cL_isSo 272 = .ok (.invokestatic 122, 3) := by decide +kernel
theorem dL_isSo_275 : decode cL_isSo 275 = .ok (.aload 6, 2) := by decide +kernel
theorem dL_isSo_277 : decode cL_isSo 277 = .ok (.iload 9, 2) := by decide +kernel
theorem dL_isSo_279 : decode cL_isSo 279 = .ok (.iaload, 1) := by decide +kernel
theorem dL_isSo_280 : decode cL_isSo 280 = .ok (.bipush 32, 2) := by decide +kernel
theorem dL_isSo_282 : decode cL_isSo 282 = .ok (.irem, 1) := by decide +kernel
theorem dL_isSo_283 : decode cL_isSo 283 = .ok (.if_icmp .ne 31, 3) := by decide +kernel
theorem dL_isSo_286 : decode cL_isSo 286 = .ok (.aload_n 0, 1) := by decide +kernel
theorem dL_isSo_287 : decode cL_isSo 287 = .ok (.iload 9, 2) := by decide +kernel
theorem dL_isSo_289 : decode cL_isSo 289 = .ok (.bipush 6, 2) := by decide +kernel
theorem dL_isSo_291 : decode cL_isSo 291 = .ok (.invokestatic 122, 3) := by decide +kernel
theorem dL_isSo_294 : decode cL_isSo 294 = .ok (.iload 10, 2) := by decide +kernel
theorem dL_isSo_296 : decode cL_isSo 296 = .ok (.if_icmp .ne 18, 3) := by decide +kernel
theorem dL_isSo_299 : decode cL_isSo 299 = .ok (.aload_n 0, 1) := by decide +kernel
theorem dL_isSo_300 : decode cL_isSo 300 = .ok (.iload 9, 2) := by decide +kernel
theorem dL_isSo_302 : decode cL_isSo 302 = .ok (.invokestatic 125, 3) := by decide +kernel
theorem dL_isSo_305 : decode cL_isSo 305 = .ok (.iload 11, 2) := by decide +kernel
theorem dL_isSo_307 : decode cL_isSo 307 = .ok (.if_icmp .ne 7, 3) := by decide +kernel
theorem dL_isSo_310 : decode cL_isSo 310 = .ok (.iconst 1, 1) := by decide +kernel
theorem dL_isSo_311 : decode cL_isSo 311 = .ok (.goto 4, 3) := by decide +kernel
theorem dL_isSo_314 : decode cL_isSo 314 = .ok (.iconst 0, 1) := by decide +kernel
theorem dL_isSo_315 : decode cL_isSo 315 = .ok (.istore 8, 2) := by decide +kernel
theorem dL_isSo_317 : decode cL_isSo 317 = .ok (.iconst 0, 1) := by decide +kernel
theorem dL_isSo_318 : decode cL_isSo 318 = .ok (.istore 12, 2) := by decide +kernel
theorem dL_isSo_320 : decode cL_isSo 320 = .ok (.iconst 0, 1) := by decide +kernel
theorem dL_isSo_321 : decode cL_isSo 321 = .ok (.istore 13, 2) := by decide +kernel
theorem dL_isSo_323 : decode cL_isSo 323 = .ok (.iload 13, 2) := by decide +kernel
theorem dL_isSo_325 : decode cL_isSo 325 = .ok (.iload 10, 2) := by decide +kernel
theorem dL_isSo_327 : decode cL_isSo 327 = .ok (.if_icmp .ge 111, 3) := by decide +kernel
theorem dL_isSo_330 : decode cL_isSo 330 = .ok (.iload 8, 2) := by decide +kernel
theorem dL_isSo_332 : decode cL_isSo 332 = .ok (.ifCond .eq 106, 3) := by decide +kernel
theorem dL_isSo_335 : decode cL_isSo 335 = .ok (.iload 13, 2) := by decide +kernel
theorem dL_isSo_337 : decode cL_isSo 337 = .ok (.ifCond .ne 14, 3) := by decide +kernel
theorem dL_isSo_340 : decode cL_isSo 340 = .ok (.aload_n 3, 1) := by decide +kernel
theorem dL_isSo_341 : decode cL_isSo 341 = .ok (.iload 9, 2) := by decide +kernel
theorem dL_isSo_343 : decode cL_isSo 343 = .ok (.iaload, 1) := by decide +kernel
theorem dL_isSo_344 : decode cL_isSo 344 = .ok (.aload_n 1, 1) := by decide +kernel
theorem dL_isSo_345 : decode cL_isSo 345 = .ok (.iconst 1, 1) := by decide +kernel
theorem dL_isSo_346 : decode cL_isSo 346 = .ok (.iaload, 1) := by decide +kernel
theorem dL_isSo_347 : decode cL_isSo 347 = .ok (.irem, 1) := by decide +kernel
theorem dL_isSo_348 : decode cL_isSo 348 = .ok (.goto 4, 3) := by decide +kernel
theorem dL_isSo_351 : decode cL_isSo 351 = .ok (.iconst 0, 1) := by decide +kernel
theorem dL_isSo_352 : decode cL_isSo 352 = .ok (.istore 14, 2) := by decide +kernel
theorem dL_isSo_354 : decode cL_isSo 354 = .ok (.aload_n 1, 1) := by decide +kernel
theorem dL_isSo_355 : decode cL_isSo 355 = .ok (.iconst 1, 1) := by decide +kernel
theorem dL_isSo_356 : decode cL_isSo 356 = .ok (.iaload, 1) := by decide +kernel
theorem dL_isSo_357 : decode cL_isSo 357 = .ok (.iload 14, 2) := by decide +kernel
theorem dL_isSo_359 : decode cL_isSo 359 = .ok (.isub, 1) := by decide +kernel
theorem dL_isSo_360 : decode cL_isSo 360 = .ok (.aload 4, 2) := by decide +kernel
theorem dL_isSo_362 : decode cL_isSo 362 = .ok (.iload 9, 2) := by decide +kernel
theorem dL_isSo_364 : decode cL_isSo 364 = .ok (.iaload, 1) := by decide +kernel
theorem dL_isSo_365 : decode cL_isSo 365 = .ok (.iload 12, 2) := by decide +kernel
theorem dL_isSo_367 : decode cL_isSo 367 = .ok (.isub, 1) := by decide +kernel
theorem dL_isSo_368 : decode cL_isSo 368 = .ok (.if_icmp .ge 12, 3) := by decide +kernel
theorem dL_isSo_371 : decode cL_isSo 371 = .ok (.aload_n 1, 1) := by decide +kernel
theorem dL_isSo_372 : decode cL_isSo 372 = .ok (.iconst 1, 1) := by decide +kernel
theorem dL_isSo_373 : decode cL_isSo 373 = .ok (.iaload, 1) := by decide +kernel
theorem dL_isSo_374 : decode cL_isSo 374 = .ok (.iload 14, 2) := by decide +kernel
theorem dL_isSo_376 : decode cL_isSo 376 = .ok (.isub, 1) := by decide +kernel
theorem dL_isSo_377 : decode cL_isSo 377 = .ok (.goto 11, 3) := by decide +kernel
theorem dL_isSo_380 : decode cL_isSo 380 = .ok (.aload 4, 2) := by decide +kernel
theorem dL_isSo_382 : decode cL_isSo 382 = .ok (.iload 9, 2) := by decide +kernel
theorem dL_isSo_384 : decode cL_isSo 384 = .ok (.iaload, 1) := by decide +kernel
theorem dL_isSo_385 : decode cL_isSo 385 = .ok (.iload 12, 2) := by decide +kernel
theorem dL_isSo_387 : decode cL_isSo 387 = .ok (.isub, 1) := by decide +kernel
theorem dL_isSo_388 : decode cL_isSo 388 = .ok (.istore 15, 2) := by decide +kernel
theorem dL_isSo_390 : decode cL_isSo 390 = .ok (.aload_n 0, 1) := by decide +kernel
theorem dL_isSo_391 : decode cL_isSo 391 = .ok (.iload 9, 2) := by decide +kernel
theorem dL_isSo_393 : decode cL_isSo 393 = .ok (.iload 13, 2) := by decide +kernel
theorem dL_isSo_395 : decode cL_isSo 395 = .ok (.iconst 1, 1) := by decide +kernel
theorem dL_isSo_396 : decode cL_isSo 396 = .ok (.invokestatic 128, 3) := by decide +kernel
theorem dL_isSo_399 : decode cL_isSo 399 = .ok (.iload 14, 2) := by decide +kernel
theorem dL_isSo_401 : decode cL_isSo 401 = .ok (.if_icmp .ne 21, 3) := by decide +kernel
theorem dL_isSo_404 : decode cL_isSo 404 = .ok (.aload_n 0, 1) := by decide +kernel
theorem dL_isSo_405 : decode cL_isSo 405 = .ok (.iload 9, 2) := by decide +kernel
theorem dL_isSo_407 : decode cL_isSo 407 = .ok (.iload 13, 2) := by decide +kernel
theorem dL_isSo_409 : decode cL_isSo 409 = .ok (.iconst 2, 1) := by decide +kernel
theorem dL_isSo_410 : decode cL_isSo 410 = .ok (.invokestatic 128, 3) := by decide +kernel
theorem dL_isSo_413 : decode cL_isSo 413 = .ok (.iload 15, 2) := by decide +kernel
theorem dL_isSo_415 : decode cL_isSo 415 = .ok (.if_icmp .ne 7, 3) := by decide +kernel
theorem dL_isSo_418 : decode cL_isSo 418 = .ok (.iconst 1, 1) := by decide +kernel
theorem dL_isSo_419 : decode cL_isSo 419 = .ok (.goto 4, 3) := by decide +kernel
theorem dL_isSo_422 : decode cL_isSo 422 = .ok (.iconst 0, 1) := by decide +kernel
theorem dL_isSo_423 : decode cL_isSo 423 = .ok (.istore 8, 2) := by decide +kernel
theorem dL_isSo_425 : decode cL_isSo 425 = .ok (.iload 12, 2) := by decide +kernel
theorem dL_isSo_427 : decode cL_isSo 427 = .ok (.iload 15, 2) := by decide +kernel
theorem dL_isSo_429 : decode cL_isSo 429 = .ok (.iadd, 1) := by decide +kernel
theorem dL_isSo_430 : decode cL_isSo 430 = .ok (.istore 12, 2) := by decide +kernel
theorem dL_isSo_432 : decode cL_isSo 432 = .ok (.iinc 13 1, 3) := by decide +kernel
theorem dL_isSo_435 : decode cL_isSo 435 = .ok (.goto (-112), 3) := by decide +kernel
theorem dL_isSo_438 : decode cL_isSo 438 = .ok (.iload 8, 2) := by decide +kernel
theorem dL_isSo_440 : decode cL_isSo 440 = .ok (.ifCond .eq 31, 3) := by decide +kernel
theorem dL_isSo_443 : decode cL_isSo 443 = .ok (.iload 12, 2) := by decide +kernel
theorem dL_isSo_445 : decode cL_isSo 445 = .ok (.aload 4, 2) := by decide +kernel
theorem dL_isSo_447 : decode cL_isSo 447 = .ok (.iload 9, 2) := by decide +kernel
theorem dL_isSo_449 : decode cL_isSo 449 = .ok (.iaload, 1) := by decide +kernel
theorem dL_isSo_450 : decode cL_isSo 450 = .ok (.if_icmp .ne 21, 3) := by decide +kernel
theorem dL_isSo_453 : decode cL_isSo 453 = .ok (.aload_n 0, 1) := by decide +kernel
theorem dL_isSo_454 : decode cL_isSo 454 = .ok (.iload 9, 2) := by decide +kernel
theorem dL_isSo_456 : decode cL_isSo 456 = .ok (.iload 10, 2) := by decide +kernel
theorem dL_isSo_458 : decode cL_isSo 458 = .ok (.iconst 0, 1) := by decide +kernel
theorem dL_isSo_459 : decode cL_isSo 459 = .ok (.invokestatic 128, 3) := by decide +kernel
theorem dL_isSo_462 : decode cL_isSo 462 = .ok (.ldc 46, 2) := by decide +kernel
theorem dL_isSo_464 : decode cL_isSo 464 = .ok (.if_icmp .ne 7, 3) := by decide +kernel
theorem dL_isSo_467 : decode cL_isSo 467 = .ok (.iconst 1, 1) := by decide +kernel
theorem dL_isSo_468 : decode cL_isSo 468 = .ok (.goto 4, 3) := by decide +kernel
theorem dL_isSo_471 : decode cL_isSo 471 = .ok (.iconst 0, 1) := by decide +kernel
theorem dL_isSo_472 : decode cL_isSo 472 = .ok (.istore 8, 2) := by decide +kernel
theorem dL_isSo_474 : decode cL_isSo 474 = .ok (.iinc 9 1, 3) := by decide +kernel
theorem dL_isSo_477 : decode cL_isSo 477 = .ok (.goto (-398), 3) := by decide +kernel
theorem dL_isSo_480 : decode cL_isSo 480 = .ok (.iconst 0, 1) := by decide +kernel
theorem dL_isSo_481 : decode cL_isSo 481 = .ok (.istore 9, 2) := by decide +kernel
theorem dL_isSo_483 : decode cL_isSo 483 = .ok (.iload 9, 2) := by decide +kernel
theorem dL_isSo_485 : decode cL_isSo 485 = .ok (.iload 7, 2) := by decide +kernel
theorem dL_isSo_487 : decode cL_isSo 487 = .ok (.aload_n 1, 1) := by decide +kernel
theorem dL_isSo_488 : decode cL_isSo 488 = .ok (.iconst 0, 1) := by decide +kernel
theorem dL_isSo_489 : decode cL_isSo 489 = .ok (.iaload, 1) := by decide +kernel
theorem dL_isSo_490 : decode cL_isSo 490 = .ok (.imul, 1) := by decide +kernel
theorem dL_isSo_491 : decode cL_isSo 491 = .ok (.if_icmp .ge 205, 3) := by decide +kernel
theorem dL_isSo_494 : decode cL_isSo 494 = .ok (.iload 8, 2) := by decide +kernel
theorem dL_isSo_496 : decode cL_isSo 496 = .ok (.ifCond .eq 200, 3) := by decide +kernel
theorem dL_isSo_499 : decode cL_isSo 499 = .ok (.iconst (-1), 1) := by decide +kernel
theorem dL_isSo_500 : decode cL_isSo 500 = .ok (.istore 10, 2) := by decide +kernel
theorem dL_isSo_502 : decode cL_isSo 502 = .ok (.iconst (-1), 1) := by decide +kernel
theorem dL_isSo_503 : decode cL_isSo 503 = .ok (.istore 11, 2) := by decide +kernel
theorem dL_isSo_505 : decode cL_isSo 505 = .ok (.iconst 0, 1) := by decide +kernel
theorem dL_isSo_506 : decode cL_isSo 506 = .ok (.istore 12, 2) := by decide +kernel
theorem dL_isSo_508 : decode cL_isSo 508 = .ok (.iload 12, 2) := by decide +kernel
theorem dL_isSo_510 : decode cL_isSo 510 = .ok (.aload_n 1, 1) := by decide +kernel
theorem dL_isSo_511 : decode cL_isSo 511 = .ok (.iconst 4, 1) := by decide +kernel
theorem dL_isSo_512 : decode cL_isSo 512 = .ok (.iaload, 1) := by decide +kernel
theorem dL_isSo_513 : decode cL_isSo 513 = .ok (.if_icmp .ge 77, 3) := by decide +kernel
theorem dL_isSo_516 : decode cL_isSo 516 = .ok (.aload 6, 2) := by decide +kernel
theorem dL_isSo_518 : decode cL_isSo 518 = .ok (.iload 12, 2) := by decide +kernel
theorem dL_isSo_520 : decode cL_isSo 520 = .ok (.iaload, 1) := by decide +kernel
theorem dL_isSo_521 : decode cL_isSo 521 = .ok (.bipush 32, 2) := by decide +kernel
theorem dL_isSo_523 : decode cL_isSo 523 = .ok (.iload 9, 2) := by decide +kernel
theorem dL_isSo_525 : decode cL_isSo 525 = .ok (.aload_n 1, 1) := by decide +kernel
theorem dL_isSo_526 : decode cL_isSo 526 = .ok (.iconst 0, 1) := by decide +kernel
theorem dL_isSo_527 : decode cL_isSo 527 = .ok (.iaload, 1) := by decide +kernel
theorem dL_isSo_528 : decode cL_isSo 528 = .ok (.idiv, 1) := by decide +kernel
theorem dL_isSo_529 : decode cL_isSo 529 = .ok (.imul, 1) := by decide +kernel
theorem dL_isSo_530 : decode cL_isSo 530 = .ok (.iload 9, 2) := by decide +kernel
theorem dL_isSo_532 : decode cL_isSo 532 = .ok (.aload_n 1, 1) := by decide +kernel
theorem dL_isSo_533 : decode cL_isSo 533 = .ok (.iconst 0, 1) := by decide +kernel
theorem dL_isSo_534 : decode cL_isSo 534 = .ok (.iaload, 1) := by decide +kernel
theorem dL_isSo_535 : decode cL_isSo 535 = .ok (.irem, 1) := by decide +kernel
theorem dL_isSo_536 : decode cL_isSo 536 = .ok (.iadd, 1) := by decide +kernel
theorem dL_isSo_537 : decode cL_isSo 537 = .ok (.if_icmp .ne 8, 3) := by decide +kernel
theorem dL_isSo_540 : decode cL_isSo 540 = .ok (.iload 12, 2) := by decide +kernel
theorem dL_isSo_542 : decode cL_isSo 542 = .ok (.goto 5, 3) := by decide +kernel
theorem dL_isSo_545 : decode cL_isSo 545 = .ok (.iload 10, 2) := by decide +kernel
theorem dL_isSo_547 : decode cL_isSo 547 = .ok (.istore 10, 2) := by decide +kernel
theorem dL_isSo_549 : decode cL_isSo 549 = .ok (.aload 6, 2) := by decide +kernel
theorem dL_isSo_551 : decode cL_isSo 551 = .ok (.iload 12, 2) := by decide +kernel
theorem dL_isSo_553 : decode cL_isSo 553 = .ok (.iaload, 1) := by decide +kernel
theorem dL_isSo_554 : decode cL_isSo 554 = .ok (.bipush 32, 2) := by decide +kernel
theorem dL_isSo_556 : decode cL_isSo 556 = .ok (.iload 9, 2) := by decide +kernel
theorem dL_isSo_558 : decode cL_isSo 558 = .ok (.aload_n 1, 1) := by decide +kernel
theorem dL_isSo_559 : decode cL_isSo 559 = .ok (.iconst 0, 1) := by decide +kernel
theorem dL_isSo_560 : decode cL_isSo 560 = .ok (.iaload, 1) := by decide +kernel
theorem dL_isSo_561 : decode cL_isSo 561 = .ok (.idiv, 1) := by decide +kernel
theorem dL_isSo_562 : decode cL_isSo 562 = .ok (.imul, 1) := by decide +kernel
theorem dL_isSo_563 : decode cL_isSo 563 = .ok (.iload 9, 2) := by decide +kernel
theorem dL_isSo_565 : decode cL_isSo 565 = .ok (.aload_n 1, 1) := by decide +kernel
theorem dL_isSo_566 : decode cL_isSo 566 = .ok (.iconst 0, 1) := by decide +kernel
theorem dL_isSo_567 : decode cL_isSo 567 = .ok (.iaload, 1) := by decide +kernel
theorem dL_isSo_568 : decode cL_isSo 568 = .ok (.irem, 1) := by decide +kernel
theorem dL_isSo_569 : decode cL_isSo 569 = .ok (.iadd, 1) := by decide +kernel
theorem dL_isSo_570 : decode cL_isSo 570 = .ok (.iconst 1, 1) := by decide +kernel
theorem dL_isSo_571 : decode cL_isSo 571 = .ok (.iadd, 1) := by decide +kernel
theorem dL_isSo_572 : decode cL_isSo 572 = .ok (.if_icmp .ne 8, 3) := by decide +kernel
theorem dL_isSo_575 : decode cL_isSo 575 = .ok (.iload 12, 2) := by decide +kernel
theorem dL_isSo_577 : decode cL_isSo 577 = .ok (.goto 5, 3) := by decide +kernel
theorem dL_isSo_580 : decode cL_isSo 580 = .ok (.iload 11, 2) := by decide +kernel
theorem dL_isSo_582 : decode cL_isSo 582 = .ok (.istore 11, 2) := by decide +kernel
theorem dL_isSo_584 : decode cL_isSo 584 = .ok (.iinc 12 1, 3) := by decide +kernel
theorem dL_isSo_587 : decode cL_isSo 587 = .ok (.goto (-79), 3) := by decide +kernel
theorem dL_isSo_590 : decode cL_isSo 590 = .ok (.iload 11, 2) := by decide +kernel
theorem dL_isSo_592 : decode cL_isSo 592 = .ok (.ifCond .lt 28, 3) := by decide +kernel
theorem dL_isSo_595 : decode cL_isSo 595 = .ok (.aload_n 1, 1) := by decide +kernel
theorem dL_isSo_596 : decode cL_isSo 596 = .ok (.aload_n 2, 1) := by decide +kernel
theorem dL_isSo_597 : decode cL_isSo 597 = .ok (.aload_n 3, 1) := by decide +kernel
theorem dL_isSo_598 : decode cL_isSo 598 = .ok (.aload_n 2, 1) := by decide +kernel
theorem dL_isSo_599 : decode cL_isSo 599 = .ok (.iload 11, 2) := by decide +kernel
theorem dL_isSo_601 : decode cL_isSo 601 = .ok (.iaload, 1) := by decide +kernel
theorem dL_isSo_602 : decode cL_isSo 602 = .ok (.sipush 6400, 3) := by decide +kernel
theorem dL_isSo_605 : decode cL_isSo 605 = .ok (.imul, 1) := by decide +kernel
theorem dL_isSo_606 : decode cL_isSo 606 = .ok (.iconst 1, 1) := by decide +kernel
theorem dL_isSo_607 : decode cL_isSo 607 = .ok (.isub, 1) := by decide +kernel
theorem dL_isSo_608 : decode cL_isSo 608 = .ok (.invokestatic 15, 3) := by decide +kernel
theorem dL_isSo_611 : decode cL_isSo 611 = .ok (.iload 11, 2) := by decide +kernel
theorem dL_isSo_613 : decode cL_isSo 613 = .ok (.if_icmp .ne 7, 3) := by decide +kernel
theorem dL_isSo_616 : decode cL_isSo 616 = .ok (.iconst 1, 1) := by decide +kernel
theorem dL_isSo_617 : decode cL_isSo 617 = .ok (.goto 4, 3) := by decide +kernel
theorem dL_isSo_620 : decode cL_isSo 620 = .ok (.iconst 0, 1) := by decide +kernel
theorem dL_isSo_621 : decode cL_isSo 621 = .ok (.istore 12, 2) := by decide +kernel
theorem dL_isSo_623 : decode cL_isSo 623 = .ok (.iload 10, 2) := by decide +kernel
theorem dL_isSo_625 : decode cL_isSo 625 = .ok (.ifCond .lt 8, 3) := by decide +kernel
theorem dL_isSo_628 : decode cL_isSo 628 = .ok (.iload 10, 2) := by decide +kernel
theorem dL_isSo_630 : decode cL_isSo 630 = .ok (.goto 30, 3) := by decide +kernel
theorem dL_isSo_633 : decode cL_isSo 633 = .ok (.iload 11, 2) := by decide +kernel
theorem dL_isSo_635 : decode cL_isSo 635 = .ok (.ifCond .ge 7, 3) := by decide +kernel
theorem dL_isSo_638 : decode cL_isSo 638 = .ok (.iconst (-1), 1) := by decide +kernel
theorem dL_isSo_639 : decode cL_isSo 639 = .ok (.goto 21, 3) := by decide +kernel
theorem dL_isSo_642 : decode cL_isSo 642 = .ok (.iload 12, 2) := by decide +kernel
theorem dL_isSo_644 : decode cL_isSo 644 = .ok (.ifCond .eq 8, 3) := by decide +kernel
theorem dL_isSo_647 : decode cL_isSo 647 = .ok (.bipush 100, 2) := by decide +kernel
theorem dL_isSo_649 : decode cL_isSo 649 = .ok (.goto 6, 3) := by decide +kernel
theorem dL_isSo_652 : decode cL_isSo 652 = .ok (.sipush 200, 3) := by decide +kernel
theorem dL_isSo_655 : decode cL_isSo 655 = .ok (.aload_n 2, 1) := by decide +kernel
theorem dL_isSo_656 : decode cL_isSo 656 = .ok (.iload 11, 2) := by decide +kernel
theorem dL_isSo_658 : decode cL_isSo 658 = .ok (.iaload, 1) := by decide +kernel
theorem dL_isSo_659 : decode cL_isSo 659 = .ok (.iadd, 1) := by decide +kernel
theorem dL_isSo_660 : decode cL_isSo 660 = .ok (.istore 13, 2) := by decide +kernel
theorem dL_isSo_662 : decode cL_isSo 662 = .ok (.aload_n 0, 1) := by decide +kernel
theorem dL_isSo_663 : decode cL_isSo 663 = .ok (.iload 9, 2) := by decide +kernel
theorem dL_isSo_665 : decode cL_isSo 665 = .ok (.aload_n 1, 1) := by decide +kernel
theorem dL_isSo_666 : decode cL_isSo 666 = .ok (.iconst 0, 1) := by decide +kernel
theorem dL_isSo_667 : decode cL_isSo 667 = .ok (.iaload, 1) := by decide +kernel
theorem dL_isSo_668 : decode cL_isSo 668 = .ok (.idiv, 1) := by decide +kernel
theorem dL_isSo_669 : decode cL_isSo 669 = .ok (.iload 9, 2) := by decide +kernel
theorem dL_isSo_671 : decode cL_isSo 671 = .ok (.aload_n 1, 1) := by decide +kernel
theorem dL_isSo_672 : decode cL_isSo 672 = .ok (.iconst 0, 1) := by decide +kernel
theorem dL_isSo_673 : decode cL_isSo 673 = .ok (.iaload, 1) := by decide +kernel
theorem dL_isSo_674 : decode cL_isSo 674 = .ok (.irem, 1) := by decide +kernel
theorem dL_isSo_675 : decode cL_isSo 675 = .ok (.invokestatic 131, 3) := by decide +kernel
theorem dL_isSo_678 : decode cL_isSo 678 = .ok (.iload 13, 2) := by decide +kernel
theorem dL_isSo_680 : decode cL_isSo 680 = .ok (.if_icmp .ne 7, 3) := by decide +kernel
theorem dL_isSo_683 : decode cL_isSo 683 = .ok (.iconst 1, 1) := by decide +kernel
theorem dL_isSo_684 : decode cL_isSo 684 = .ok (.goto 4, 3) := by decide +kernel
theorem dL_isSo_687 : decode cL_isSo 687 = .ok (.iconst 0, 1) := by decide +kernel
theorem dL_isSo_688 : decode cL_isSo 688 = .ok (.istore 8, 2) := by decide +kernel
theorem dL_isSo_690 : decode cL_isSo 690 = .ok (.iinc 9 1, 3) := by decide +kernel
theorem dL_isSo_693 : decode cL_isSo 693 = .ok (.goto (-210), 3) := by decide +kernel
theorem dL_isSo_696 : decode cL_isSo 696 = .ok (.iload 8, 2) := by decide +kernel
theorem dL_isSo_698 : decode cL_isSo 698 = .ok (.ifCond .eq 35, 3) := by decide +kernel
theorem dL_isSo_701 : decode cL_isSo 701 = .ok (.aload_n 0, 1) := by decide +kernel
theorem dL_isSo_702 : decode cL_isSo 702 = .ok (.iload 7, 2) := by decide +kernel
theorem dL_isSo_704 : decode cL_isSo 704 = .ok (.iconst 0, 1) := by decide +kernel
theorem dL_isSo_705 : decode cL_isSo 705 = .ok (.invokestatic 131, 3) := by decide +kernel
theorem dL_isSo_708 : decode cL_isSo 708 = .ok (.ldc 46, 2) := by decide +kernel
theorem dL_isSo_710 : decode cL_isSo 710 = .ok (.if_icmp .ne 23, 3) := by decide +kernel
theorem dL_isSo_713 : decode cL_isSo 713 = .ok (.aload_n 0, 1) := by decide +kernel
theorem dL_isSo_714 : decode cL_isSo 714 = .ok (.invokevirtual 134, 3) := by decide +kernel
theorem dL_isSo_717 : decode cL_isSo 717 = .ok (.aload_n 1, 1) := by decide +kernel
theorem dL_isSo_718 : decode cL_isSo 718 = .ok (.aload_n 3, 1) := by decide +kernel
theorem dL_isSo_719 : decode cL_isSo 719 = .ok (.aload 4, 2) := by decide +kernel
theorem dL_isSo_721 : decode cL_isSo 721 = .ok (.aload 5, 2) := by decide +kernel
theorem dL_isSo_723 : decode cL_isSo 723 = .ok (.invokestatic 137, 3) := by decide +kernel
theorem dL_isSo_726 : decode cL_isSo 726 = .ok (.if_icmp .ne 7, 3) := by decide +kernel
theorem dL_isSo_729 : decode cL_isSo 729 = .ok (.iconst 1, 1) := by decide +kernel
theorem dL_isSo_730 : decode cL_isSo 730 = .ok (.goto 4, 3) := by decide +kernel
theorem dL_isSo_733 : decode cL_isSo 733 = .ok (.iconst 0, 1) := by decide +kernel
theorem dL_isSo_734 : decode cL_isSo 734 = .ok (.ireturn, 1) := by decide +kernel
theorem dL_chain_0 : decode cL_chain 0 = .ok (.bipush 24, 2) := by decide +kernel
theorem dL_chain_2 : decode cL_chain 2 = .ok (.newarray .int, 2) := by decide +kernel
theorem dL_chain_4 : decode cL_chain 4 = .ok (.astore 4, 2) := by decide +kernel
theorem dL_chain_6 : decode cL_chain 6 = .ok (.iconst 0, 1) := by decide +kernel
theorem dL_chain_7 : decode cL_chain 7 = .ok (.istore 5, 2) := by decide +kernel
theorem dL_chain_9 : decode cL_chain 9 = .ok (.sipush 258, 3) := by decide +kernel
theorem dL_chain_12 : decode cL_chain 12 = .ok (.istore 6, 2) := by decide +kernel
theorem dL_chain_14 : decode cL_chain 14 = .ok (.iload 6, 2) := by decide +kernel
theorem dL_chain_16 : decode cL_chain 16 = .ok (.ifCond .lt 161, 3) := by decide +kernel
theorem dL_chain_19 : decode cL_chain 19 = .ok (.iconst 0, 1) := by decide +kernel
theorem dL_chain_20 : decode cL_chain 20 = .ok (.istore 7, 2) := by decide +kernel
theorem dL_chain_22 : decode cL_chain 22 = .ok (.iload 7, 2) := by decide +kernel
theorem dL_chain_24 : decode cL_chain 24 = .ok (.aload_n 0, 1) := by decide +kernel
theorem dL_chain_25 : decode cL_chain 25 = .ok (.iconst 4, 1) := by decide +kernel
theorem dL_chain_26 : decode cL_chain 26 = .ok (.iaload, 1) := by decide +kernel
theorem dL_chain_27 : decode cL_chain 27 = .ok (.if_icmp .ge 144, 3) := by decide +kernel
theorem dL_chain_30 : decode cL_chain 30 = .ok (.aload_n 1, 1) := by decide +kernel
theorem dL_chain_31 : decode cL_chain 31 = .ok (.iload 7, 2) := by decide +kernel
theorem dL_chain_33 : decode cL_chain 33 = .ok (.iaload, 1) := by decide +kernel
theorem dL_chain_34 : decode cL_chain 34 = .ok (.iload 6, 2) := by decide +kernel
theorem dL_chain_36 : decode cL_chain 36 = .ok (.if_icmp .ne 129, 3) := by decide +kernel
theorem dL_chain_39 : decode cL_chain 39 = .ok (.iconst 0, 1) := by decide +kernel
theorem dL_chain_40 : decode cL_chain 40 = .ok (.istore 8, 2) := by decide +kernel
theorem dL_chain_42 : decode cL_chain 42 = .ok (.iconst 0, 1) := by decide +kernel
theorem dL_chain_43 : decode cL_chain 43 = .ok (.istore 9, 2) := by decide +kernel
theorem dL_chain_45 : decode cL_chain 45 = .ok (.iload 9, 2) := by decide +kernel
theorem dL_chain_47 : decode cL_chain 47 = .ok (.aload_n 0, 1) := by decide +kernel
theorem dL_chain_48 : decode cL_chain 48 = .ok (.iconst 5, 1) := by decide +kernel
theorem dL_chain_49 : decode cL_chain 49 = .ok (.iaload, 1) := by decide +kernel
theorem dL_chain_50 : decode cL_chain 50 = .ok (.if_icmp .ge 84, 3) := by decide +kernel
theorem dL_chain_53 : decode cL_chain 53 = .ok (.aload_n 3, 1) := by decide +kernel
theorem dL_chain_54 : decode cL_chain 54 = .ok (.iload 9, 2) := by decide +kernel
theorem dL_chain_56 : decode cL_chain 56 = .ok (.iaload, 1) := by decide +kernel
theorem dL_chain_57 : decode cL_chain 57 = .ok (.bipush 32, 2) := by decide +kernel
theorem dL_chain_59 : decode cL_chain 59 = .ok (.idiv, 1) := by decide +kernel
theorem dL_chain_60 : decode cL_chain 60 = .ok (.iload 7, 2) := by decide +kernel
theorem dL_chain_62 : decode cL_chain 62 = .ok (.if_icmp .ne 26, 3) := by decide +kernel
theorem dL_chain_65 : decode cL_chain 65 = .ok (.aload_n 1, 1) := by decide +kernel
theorem dL_chain_66 : decode cL_chain 66 = .ok (.aload_n 3, 1) := by decide +kernel
theorem dL_chain_67 : decode cL_chain 67 = .ok (.iload 9, 2) := by decide +kernel
theorem dL_chain_69 : decode cL_chain 69 = .ok (.iaload, 1) := by decide +kernel
theorem dL_chain_70 : decode cL_chain 70 = .ok (.bipush 32, 2) := by decide +kernel
theorem dL_chain_72 : decode cL_chain 72 = .ok (.irem, 1) := by decide +kernel
theorem dL_chain_73 : decode cL_chain 73 = .ok (.iaload, 1) := by decide +kernel
theorem dL_chain_74 : decode cL_chain 74 = .ok (.aload_n 1, 1) := by decide +kernel
theorem dL_chain_75 : decode cL_chain 75 = .ok (.aload_n 2, 1) := by decide +kernel
theorem dL_chain_76 : decode cL_chain 76 = .ok (.iload 7, 2) := by decide +kernel
theorem dL_chain_78 : decode cL_chain 78 = .ok (.invokestatic 22, 3) := by decide +kernel
theorem dL_chain_81 : decode cL_chain 81 = .ok (.if_icmp .le 7, 3) := by decide +kernel
theorem dL_chain_84 : decode cL_chain 84 = .ok (.iconst 1, 1) := by decide +kernel
theorem dL_chain_85 : decode cL_chain 85 = .ok (.goto 4, 3) := by decide +kernel
theorem dL_chain_88 : decode cL_chain 88 = .ok (.iconst 0, 1) := by decide +kernel
theorem dL_chain_89 : decode cL_chain 89 = .ok (.istore 10, 2) := by decide +kernel
theorem dL_chain_91 : decode cL_chain 91 = .ok (.iload 10, 2) := by decide +kernel
theorem dL_chain_93 : decode cL_chain 93 = .ok (.ifCond .eq 31, 3) := by decide +kernel
theorem dL_chain_96 : decode cL_chain 96 = .ok (.aload 4, 2) := by decide +kernel
theorem dL_chain_98 : decode cL_chain 98 = .ok (.aload_n 3, 1) := by decide +kernel
theorem dL_chain_99 : decode cL_chain 99 = .ok (.iload 9, 2) := by decide +kernel
theorem dL_chain_101 : decode cL_chain 101 = .ok (.iaload, 1) := by decide +kernel
theorem dL_chain_102 : decode cL_chain 102 = .ok (.bipush 32, 2) := by decide +kernel
theorem dL_chain_104 : decode cL_chain 104 = .ok (.irem, 1) := by decide +kernel
theorem dL_chain_105 : decode cL_chain 105 = .ok (.iaload, 1) := by decide +kernel
theorem dL_chain_106 : decode cL_chain 106 = .ok (.iload 8, 2) := by decide +kernel
theorem dL_chain_108 : decode cL_chain 108 = .ok (.if_icmp .le 16, 3) := by decide +kernel
theorem dL_chain_111 : decode cL_chain 111 = .ok (.aload 4, 2) := by decide +kernel
theorem dL_chain_113 : decode cL_chain 113 = .ok (.aload_n 3, 1) := by decide +kernel
theorem dL_chain_114 : decode cL_chain 114 = .ok (.iload 9, 2) := by decide +kernel
theorem dL_chain_116 : decode cL_chain 116 = .ok (.iaload, 1) := by decide +kernel
theorem dL_chain_117 : decode cL_chain 117 = .ok (.bipush 32, 2) := by decide +kernel
theorem dL_chain_119 : decode cL_chain 119 = .ok (.irem, 1) := by decide +kernel
theorem dL_chain_120 : decode cL_chain 120 = .ok (.iaload, 1) := by decide +kernel
theorem dL_chain_121 : decode cL_chain 121 = .ok (.goto 5, 3) := by decide +kernel
theorem dL_chain_124 : decode cL_chain 124 = .ok (.iload 8, 2) := by decide +kernel
theorem dL_chain_126 : decode cL_chain 126 = .ok (.istore 8, 2) := by decide +kernel
theorem dL_chain_128 : decode cL_chain 128 = .ok (.iinc 9 1, 3) := by decide +kernel
theorem dL_chain_131 : decode cL_chain 131 = .ok (.goto (-86), 3) := by decide +kernel
theorem dL_chain_134 : decode cL_chain 134 = .ok (.aload 4, 2) := by decide +kernel
theorem dL_chain_136 : decode cL_chain 136 = .ok (.iload 7, 2) := by decide +kernel
theorem dL_chain_138 : decode cL_chain 138 = .ok (.iload 8, 2) := by decide +kernel
theorem dL_chain_140 : decode cL_chain 140 = .ok (.iconst 1, 1) := by decide +kernel
theorem dL_chain_141 : decode cL_chain 141 = .ok (.iadd, 1) := by decide +kernel
theorem dL_chain_142 : decode cL_chain 142 = .ok (.iastore, 1) := by decide +kernel
theorem dL_chain_143 : decode cL_chain 143 = .ok (.aload 4, 2) := by decide +kernel
theorem dL_chain_145 : decode cL_chain 145 = .ok (.iload 7, 2) := by decide +kernel
theorem dL_chain_147 : decode cL_chain 147 = .ok (.iaload, 1) := by decide +kernel
theorem dL_chain_148 : decode cL_chain 148 = .ok (.iload 5, 2) := by decide +kernel
theorem dL_chain_150 : decode cL_chain 150 = .ok (.if_icmp .le 11, 3) := by decide +kernel
theorem dL_chain_153 : decode cL_chain 153 = .ok (.aload 4, 2) := by decide +kernel
theorem dL_chain_155 : decode cL_chain 155 = .ok (.iload 7, 2) := by decide +kernel
theorem dL_chain_157 : decode cL_chain 157 = .ok (.iaload, 1) := by decide +kernel
theorem dL_chain_158 : decode cL_chain 158 = .ok (.goto 5, 3) := by decide +kernel
theorem dL_chain_161 : decode cL_chain 161 = .ok (.iload 5, 2) := by decide +kernel
theorem dL_chain_163 : decode cL_chain 163 = .ok (.istore 5, 2) := by decide +kernel
theorem dL_chain_165 : decode cL_chain 165 = .ok (.iinc 7 1, 3) := by decide +kernel
theorem dL_chain_168 : decode cL_chain 168 = .ok (.goto (-146), 3) := by decide +kernel
theorem dL_chain_171 : decode cL_chain 171 = .ok (.iinc 6 (-1), 3) := by decide +kernel
theorem dL_chain_174 : decode cL_chain 174 = .ok (.goto (-160), 3) := by decide +kernel
theorem dL_chain_177 : decode cL_chain 177 = .ok (.iload 5, 2) := by decide +kernel
theorem dL_chain_179 : decode cL_chain 179 = .ok (.ireturn, 1) := by decide +kernel
theorem dL_law_0 : decode cL_law 0 = .ok (.new 67, 3) := by decide +kernel
theorem dL_law_3 : decode cL_law 3 = .ok (.dup, 1) := by decide +kernel
theorem dL_law_4 : decode cL_law 4 = .ok (.invokespecial 141, 3) := by decide +kernel
theorem dL_law_7 : decode cL_law 7 = .ok (.astore_n 1, 1) := by decide +kernel
theorem dL_law_8 : decode cL_law 8 = .ok (.bipush 6, 2) := by decide +kernel
theorem dL_law_10 : decode cL_law 10 = .ok (.newarray .int, 2) := by decide +kernel
theorem dL_law_12 : decode cL_law 12 = .ok (.astore_n 2, 1) := by decide +kernel
theorem dL_law_13 : decode cL_law 13 = .ok (.bipush 24, 2) := by decide +kernel
theorem dL_law_15 : decode cL_law 15 = .ok (.newarray .int, 2) := by decide +kernel
theorem dL_law_17 : decode cL_law 17 = .ok (.astore_n 3, 1) := by decide +kernel
theorem dL_law_18 : decode cL_law 18 = .ok (.bipush 24, 2) := by decide +kernel
theorem dL_law_20 : decode cL_law 20 = .ok (.newarray .int, 2) := by decide +kernel
theorem dL_law_22 : decode cL_law 22 = .ok (.astore 4, 2) := by decide +kernel
theorem dL_law_24 : decode cL_law 24 = .ok (.bipush 24, 2) := by decide +kernel
theorem dL_law_26 : decode cL_law 26 = .ok (.newarray .int, 2) := by decide +kernel
theorem dL_law_28 : decode cL_law 28 = .ok (.astore 5, 2) := by decide +kernel
theorem dL_law_30 : decode cL_law 30 = .ok (.bipush 31, 2) := by decide +kernel
theorem dL_law_32 : decode cL_law 32 = .ok (.newarray .int, 2) := by decide +kernel
theorem dL_law_34 : decode cL_law 34 = .ok (.astore 6, 2) := by decide +kernel
theorem dL_law_36 : decode cL_law 36 = .ok (.aload_n 2, 1) := by decide +kernel
theorem dL_law_37 : decode cL_law 37 = .ok (.invokestatic 142, 3) := by decide +kernel
theorem dL_law_40 : decode cL_law 40 = .ok (.aload_n 1, 1) := by decide +kernel
theorem dL_law_41 : decode cL_law 41 = .ok (.aload_n 2, 1) := by decide +kernel
theorem dL_law_42 : decode cL_law 42 = .ok (.aload_n 3, 1) := by decide +kernel
theorem dL_law_43 : decode cL_law 43 = .ok (.aload 4, 2) := by decide +kernel
theorem dL_law_45 : decode cL_law 45 = .ok (.aload 5, 2) := by decide +kernel
theorem dL_law_47 : decode cL_law 47 = .ok (.aload 6, 2) := by decide +kernel
theorem dL_law_49 : decode cL_law 49 = .ok (.invokestatic 146, 3) := by decide +kernel
theorem dL_law_52 : decode cL_law 52 = .ok (.istore 7, 2) := by decide +kernel
theorem dL_law_54 : decode cL_law 54 = .ok (.bipush 10, 2) := by decide +kernel
theorem dL_law_56 : decode cL_law 56 = .ok (.aload_n 0, 1) := by decide +kernel
theorem dL_law_57 : decode cL_law 57 = .ok (.iconst 0, 1) := by decide +kernel
theorem dL_law_58 : decode cL_law 58 = .ok (.invokestatic 150, 3) := by decide +kernel
theorem dL_law_61 : decode cL_law 61 = .ok (.bipush 60, 2) := by decide +kernel
theorem dL_law_63 : decode cL_law 63 = .ok (.invokestatic 26, 3) := by decide +kernel
theorem dL_law_66 : decode cL_law 66 = .ok (.iadd, 1) := by decide +kernel
theorem dL_law_67 : decode cL_law 67 = .ok (.istore 8, 2) := by decide +kernel
theorem dL_law_69 : decode cL_law 69 = .ok (.iconst 0, 1) := by decide +kernel
theorem dL_law_70 : decode cL_law 70 = .ok (.istore 9, 2) := by decide +kernel
theorem dL_law_72 : decode cL_law 72 = .ok (.iload 9, 2) := by decide +kernel
theorem dL_law_74 : decode cL_law 74 = .ok (.iload 8, 2) := by decide +kernel
theorem dL_law_76 : decode cL_law 76 = .ok (.if_icmp .ge 73, 3) := by decide +kernel
theorem dL_law_79 : decode cL_law 79 = .ok (.iload 7, 2) := by decide +kernel
theorem dL_law_81 : decode cL_law 81 = .ok (.ifCond .eq 68, 3) := by decide +kernel
theorem dL_law_84 : decode cL_law 84 = .ok (.aload_n 1, 1) := by decide +kernel
theorem dL_law_85 : decode cL_law 85 = .ok (.aload_n 2, 1) := by decide +kernel
theorem dL_law_86 : decode cL_law 86 = .ok (.aload_n 3, 1) := by decide +kernel
theorem dL_law_87 : decode cL_law 87 = .ok (.aload 4, 2) := by decide +kernel
theorem dL_law_89 : decode cL_law 89 = .ok (.aload 5, 2) := by decide +kernel
theorem dL_law_91 : decode cL_law 91 = .ok (.aload 6, 2) := by decide +kernel
theorem dL_law_93 : decode cL_law 93 = .ok (.aload_n 0, 1) := by decide +kernel
theorem dL_law_94 : decode cL_law 94 = .ok (.iconst 1, 1) := by decide +kernel
theorem dL_law_95 : decode cL_law 95 = .ok (.iload 9, 2) := by decide +kernel
theorem dL_law_97 : decode cL_law 97 = .ok (.iadd, 1) := by decide +kernel
theorem dL_law_98 : decode cL_law 98 = .ok (.invokestatic 150, 3) := by decide +kernel
theorem dL_law_101 : decode cL_law 101 = .ok (.sipush 7919, 3) := by decide +kernel
theorem dL_law_104 : decode cL_law 104 = .ok (.iload 9, 2) := by decide +kernel
theorem dL_law_106 : decode cL_law 106 = .ok (.imul, 1) := by decide +kernel
theorem dL_law_107 : decode cL_law 107 = .ok (.ixor, 1) := by decide +kernel
theorem dL_law_108 : decode cL_law 108 = .ok (.invokestatic 154, 3) := by decide +kernel
theorem dL_law_111 : decode cL_law 111 = .ok (.ifCond .eq 29, 3) := by decide +kernel
theorem dL_law_114 : decode cL_law 114 = .ok (.iload 9, 2) := by decide +kernel
theorem dL_law_116 : decode cL_law 116 = .ok (.iconst 4, 1) := by decide +kernel
theorem dL_law_117 : decode cL_law 117 = .ok (.irem, 1) := by decide +kernel
theorem dL_law_118 : decode cL_law 118 = .ok (.ifCond .gt 18, 3) := by decide +kernel
theorem dL_law_121 : decode cL_law 121 = .ok (.aload_n 1, 1) := by decide +kernel
theorem dL_law_122 : decode cL_law 122 = .ok (.aload_n 2, 1) := by decide +kernel
theorem dL_law_123 : decode cL_law 123 = .ok (.aload_n 3, 1) := by decide +kernel
theorem dL_law_124 : decode cL_law 124 = .ok (.aload 4, 2) := by decide +kernel
theorem dL_law_126 : decode cL_law 126 = .ok (.aload 5, 2) := by decide +kernel
theorem dL_law_128 : decode cL_law 128 = .ok (.aload 6, 2) := by decide +kernel
theorem dL_law_130 : decode cL_law 130 = .ok (.invokestatic 146, 3) := by decide +kernel
theorem dL_law_133 : decode cL_law 133 = .ok (.ifCond .eq 7, 3) := by decide +kernel
theorem dL_law_136 : decode cL_law 136 = .ok (.iconst 1, 1) := by decide +kernel
theorem dL_law_137 : decode cL_law 137 = .ok (.goto 4, 3) := by decide +kernel
theorem dL_law_140 : decode cL_law 140 = .ok (.iconst 0, 1) := by decide +kernel
theorem dL_law_141 : decode cL_law 141 = .ok (.istore 7, 2) := by decide +kernel
theorem dL_law_143 : decode cL_law 143 = .ok (.iinc 9 1, 3) := by decide +kernel
theorem dL_law_146 : decode cL_law 146 = .ok (.goto (-74), 3) := by decide +kernel
theorem dL_law_149 : decode cL_law 149 = .ok (.iload 7, 2) := by decide +kernel
theorem dL_law_151 : decode cL_law 151 = .ok (.ifCond .eq 48, 3) := by decide +kernel
theorem dL_law_154 : decode cL_law 154 = .ok (.aload_n 1, 1) := by decide +kernel
theorem dL_law_155 : decode cL_law 155 = .ok (.aload_n 2, 1) := by decide +kernel
theorem dL_law_156 : decode cL_law 156 = .ok (.aload_n 3, 1) := by decide +kernel
theorem dL_law_157 : decode cL_law 157 = .ok (.aload 4, 2) := by decide +kernel
theorem dL_law_159 : decode cL_law 159 = .ok (.aload 5, 2) := by decide +kernel
theorem dL_law_161 : decode cL_law 161 = .ok (.aload 6, 2) := by decide +kernel
theorem dL_law_163 : decode cL_law 163 = .ok (.invokestatic 146, 3) := by decide +kernel
theorem dL_law_166 : decode cL_law 166 = .ok (.ifCond .eq 33, 3) := by decide +kernel
theorem dL_law_169 : decode cL_law 169 = .ok (.aload_n 1, 1) := by decide +kernel
theorem dL_law_170 : decode cL_law 170 = .ok (.aload_n 2, 1) := by decide +kernel
theorem dL_law_171 : decode cL_law 171 = .ok (.iconst 4, 1) := by decide +kernel
theorem dL_law_172 : decode cL_law 172 = .ok (.iaload, 1) := by decide +kernel
theorem dL_law_173 : decode cL_law 173 = .ok (.iconst 0, 1) := by decide +kernel
theorem dL_law_174 : decode cL_law 174 = .ok (.invokestatic 122, 3) := by decide +kernel
theorem dL_law_177 : decode cL_law 177 = .ok (.ldc 46, 2) := by decide +kernel
theorem dL_law_179 : decode cL_law 179 = .ok (.if_icmp .ne 20, 3) := by decide +kernel
theorem dL_law_182 : decode cL_law 182 = .ok (.aload_n 1, 1) := by decide +kernel
theorem dL_law_183 : decode cL_law 183 = .ok (.aload_n 2, 1) := by decide +kernel
theorem dL_law_184 : decode cL_law 184 = .ok (.iconst 5, 1) := by decide +kernel
theorem dL_law_185 : decode cL_law 185 = .ok (.iaload, 1) := by decide +kernel
theorem dL_law_186 : decode cL_law 186 = .ok (.iconst 0, 1) := by decide +kernel
theorem dL_law_187 : decode cL_law 187 = .ok (.invokestatic 158, 3) := by decide +kernel
theorem dL_law_190 : decode cL_law 190 = .ok (.ldc 46, 2) := by decide +kernel
theorem dL_law_192 : decode cL_law 192 = .ok (.if_icmp .ne 7, 3) := by decide +kernel
theorem dL_law_195 : decode cL_law 195 = .ok (.iconst 1, 1) := by decide +kernel
theorem dL_law_196 : decode cL_law 196 = .ok (.goto 4, 3) := by decide +kernel
theorem dL_law_199 : decode cL_law 199 = .ok (.iconst 0, 1) := by decide +kernel
theorem dL_law_200 : decode cL_law 200 = .ok (.ireturn, 1) := by decide +kernel
abbrev vwCl : List vw_C := [(RX0, TX0, 8), (RX1, TX1, 1), (RX2, TX2, 7), (RX3, TX3, 3), (RX4, TX4, 1), (RX5, TX5, 8), (RX6, TX6, 5), (RX7, TX7, 5), (RX8, TX8, 10)]
end
section
/-! the words of the tables that hold on, and each one by its place -/
def gLW : List Cond := lw_tbl.filter goodWord
theorem gLW_tbl : ∀ w ∈ gLW, w ∈ lw_tbl := fun _ h => (List.mem_filter.mp h).1
theorem gLW_good {w : Cond} (h : w ∈ gLW) : goodWord w = true := (List.mem_filter.mp h).2
theorem gLW_in {ws : List Cond} (ps : List Nat) (hp : ws = ps.filterMap (fun i => lw_tbl[i]?)) (hg : ws.all goodWord = true) : ∀ w ∈ ws, w ∈ gLW := by
  intro w hw
  have h1 := List.all_eq_true.mp hg w hw
  rw [hp] at hw
  obtain ⟨i, -, hi⟩ := List.mem_filterMap.mp hw
  exact List.mem_filter.mpr ⟨List.mem_of_getElem? hi, h1⟩
theorem q_se_X3_slot : Cond.selects RX3 yX3_slot yX3_slot ∈ gLW := List.mem_filter.mpr ⟨List.mem_of_getElem? (i := 1) (by decide +kernel), by decide +kernel⟩
theorem q_se_X8_printAnew : Cond.selects RX8 yX8_printAnew yX8_printAnew ∈ gLW := List.mem_filter.mpr ⟨List.mem_of_getElem? (i := 2) (by decide +kernel), by decide +kernel⟩
theorem q_se_X0_gather : Cond.selects RX0 yX0_gather yX0_gather ∈ gLW := List.mem_filter.mpr ⟨List.mem_of_getElem? (i := 3) (by decide +kernel), by decide +kernel⟩
theorem q_se_X0_insert : Cond.selects RX0 yX0_insert yX0_insert ∈ gLW := List.mem_filter.mpr ⟨List.mem_of_getElem? (i := 4) (by decide +kernel), by decide +kernel⟩
theorem q_se_X0_layGroup : Cond.selects RX0 yX0_layGroup yX0_layGroup ∈ gLW := List.mem_filter.mpr ⟨List.mem_of_getElem? (i := 5) (by decide +kernel), by decide +kernel⟩
theorem q_se_X0_beginBand : Cond.selects RX0 yX0_beginBand yX0_beginBand ∈ gLW := List.mem_filter.mpr ⟨List.mem_of_getElem? (i := 6) (by decide +kernel), by decide +kernel⟩
theorem q_se_X0_take : Cond.selects RX0 yX0_take yX0_take ∈ gLW := List.mem_filter.mpr ⟨List.mem_of_getElem? (i := 7) (by decide +kernel), by decide +kernel⟩
theorem q_se_X6_numberByBands : Cond.selects RX6 yX6_numberByBands yX6_numberByBands ∈ gLW := List.mem_filter.mpr ⟨List.mem_of_getElem? (i := 8) (by decide +kernel), by decide +kernel⟩
theorem q_se_X6_number : Cond.selects RX6 yX6_number yX6_number ∈ gLW := List.mem_filter.mpr ⟨List.mem_of_getElem? (i := 9) (by decide +kernel), by decide +kernel⟩
theorem q_se_X6_numberByStrips : Cond.selects RX6 yX6_numberByStrips yX6_numberByStrips ∈ gLW := List.mem_filter.mpr ⟨List.mem_of_getElem? (i := 10) (by decide +kernel), by decide +kernel⟩
theorem q_se_X2_drawInside : Cond.selects RX2 yX2_drawInside yX2_drawInside ∈ gLW := List.mem_filter.mpr ⟨List.mem_of_getElem? (i := 11) (by decide +kernel), by decide +kernel⟩
theorem q_se_X2_drawThroughExit : Cond.selects RX2 yX2_drawThroughExit yX2_drawThroughExit ∈ gLW := List.mem_filter.mpr ⟨List.mem_of_getElem? (i := 12) (by decide +kernel), by decide +kernel⟩
theorem q_se_X8_requireTask : Cond.selects RX8 yX8_requireTask yX8_requireTask ∈ gLW := List.mem_filter.mpr ⟨List.mem_of_getElem? (i := 13) (by decide +kernel), by decide +kernel⟩
theorem q_se_X8_requireArrow : Cond.selects RX8 yX8_requireArrow yX8_requireArrow ∈ gLW := List.mem_filter.mpr ⟨List.mem_of_getElem? (i := 14) (by decide +kernel), by decide +kernel⟩
theorem q_se_X5_dropArrowsOf : Cond.selects RX5 yX5_dropArrowsOf yX5_dropArrowsOf ∈ gLW := List.mem_filter.mpr ⟨List.mem_of_getElem? (i := 15) (by decide +kernel), by decide +kernel⟩
theorem q_se_X8_numberOfTask : Cond.selects RX8 yX8_numberOfTask yX8_numberOfTask ∈ gLW := List.mem_filter.mpr ⟨List.mem_of_getElem? (i := 16) (by decide +kernel), by decide +kernel⟩
theorem q_se_X8_partsOf : Cond.selects RX8 yX8_partsOf yX8_partsOf ∈ gLW := List.mem_filter.mpr ⟨List.mem_of_getElem? (i := 17) (by decide +kernel), by decide +kernel⟩
theorem q_se_X8_numberOfArrow : Cond.selects RX8 yX8_numberOfArrow yX8_numberOfArrow ∈ gLW := List.mem_filter.mpr ⟨List.mem_of_getElem? (i := 18) (by decide +kernel), by decide +kernel⟩
theorem q_se_X8_numberOfPlan : Cond.selects RX8 yX8_numberOfPlan yX8_numberOfPlan ∈ gLW := List.mem_filter.mpr ⟨List.mem_of_getElem? (i := 19) (by decide +kernel), by decide +kernel⟩
theorem q_se_X8_numberOfPart : Cond.selects RX8 yX8_numberOfPart yX8_numberOfPart ∈ gLW := List.mem_filter.mpr ⟨List.mem_of_getElem? (i := 20) (by decide +kernel), by decide +kernel⟩
theorem q_se_X8_requireBand : Cond.selects RX8 yX8_requireBand yX8_requireBand ∈ gLW := List.mem_filter.mpr ⟨List.mem_of_getElem? (i := 21) (by decide +kernel), by decide +kernel⟩
theorem q_se_X8_requireRow : Cond.selects RX8 yX8_requireRow yX8_requireRow ∈ gLW := List.mem_filter.mpr ⟨List.mem_of_getElem? (i := 22) (by decide +kernel), by decide +kernel⟩
theorem q_se_X1_growOnce : Cond.selects RX1 yX1_growOnce yX1_growOnce ∈ gLW := List.mem_filter.mpr ⟨List.mem_of_getElem? (i := 23) (by decide +kernel), by decide +kernel⟩
theorem q_in_L : Cond.initialized RL ∈ gLW := List.mem_filter.mpr ⟨List.mem_of_getElem? (i := 24) (by decide +kernel), by decide +kernel⟩
theorem q_in_X8 : Cond.initialized RX8 ∈ gLW := List.mem_filter.mpr ⟨List.mem_of_getElem? (i := 25) (by decide +kernel), by decide +kernel⟩
theorem q_in_X5 : Cond.initialized RX5 ∈ gLW := List.mem_filter.mpr ⟨List.mem_of_getElem? (i := 26) (by decide +kernel), by decide +kernel⟩
theorem q_in_X4 : Cond.initialized RX4 ∈ gLW := List.mem_filter.mpr ⟨List.mem_of_getElem? (i := 27) (by decide +kernel), by decide +kernel⟩
theorem q_in_X3 : Cond.initialized RX3 ∈ gLW := List.mem_filter.mpr ⟨List.mem_of_getElem? (i := 28) (by decide +kernel), by decide +kernel⟩
theorem q_in_X7 : Cond.initialized RX7 ∈ gLW := List.mem_filter.mpr ⟨List.mem_of_getElem? (i := 29) (by decide +kernel), by decide +kernel⟩
theorem q_in_X1 : Cond.initialized RX1 ∈ gLW := List.mem_filter.mpr ⟨List.mem_of_getElem? (i := 30) (by decide +kernel), by decide +kernel⟩
theorem q_in_X0 : Cond.initialized RX0 ∈ gLW := List.mem_filter.mpr ⟨List.mem_of_getElem? (i := 31) (by decide +kernel), by decide +kernel⟩
theorem q_in_X6 : Cond.initialized RX6 ∈ gLW := List.mem_filter.mpr ⟨List.mem_of_getElem? (i := 32) (by decide +kernel), by decide +kernel⟩
theorem q_in_X2 : Cond.initialized RX2 ∈ gLW := List.mem_filter.mpr ⟨List.mem_of_getElem? (i := 33) (by decide +kernel), by decide +kernel⟩
theorem q_in_java_lang_Throwable : Cond.initialized "java/lang/Throwable" ∈ gLW := List.mem_filter.mpr ⟨List.mem_of_getElem? (i := 34) (by decide +kernel), by decide +kernel⟩
theorem q_in_java_lang_Exception : Cond.initialized "java/lang/Exception" ∈ gLW := List.mem_filter.mpr ⟨List.mem_of_getElem? (i := 35) (by decide +kernel), by decide +kernel⟩
theorem q_in_java_lang_RuntimeException : Cond.initialized "java/lang/RuntimeException" ∈ gLW := List.mem_filter.mpr ⟨List.mem_of_getElem? (i := 36) (by decide +kernel), by decide +kernel⟩
theorem q_in_java_lang_IllegalArgumentException : Cond.initialized "java/lang/IllegalArgumentException" ∈ gLW := List.mem_filter.mpr ⟨List.mem_of_getElem? (i := 37) (by decide +kernel), by decide +kernel⟩
theorem q_in_java_lang_IndexOutOfBoundsException : Cond.initialized "java/lang/IndexOutOfBoundsException" ∈ gLW := List.mem_filter.mpr ⟨List.mem_of_getElem? (i := 38) (by decide +kernel), by decide +kernel⟩
theorem q_in_J9 : Cond.initialized RJ9 ∈ gLW := List.mem_filter.mpr ⟨List.mem_of_getElem? (i := 39) (by decide +kernel), by decide +kernel⟩
theorem q_in_java_lang_IllegalStateException : Cond.initialized "java/lang/IllegalStateException" ∈ gLW := List.mem_filter.mpr ⟨List.mem_of_getElem? (i := 40) (by decide +kernel), by decide +kernel⟩
theorem q_cl_L_67 : Cond.classLink RL 67 RX8 ∈ gLW := List.mem_filter.mpr ⟨List.mem_of_getElem? (i := 41) (by decide +kernel), by decide +kernel⟩
theorem q_ia_X8 : Cond.instantiable RX8 10 ∈ gLW := List.mem_filter.mpr ⟨List.mem_of_getElem? (i := 42) (by decide +kernel), by decide +kernel⟩
theorem q_ml_L_141 : Cond.methodLink RL 141 yX8_init ∈ gLW := List.mem_filter.mpr ⟨List.mem_of_getElem? (i := 43) (by decide +kernel), by decide +kernel⟩
theorem q_im_X8_init : Cond.instanceMethod yX8_init ∈ gLW := List.mem_filter.mpr ⟨List.mem_of_getElem? (i := 44) (by decide +kernel), by decide +kernel⟩
theorem q_co_X8_init : Cond.code yX8_init cX8_init 1 none ∈ gLW := List.mem_filter.mpr ⟨List.mem_of_getElem? (i := 45) (by decide +kernel), by decide +kernel⟩
theorem q_ml_X8_3 : Cond.methodLink RX8 3 objectInit ∈ gLW := List.mem_filter.mpr ⟨List.mem_of_getElem? (i := 46) (by decide +kernel), by decide +kernel⟩
theorem q_im_obj : Cond.instanceMethod objectInit ∈ gLW := List.mem_filter.mpr ⟨List.mem_of_getElem? (i := 47) (by decide +kernel), by decide +kernel⟩
theorem q_co_obj : Cond.code objectInit ⟨#[0xb1]⟩ 1 none ∈ gLW := List.mem_filter.mpr ⟨List.mem_of_getElem? (i := 48) (by decide +kernel), by decide +kernel⟩
theorem q_cl_X8_9 : Cond.classLink RX8 9 RX5 ∈ gLW := List.mem_filter.mpr ⟨List.mem_of_getElem? (i := 49) (by decide +kernel), by decide +kernel⟩
theorem q_ia_X5 : Cond.instantiable RX5 8 ∈ gLW := List.mem_filter.mpr ⟨List.mem_of_getElem? (i := 50) (by decide +kernel), by decide +kernel⟩
theorem q_ml_X8_11 : Cond.methodLink RX8 11 yX5_init ∈ gLW := List.mem_filter.mpr ⟨List.mem_of_getElem? (i := 51) (by decide +kernel), by decide +kernel⟩
theorem q_im_X5_init : Cond.instanceMethod yX5_init ∈ gLW := List.mem_filter.mpr ⟨List.mem_of_getElem? (i := 52) (by decide +kernel), by decide +kernel⟩
theorem q_co_X5_init : Cond.code yX5_init cX5_init 2 none ∈ gLW := List.mem_filter.mpr ⟨List.mem_of_getElem? (i := 53) (by decide +kernel), by decide +kernel⟩
theorem q_ml_X5_3 : Cond.methodLink RX5 3 objectInit ∈ gLW := List.mem_filter.mpr ⟨List.mem_of_getElem? (i := 54) (by decide +kernel), by decide +kernel⟩
theorem q_cl_X5_9 : Cond.classLink RX5 9 RX4 ∈ gLW := List.mem_filter.mpr ⟨List.mem_of_getElem? (i := 55) (by decide +kernel), by decide +kernel⟩
theorem q_ia_X4 : Cond.instantiable RX4 1 ∈ gLW := List.mem_filter.mpr ⟨List.mem_of_getElem? (i := 56) (by decide +kernel), by decide +kernel⟩
theorem q_ml_X5_11 : Cond.methodLink RX5 11 yX4_init ∈ gLW := List.mem_filter.mpr ⟨List.mem_of_getElem? (i := 57) (by decide +kernel), by decide +kernel⟩
theorem q_im_X4_init : Cond.instanceMethod yX4_init ∈ gLW := List.mem_filter.mpr ⟨List.mem_of_getElem? (i := 58) (by decide +kernel), by decide +kernel⟩
theorem q_co_X4_init : Cond.code yX4_init cX4_init 2 none ∈ gLW := List.mem_filter.mpr ⟨List.mem_of_getElem? (i := 59) (by decide +kernel), by decide +kernel⟩
theorem q_ml_X4_3 : Cond.methodLink RX4 3 objectInit ∈ gLW := List.mem_filter.mpr ⟨List.mem_of_getElem? (i := 60) (by decide +kernel), by decide +kernel⟩
theorem q_fl_X4_9 : Cond.fieldLink RX4 9 "TaskSheets$Numbers" "places" "[I" ∈ gLW := List.mem_filter.mpr ⟨List.mem_of_getElem? (i := 61) (by decide +kernel), by decide +kernel⟩
theorem q_ac_int : Cond.arrayClass Jvm.ClassFile.FieldType.int ∈ gLW := List.mem_filter.mpr ⟨List.mem_of_getElem? (i := 65) (by decide +kernel), by decide +kernel⟩
theorem q_ml_X5_39 : Cond.methodLink RX5 39 yX4_put ∈ gLW := List.mem_filter.mpr ⟨List.mem_of_getElem? (i := 68) (by decide +kernel), by decide +kernel⟩
theorem q_im_X4_put : Cond.instanceMethod yX4_put ∈ gLW := List.mem_filter.mpr ⟨List.mem_of_getElem? (i := 69) (by decide +kernel), by decide +kernel⟩
theorem q_se_X4_put : Cond.selects RX4 yX4_put yX4_put ∈ gLW := List.mem_filter.mpr ⟨List.mem_of_getElem? (i := 70) (by decide +kernel), by decide +kernel⟩
theorem q_co_X4_put : Cond.code yX4_put cX4_put 3 none ∈ gLW := List.mem_filter.mpr ⟨List.mem_of_getElem? (i := 71) (by decide +kernel), by decide +kernel⟩
theorem q_fl_X5_14 : Cond.fieldLink RX5 14 "TaskSheets$Plan" "settings" "LTaskSheets$Numbers;" ∈ gLW := List.mem_filter.mpr ⟨List.mem_of_getElem? (i := 72) (by decide +kernel), by decide +kernel⟩
theorem q_fl_X5_20 : Cond.fieldLink RX5 20 "TaskSheets$Plan" "groups" "LTaskSheets$Numbers;" ∈ gLW := List.mem_filter.mpr ⟨List.mem_of_getElem? (i := 73) (by decide +kernel), by decide +kernel⟩
theorem q_fl_X5_23 : Cond.fieldLink RX5 23 "TaskSheets$Plan" "firsts" "LTaskSheets$Numbers;" ∈ gLW := List.mem_filter.mpr ⟨List.mem_of_getElem? (i := 74) (by decide +kernel), by decide +kernel⟩
theorem q_fl_X5_26 : Cond.fieldLink RX5 26 "TaskSheets$Plan" "lengths" "LTaskSheets$Numbers;" ∈ gLW := List.mem_filter.mpr ⟨List.mem_of_getElem? (i := 75) (by decide +kernel), by decide +kernel⟩
theorem q_fl_X5_29 : Cond.fieldLink RX5 29 "TaskSheets$Plan" "froms" "LTaskSheets$Numbers;" ∈ gLW := List.mem_filter.mpr ⟨List.mem_of_getElem? (i := 76) (by decide +kernel), by decide +kernel⟩
theorem q_fl_X5_32 : Cond.fieldLink RX5 32 "TaskSheets$Plan" "tos" "LTaskSheets$Numbers;" ∈ gLW := List.mem_filter.mpr ⟨List.mem_of_getElem? (i := 77) (by decide +kernel), by decide +kernel⟩
theorem q_fl_X5_47 : Cond.fieldLink RX5 47 "TaskSheets$Plan" "tasks" "I" ∈ gLW := List.mem_filter.mpr ⟨List.mem_of_getElem? (i := 78) (by decide +kernel), by decide +kernel⟩
theorem q_fl_X5_51 : Cond.fieldLink RX5 51 "TaskSheets$Plan" "arrows" "I" ∈ gLW := List.mem_filter.mpr ⟨List.mem_of_getElem? (i := 79) (by decide +kernel), by decide +kernel⟩
theorem q_cl_X8_19 : Cond.classLink RX8 19 RX3 ∈ gLW := List.mem_filter.mpr ⟨List.mem_of_getElem? (i := 97) (by decide +kernel), by decide +kernel⟩
theorem q_ia_X3 : Cond.instantiable RX3 3 ∈ gLW := List.mem_filter.mpr ⟨List.mem_of_getElem? (i := 98) (by decide +kernel), by decide +kernel⟩
theorem q_ml_X8_21 : Cond.methodLink RX8 21 yX3_init ∈ gLW := List.mem_filter.mpr ⟨List.mem_of_getElem? (i := 99) (by decide +kernel), by decide +kernel⟩
theorem q_im_X3_init : Cond.instanceMethod yX3_init ∈ gLW := List.mem_filter.mpr ⟨List.mem_of_getElem? (i := 100) (by decide +kernel), by decide +kernel⟩
theorem q_co_X3_init : Cond.code yX3_init cX3_init 2 none ∈ gLW := List.mem_filter.mpr ⟨List.mem_of_getElem? (i := 101) (by decide +kernel), by decide +kernel⟩
theorem q_ml_X3_3 : Cond.methodLink RX3 3 objectInit ∈ gLW := List.mem_filter.mpr ⟨List.mem_of_getElem? (i := 102) (by decide +kernel), by decide +kernel⟩
theorem q_cl_X3_9 : Cond.classLink RX3 9 RX5 ∈ gLW := List.mem_filter.mpr ⟨List.mem_of_getElem? (i := 103) (by decide +kernel), by decide +kernel⟩
theorem q_ml_X3_17 : Cond.methodLink RX3 17 yX5_init ∈ gLW := List.mem_filter.mpr ⟨List.mem_of_getElem? (i := 105) (by decide +kernel), by decide +kernel⟩
theorem q_fl_X3_11 : Cond.fieldLink RX3 11 "TaskSheets$History" "saved" "[LTaskSheets$Plan;" ∈ gLW := List.mem_filter.mpr ⟨List.mem_of_getElem? (i := 106) (by decide +kernel), by decide +kernel⟩
theorem q_fl_X3_22 : Cond.fieldLink RX3 22 "TaskSheets$History" "next" "I" ∈ gLW := List.mem_filter.mpr ⟨List.mem_of_getElem? (i := 107) (by decide +kernel), by decide +kernel⟩
theorem q_fl_X3_18 : Cond.fieldLink RX3 18 "TaskSheets$History" "count" "I" ∈ gLW := List.mem_filter.mpr ⟨List.mem_of_getElem? (i := 108) (by decide +kernel), by decide +kernel⟩
theorem q_cl_X8_26 : Cond.classLink RX8 26 RX7 ∈ gLW := List.mem_filter.mpr ⟨List.mem_of_getElem? (i := 116) (by decide +kernel), by decide +kernel⟩
theorem q_ia_X7 : Cond.instantiable RX7 5 ∈ gLW := List.mem_filter.mpr ⟨List.mem_of_getElem? (i := 117) (by decide +kernel), by decide +kernel⟩
theorem q_im_X7_init : Cond.instanceMethod yX7_init ∈ gLW := List.mem_filter.mpr ⟨List.mem_of_getElem? (i := 119) (by decide +kernel), by decide +kernel⟩
theorem q_co_X7_init : Cond.code yX7_init cX7_init 1 none ∈ gLW := List.mem_filter.mpr ⟨List.mem_of_getElem? (i := 120) (by decide +kernel), by decide +kernel⟩
theorem q_ml_X7_3 : Cond.methodLink RX7 3 objectInit ∈ gLW := List.mem_filter.mpr ⟨List.mem_of_getElem? (i := 121) (by decide +kernel), by decide +kernel⟩
theorem q_cl_X7_9 : Cond.classLink RX7 9 RX4 ∈ gLW := List.mem_filter.mpr ⟨List.mem_of_getElem? (i := 122) (by decide +kernel), by decide +kernel⟩
theorem q_ml_X7_11 : Cond.methodLink RX7 11 yX4_init ∈ gLW := List.mem_filter.mpr ⟨List.mem_of_getElem? (i := 123) (by decide +kernel), by decide +kernel⟩
theorem q_fl_X7_14 : Cond.fieldLink RX7 14 "TaskSheets$TaskText" "bytes" "LTaskSheets$Numbers;" ∈ gLW := List.mem_filter.mpr ⟨List.mem_of_getElem? (i := 124) (by decide +kernel), by decide +kernel⟩
theorem q_cl_X8_33 : Cond.classLink RX8 33 RX1 ∈ gLW := List.mem_filter.mpr ⟨List.mem_of_getElem? (i := 136) (by decide +kernel), by decide +kernel⟩
theorem q_ia_X1 : Cond.instantiable RX1 1 ∈ gLW := List.mem_filter.mpr ⟨List.mem_of_getElem? (i := 137) (by decide +kernel), by decide +kernel⟩
theorem q_im_X1_init : Cond.instanceMethod yX1_init ∈ gLW := List.mem_filter.mpr ⟨List.mem_of_getElem? (i := 139) (by decide +kernel), by decide +kernel⟩
theorem q_co_X1_init : Cond.code yX1_init cX1_init 1 none ∈ gLW := List.mem_filter.mpr ⟨List.mem_of_getElem? (i := 140) (by decide +kernel), by decide +kernel⟩
theorem q_ml_X1_3 : Cond.methodLink RX1 3 objectInit ∈ gLW := List.mem_filter.mpr ⟨List.mem_of_getElem? (i := 141) (by decide +kernel), by decide +kernel⟩
theorem q_cl_X1_9 : Cond.classLink RX1 9 RX4 ∈ gLW := List.mem_filter.mpr ⟨List.mem_of_getElem? (i := 142) (by decide +kernel), by decide +kernel⟩
theorem q_ml_X1_11 : Cond.methodLink RX1 11 yX4_init ∈ gLW := List.mem_filter.mpr ⟨List.mem_of_getElem? (i := 143) (by decide +kernel), by decide +kernel⟩
theorem q_fl_X1_14 : Cond.fieldLink RX1 14 "TaskSheets$Chains" "longestTo" "LTaskSheets$Numbers;" ∈ gLW := List.mem_filter.mpr ⟨List.mem_of_getElem? (i := 144) (by decide +kernel), by decide +kernel⟩
theorem q_cl_X8_40 : Cond.classLink RX8 40 RX0 ∈ gLW := List.mem_filter.mpr ⟨List.mem_of_getElem? (i := 148) (by decide +kernel), by decide +kernel⟩
theorem q_ia_X0 : Cond.instantiable RX0 8 ∈ gLW := List.mem_filter.mpr ⟨List.mem_of_getElem? (i := 149) (by decide +kernel), by decide +kernel⟩
theorem q_im_X0_init : Cond.instanceMethod yX0_init ∈ gLW := List.mem_filter.mpr ⟨List.mem_of_getElem? (i := 151) (by decide +kernel), by decide +kernel⟩
theorem q_co_X0_init : Cond.code yX0_init cX0_init 1 none ∈ gLW := List.mem_filter.mpr ⟨List.mem_of_getElem? (i := 152) (by decide +kernel), by decide +kernel⟩
theorem q_ml_X0_3 : Cond.methodLink RX0 3 objectInit ∈ gLW := List.mem_filter.mpr ⟨List.mem_of_getElem? (i := 153) (by decide +kernel), by decide +kernel⟩
theorem q_cl_X0_9 : Cond.classLink RX0 9 RX4 ∈ gLW := List.mem_filter.mpr ⟨List.mem_of_getElem? (i := 154) (by decide +kernel), by decide +kernel⟩
theorem q_ml_X0_11 : Cond.methodLink RX0 11 yX4_init ∈ gLW := List.mem_filter.mpr ⟨List.mem_of_getElem? (i := 155) (by decide +kernel), by decide +kernel⟩
theorem q_fl_X0_14 : Cond.fieldLink RX0 14 "TaskSheets$Bands" "contents" "LTaskSheets$Numbers;" ∈ gLW := List.mem_filter.mpr ⟨List.mem_of_getElem? (i := 156) (by decide +kernel), by decide +kernel⟩
theorem q_fl_X0_20 : Cond.fieldLink RX0 20 "TaskSheets$Bands" "bandOfTask" "LTaskSheets$Numbers;" ∈ gLW := List.mem_filter.mpr ⟨List.mem_of_getElem? (i := 157) (by decide +kernel), by decide +kernel⟩
theorem q_fl_X0_23 : Cond.fieldLink RX0 23 "TaskSheets$Bands" "rowOfTask" "LTaskSheets$Numbers;" ∈ gLW := List.mem_filter.mpr ⟨List.mem_of_getElem? (i := 158) (by decide +kernel), by decide +kernel⟩
theorem q_fl_X0_26 : Cond.fieldLink RX0 26 "TaskSheets$Bands" "members" "LTaskSheets$Numbers;" ∈ gLW := List.mem_filter.mpr ⟨List.mem_of_getElem? (i := 159) (by decide +kernel), by decide +kernel⟩
theorem q_fl_X0_47 : Cond.fieldLink RX0 47 "TaskSheets$Bands" "memberCount" "I" ∈ gLW := List.mem_filter.mpr ⟨List.mem_of_getElem? (i := 160) (by decide +kernel), by decide +kernel⟩
theorem q_fl_X0_37 : Cond.fieldLink RX0 37 "TaskSheets$Bands" "rows" "I" ∈ gLW := List.mem_filter.mpr ⟨List.mem_of_getElem? (i := 161) (by decide +kernel), by decide +kernel⟩
theorem q_fl_X0_29 : Cond.fieldLink RX0 29 "TaskSheets$Bands" "count" "I" ∈ gLW := List.mem_filter.mpr ⟨List.mem_of_getElem? (i := 162) (by decide +kernel), by decide +kernel⟩
theorem q_fl_X0_40 : Cond.fieldLink RX0 40 "TaskSheets$Bands" "free" "I" ∈ gLW := List.mem_filter.mpr ⟨List.mem_of_getElem? (i := 163) (by decide +kernel), by decide +kernel⟩
theorem q_cl_X8_47 : Cond.classLink RX8 47 RX6 ∈ gLW := List.mem_filter.mpr ⟨List.mem_of_getElem? (i := 181) (by decide +kernel), by decide +kernel⟩
theorem q_ia_X6 : Cond.instantiable RX6 5 ∈ gLW := List.mem_filter.mpr ⟨List.mem_of_getElem? (i := 182) (by decide +kernel), by decide +kernel⟩
theorem q_im_X6_init : Cond.instanceMethod yX6_init ∈ gLW := List.mem_filter.mpr ⟨List.mem_of_getElem? (i := 184) (by decide +kernel), by decide +kernel⟩
theorem q_co_X6_init : Cond.code yX6_init cX6_init 1 none ∈ gLW := List.mem_filter.mpr ⟨List.mem_of_getElem? (i := 185) (by decide +kernel), by decide +kernel⟩
theorem q_ml_X6_3 : Cond.methodLink RX6 3 objectInit ∈ gLW := List.mem_filter.mpr ⟨List.mem_of_getElem? (i := 186) (by decide +kernel), by decide +kernel⟩
theorem q_cl_X6_9 : Cond.classLink RX6 9 RX4 ∈ gLW := List.mem_filter.mpr ⟨List.mem_of_getElem? (i := 187) (by decide +kernel), by decide +kernel⟩
theorem q_ml_X6_11 : Cond.methodLink RX6 11 yX4_init ∈ gLW := List.mem_filter.mpr ⟨List.mem_of_getElem? (i := 188) (by decide +kernel), by decide +kernel⟩
theorem q_fl_X6_14 : Cond.fieldLink RX6 14 "TaskSheets$Sheets" "partsOnSpot" "LTaskSheets$Numbers;" ∈ gLW := List.mem_filter.mpr ⟨List.mem_of_getElem? (i := 189) (by decide +kernel), by decide +kernel⟩
theorem q_fl_X6_20 : Cond.fieldLink RX6 20 "TaskSheets$Sheets" "sheetOnSpot" "LTaskSheets$Numbers;" ∈ gLW := List.mem_filter.mpr ⟨List.mem_of_getElem? (i := 190) (by decide +kernel), by decide +kernel⟩
theorem q_fl_X6_23 : Cond.fieldLink RX6 23 "TaskSheets$Sheets" "bandOfSheet" "LTaskSheets$Numbers;" ∈ gLW := List.mem_filter.mpr ⟨List.mem_of_getElem? (i := 191) (by decide +kernel), by decide +kernel⟩
theorem q_fl_X6_26 : Cond.fieldLink RX6 26 "TaskSheets$Sheets" "stripOfSheet" "LTaskSheets$Numbers;" ∈ gLW := List.mem_filter.mpr ⟨List.mem_of_getElem? (i := 192) (by decide +kernel), by decide +kernel⟩
theorem q_fl_X6_29 : Cond.fieldLink RX6 29 "TaskSheets$Sheets" "count" "I" ∈ gLW := List.mem_filter.mpr ⟨List.mem_of_getElem? (i := 193) (by decide +kernel), by decide +kernel⟩
theorem q_cl_X8_54 : Cond.classLink RX8 54 RX2 ∈ gLW := List.mem_filter.mpr ⟨List.mem_of_getElem? (i := 205) (by decide +kernel), by decide +kernel⟩
theorem q_ia_X2 : Cond.instantiable RX2 7 ∈ gLW := List.mem_filter.mpr ⟨List.mem_of_getElem? (i := 206) (by decide +kernel), by decide +kernel⟩
theorem q_im_X2_init : Cond.instanceMethod yX2_init ∈ gLW := List.mem_filter.mpr ⟨List.mem_of_getElem? (i := 208) (by decide +kernel), by decide +kernel⟩
theorem q_co_X2_init : Cond.code yX2_init cX2_init 1 none ∈ gLW := List.mem_filter.mpr ⟨List.mem_of_getElem? (i := 209) (by decide +kernel), by decide +kernel⟩
theorem q_ml_X2_3 : Cond.methodLink RX2 3 objectInit ∈ gLW := List.mem_filter.mpr ⟨List.mem_of_getElem? (i := 210) (by decide +kernel), by decide +kernel⟩
theorem q_cl_X2_9 : Cond.classLink RX2 9 RX4 ∈ gLW := List.mem_filter.mpr ⟨List.mem_of_getElem? (i := 211) (by decide +kernel), by decide +kernel⟩
theorem q_ml_X2_11 : Cond.methodLink RX2 11 yX4_init ∈ gLW := List.mem_filter.mpr ⟨List.mem_of_getElem? (i := 212) (by decide +kernel), by decide +kernel⟩
theorem q_fl_X2_14 : Cond.fieldLink RX2 14 "TaskSheets$Exits" "leaveSheets" "LTaskSheets$Numbers;" ∈ gLW := List.mem_filter.mpr ⟨List.mem_of_getElem? (i := 213) (by decide +kernel), by decide +kernel⟩
theorem q_fl_X2_20 : Cond.fieldLink RX2 20 "TaskSheets$Exits" "arriveSheets" "LTaskSheets$Numbers;" ∈ gLW := List.mem_filter.mpr ⟨List.mem_of_getElem? (i := 214) (by decide +kernel), by decide +kernel⟩
theorem q_fl_X2_23 : Cond.fieldLink RX2 23 "TaskSheets$Exits" "exitOfArrow" "LTaskSheets$Numbers;" ∈ gLW := List.mem_filter.mpr ⟨List.mem_of_getElem? (i := 215) (by decide +kernel), by decide +kernel⟩
theorem q_fl_X2_26 : Cond.fieldLink RX2 26 "TaskSheets$Exits" "arrowOfExit" "LTaskSheets$Numbers;" ∈ gLW := List.mem_filter.mpr ⟨List.mem_of_getElem? (i := 216) (by decide +kernel), by decide +kernel⟩
theorem q_fl_X2_29 : Cond.fieldLink RX2 29 "TaskSheets$Exits" "exitsOfSheet" "LTaskSheets$Numbers;" ∈ gLW := List.mem_filter.mpr ⟨List.mem_of_getElem? (i := 217) (by decide +kernel), by decide +kernel⟩
theorem q_fl_X2_32 : Cond.fieldLink RX2 32 "TaskSheets$Exits" "drawnOfSheet" "LTaskSheets$Numbers;" ∈ gLW := List.mem_filter.mpr ⟨List.mem_of_getElem? (i := 218) (by decide +kernel), by decide +kernel⟩
theorem q_fl_X2_35 : Cond.fieldLink RX2 35 "TaskSheets$Exits" "count" "I" ∈ gLW := List.mem_filter.mpr ⟨List.mem_of_getElem? (i := 219) (by decide +kernel), by decide +kernel⟩
theorem q_fl_X8_12 : Cond.fieldLink RX8 12 "TaskSheets" "plan" "LTaskSheets$Plan;" ∈ gLW := List.mem_filter.mpr ⟨List.mem_of_getElem? (i := 235) (by decide +kernel), by decide +kernel⟩
theorem q_fl_X8_16 : Cond.fieldLink RX8 16 "TaskSheets" "told" "LTaskSheets$Plan;" ∈ gLW := List.mem_filter.mpr ⟨List.mem_of_getElem? (i := 236) (by decide +kernel), by decide +kernel⟩
theorem q_fl_X8_22 : Cond.fieldLink RX8 22 "TaskSheets" "history" "LTaskSheets$History;" ∈ gLW := List.mem_filter.mpr ⟨List.mem_of_getElem? (i := 237) (by decide +kernel), by decide +kernel⟩
theorem q_fl_X8_29 : Cond.fieldLink RX8 29 "TaskSheets" "text" "LTaskSheets$TaskText;" ∈ gLW := List.mem_filter.mpr ⟨List.mem_of_getElem? (i := 238) (by decide +kernel), by decide +kernel⟩
theorem q_fl_X8_36 : Cond.fieldLink RX8 36 "TaskSheets" "chains" "LTaskSheets$Chains;" ∈ gLW := List.mem_filter.mpr ⟨List.mem_of_getElem? (i := 239) (by decide +kernel), by decide +kernel⟩
theorem q_fl_X8_43 : Cond.fieldLink RX8 43 "TaskSheets" "bands" "LTaskSheets$Bands;" ∈ gLW := List.mem_filter.mpr ⟨List.mem_of_getElem? (i := 240) (by decide +kernel), by decide +kernel⟩
theorem q_fl_X8_50 : Cond.fieldLink RX8 50 "TaskSheets" "sheets" "LTaskSheets$Sheets;" ∈ gLW := List.mem_filter.mpr ⟨List.mem_of_getElem? (i := 241) (by decide +kernel), by decide +kernel⟩
theorem q_fl_X8_57 : Cond.fieldLink RX8 57 "TaskSheets" "exits" "LTaskSheets$Exits;" ∈ gLW := List.mem_filter.mpr ⟨List.mem_of_getElem? (i := 242) (by decide +kernel), by decide +kernel⟩
theorem q_fl_X8_61 : Cond.fieldLink RX8 61 "TaskSheets" "trialBands" "LTaskSheets$Bands;" ∈ gLW := List.mem_filter.mpr ⟨List.mem_of_getElem? (i := 243) (by decide +kernel), by decide +kernel⟩
theorem q_fl_X8_64 : Cond.fieldLink RX8 64 "TaskSheets" "trialSheets" "LTaskSheets$Sheets;" ∈ gLW := List.mem_filter.mpr ⟨List.mem_of_getElem? (i := 244) (by decide +kernel), by decide +kernel⟩
theorem q_ml_L_150 : Cond.methodLink RL 150 yL_cell ∈ gLW := List.mem_filter.mpr ⟨List.mem_of_getElem? (i := 266) (by decide +kernel), by decide +kernel⟩
theorem q_st_L_cell : Cond.static yL_cell ∈ gLW := List.mem_filter.mpr ⟨List.mem_of_getElem? (i := 267) (by decide +kernel), by decide +kernel⟩
theorem q_co_L_cell : Cond.code yL_cell cL_cell 2 (some (Jvm.ClassFile.FieldType.int)) ∈ gLW := List.mem_filter.mpr ⟨List.mem_of_getElem? (i := 268) (by decide +kernel), by decide +kernel⟩
theorem q_ml_L_26 : Cond.methodLink RL 26 yL_low ∈ gLW := List.mem_filter.mpr ⟨List.mem_of_getElem? (i := 270) (by decide +kernel), by decide +kernel⟩
theorem q_st_L_low : Cond.static yL_low ∈ gLW := List.mem_filter.mpr ⟨List.mem_of_getElem? (i := 271) (by decide +kernel), by decide +kernel⟩
theorem q_co_L_low : Cond.code yL_low cL_low 2 (some (Jvm.ClassFile.FieldType.int)) ∈ gLW := List.mem_filter.mpr ⟨List.mem_of_getElem? (i := 272) (by decide +kernel), by decide +kernel⟩
theorem q_ml_L_154 : Cond.methodLink RL 154 yL_acts ∈ gLW := List.mem_filter.mpr ⟨List.mem_of_getElem? (i := 274) (by decide +kernel), by decide +kernel⟩
theorem q_st_L_acts : Cond.static yL_acts ∈ gLW := List.mem_filter.mpr ⟨List.mem_of_getElem? (i := 275) (by decide +kernel), by decide +kernel⟩
set_option maxRecDepth 100000 in
theorem q_co_L_acts : Cond.code yL_acts cL_acts 18 (some (Jvm.ClassFile.FieldType.boolean)) ∈ gLW := List.mem_filter.mpr ⟨List.mem_of_getElem? (i := 276) (by rfl), by decide +kernel⟩
theorem q_ml_L_30 : Cond.methodLink RL 30 yL_adds ∈ gLW := List.mem_filter.mpr ⟨List.mem_of_getElem? (i := 278) (by decide +kernel), by decide +kernel⟩
theorem q_st_L_adds : Cond.static yL_adds ∈ gLW := List.mem_filter.mpr ⟨List.mem_of_getElem? (i := 279) (by decide +kernel), by decide +kernel⟩
theorem q_cw_L_adds : Cond.codeWith yL_adds cL_adds 5 (some (Jvm.ClassFile.FieldType.int)) [((0 : Nat), (7 : Nat), (8 : Nat), (71 : Nat)), ((0 : Nat), (7 : Nat), (13 : Nat), (77 : Nat))] ∈ gLW := List.mem_filter.mpr ⟨List.mem_of_getElem? (i := 280) (by decide +kernel), by decide +kernel⟩
theorem q_cl_L_71 : Cond.classLink RL 71 "java/lang/IllegalArgumentException" ∈ gLW := List.mem_filter.mpr ⟨List.mem_of_getElem? (i := 281) (by decide +kernel), by decide +kernel⟩
theorem q_cl_L_77 : Cond.classLink RL 77 "java/lang/IllegalStateException" ∈ gLW := List.mem_filter.mpr ⟨List.mem_of_getElem? (i := 282) (by decide +kernel), by decide +kernel⟩
theorem q_ml_L_73 : Cond.methodLink RL 73 yX8_addTask ∈ gLW := List.mem_filter.mpr ⟨List.mem_of_getElem? (i := 283) (by decide +kernel), by decide +kernel⟩
theorem q_im_X8_addTask : Cond.instanceMethod yX8_addTask ∈ gLW := List.mem_filter.mpr ⟨List.mem_of_getElem? (i := 284) (by decide +kernel), by decide +kernel⟩
theorem q_se_X8_addTask : Cond.selects RX8 yX8_addTask yX8_addTask ∈ gLW := List.mem_filter.mpr ⟨List.mem_of_getElem? (i := 285) (by decide +kernel), by decide +kernel⟩
theorem q_co_X8_addTask : Cond.code yX8_addTask cX8_addTask 5 (some (Jvm.ClassFile.FieldType.int)) ∈ gLW := List.mem_filter.mpr ⟨List.mem_of_getElem? (i := 286) (by decide +kernel), by decide +kernel⟩
theorem q_ml_X8_98 : Cond.methodLink RX8 98 yX8_isBar ∈ gLW := List.mem_filter.mpr ⟨List.mem_of_getElem? (i := 287) (by decide +kernel), by decide +kernel⟩
theorem q_st_X8_isBar : Cond.static yX8_isBar ∈ gLW := List.mem_filter.mpr ⟨List.mem_of_getElem? (i := 288) (by decide +kernel), by decide +kernel⟩
theorem q_co_X8_isBar : Cond.code yX8_isBar cX8_isBar 2 (some (Jvm.ClassFile.FieldType.boolean)) ∈ gLW := List.mem_filter.mpr ⟨List.mem_of_getElem? (i := 289) (by decide +kernel), by decide +kernel⟩
theorem q_cl_X8_71 : Cond.classLink RX8 71 "java/lang/IllegalArgumentException" ∈ gLW := List.mem_filter.mpr ⟨List.mem_of_getElem? (i := 290) (by decide +kernel), by decide +kernel⟩
theorem q_ia_java_lang_IllegalArgumentException : Cond.instantiable "java/lang/IllegalArgumentException" 6 ∈ gLW := List.mem_filter.mpr ⟨List.mem_of_getElem? (i := 291) (by decide +kernel), by decide +kernel⟩
theorem q_se_java_lang_Throwable_fillInStackTrace__I_Ljava_lang_Throwable_ : Cond.selects "java/lang/IllegalArgumentException" ⟨"java/lang/Throwable", "fillInStackTrace", "(I)Ljava/lang/Throwable;"⟩ ⟨"java/lang/Throwable", "fillInStackTrace", "(I)Ljava/lang/Throwable;"⟩ ∈ gLW := List.mem_filter.mpr ⟨List.mem_of_getElem? (i := 299) (by decide +kernel), by decide +kernel⟩
theorem q_se_java_lang_Throwable_fillInStackTrace__Ljava_lang_Throwable_ : Cond.selects "java/lang/IllegalArgumentException" ⟨"java/lang/Throwable", "fillInStackTrace", "()Ljava/lang/Throwable;"⟩ ⟨"java/lang/Throwable", "fillInStackTrace", "()Ljava/lang/Throwable;"⟩ ∈ gLW := List.mem_filter.mpr ⟨List.mem_of_getElem? (i := 300) (by decide +kernel), by decide +kernel⟩
theorem q_fl_java_lang_Throwable_198 : Cond.fieldLink "java/lang/Throwable" 198 "java/lang/Throwable" "backtrace" "Ljava/lang/Object;" ∈ gLW := List.mem_filter.mpr ⟨List.mem_of_getElem? (i := 311) (by decide +kernel), by decide +kernel⟩
theorem q_im_java_lang_Throwable__init___V : Cond.instanceMethod ⟨"java/lang/Throwable", "<init>", "()V"⟩ ∈ gLW := List.mem_filter.mpr ⟨List.mem_of_getElem? (i := 313) (by decide +kernel), by decide +kernel⟩
theorem q_co_java_lang_Throwable__init___V : Cond.code ⟨"java/lang/Throwable", "<init>", "()V"⟩ prog_19_method_1_code 1 none ∈ gLW := List.mem_filter.mpr ⟨List.mem_of_getElem? (i := 314) (by decide +kernel), by decide +kernel⟩
theorem q_ml_java_lang_Throwable_1 : Cond.methodLink "java/lang/Throwable" 1 objectInit ∈ gLW := List.mem_filter.mpr ⟨List.mem_of_getElem? (i := 315) (by decide +kernel), by decide +kernel⟩
theorem q_fl_java_lang_Throwable_13 : Cond.fieldLink "java/lang/Throwable" 13 "java/lang/Throwable" "UNASSIGNED_STACK" "[Ljava/lang/StackTraceElement;" ∈ gLW := List.mem_filter.mpr ⟨List.mem_of_getElem? (i := 316) (by decide +kernel), by decide +kernel⟩
theorem q_fl_java_lang_Throwable_20 : Cond.fieldLink "java/lang/Throwable" 20 "java/lang/Throwable" "SUPPRESSED_SENTINEL" "Ljava/util/List;" ∈ gLW := List.mem_filter.mpr ⟨List.mem_of_getElem? (i := 318) (by decide +kernel), by decide +kernel⟩
theorem q_ml_java_lang_Throwable_27 : Cond.methodLink "java/lang/Throwable" 27 ⟨"java/lang/Throwable", "fillInStackTrace", "()Ljava/lang/Throwable;"⟩ ∈ gLW := List.mem_filter.mpr ⟨List.mem_of_getElem? (i := 320) (by decide +kernel), by decide +kernel⟩
theorem q_im_java_lang_Throwable_fillInStackTrace__Ljava_lang_Throwable_ : Cond.instanceMethod ⟨"java/lang/Throwable", "fillInStackTrace", "()Ljava/lang/Throwable;"⟩ ∈ gLW := List.mem_filter.mpr ⟨List.mem_of_getElem? (i := 321) (by decide +kernel), by decide +kernel⟩
theorem q_ml_java_lang_Throwable_202 : Cond.methodLink "java/lang/Throwable" 202 ⟨"java/lang/Throwable", "fillInStackTrace", "(I)Ljava/lang/Throwable;"⟩ ∈ gLW := List.mem_filter.mpr ⟨List.mem_of_getElem? (i := 326) (by decide +kernel), by decide +kernel⟩
theorem q_im_java_lang_Throwable_fillInStackTrace__I_Ljava_lang_Throwable_ : Cond.instanceMethod ⟨"java/lang/Throwable", "fillInStackTrace", "(I)Ljava/lang/Throwable;"⟩ ∈ gLW := List.mem_filter.mpr ⟨List.mem_of_getElem? (i := 328) (by decide +kernel), by decide +kernel⟩
theorem q_ia_java_lang_Throwable : Cond.instantiable "java/lang/Throwable" 6 ∈ gLW := List.mem_filter.mpr ⟨List.mem_of_getElem? (i := 329) (by decide +kernel), by decide +kernel⟩
theorem q_ml_X8_75 : Cond.methodLink RX8 75 ⟨"java/lang/IllegalArgumentException", "<init>", "(Ljava/lang/String;)V"⟩ ∈ gLW := List.mem_filter.mpr ⟨List.mem_of_getElem? (i := 332) (by decide +kernel), by decide +kernel⟩
theorem q_im_java_lang_IllegalArgumentException__init___Ljava_lang_String_V : Cond.instanceMethod ⟨"java/lang/IllegalArgumentException", "<init>", "(Ljava/lang/String;)V"⟩ ∈ gLW := List.mem_filter.mpr ⟨List.mem_of_getElem? (i := 333) (by decide +kernel), by decide +kernel⟩
theorem q_co_java_lang_IllegalArgumentException__init___Ljava_lang_String_V : Cond.code ⟨"java/lang/IllegalArgumentException", "<init>", "(Ljava/lang/String;)V"⟩ prog_13_method_2_code 2 none ∈ gLW := List.mem_filter.mpr ⟨List.mem_of_getElem? (i := 334) (by decide +kernel), by decide +kernel⟩
theorem q_ml_java_lang_IllegalArgumentException_7 : Cond.methodLink "java/lang/IllegalArgumentException" 7 ⟨"java/lang/RuntimeException", "<init>", "(Ljava/lang/String;)V"⟩ ∈ gLW := List.mem_filter.mpr ⟨List.mem_of_getElem? (i := 335) (by decide +kernel), by decide +kernel⟩
theorem q_im_java_lang_RuntimeException__init___Ljava_lang_String_V : Cond.instanceMethod ⟨"java/lang/RuntimeException", "<init>", "(Ljava/lang/String;)V"⟩ ∈ gLW := List.mem_filter.mpr ⟨List.mem_of_getElem? (i := 336) (by decide +kernel), by decide +kernel⟩
theorem q_co_java_lang_RuntimeException__init___Ljava_lang_String_V : Cond.code ⟨"java/lang/RuntimeException", "<init>", "(Ljava/lang/String;)V"⟩ prog_17_method_2_code 2 none ∈ gLW := List.mem_filter.mpr ⟨List.mem_of_getElem? (i := 337) (by decide +kernel), by decide +kernel⟩
theorem q_ml_java_lang_RuntimeException_7 : Cond.methodLink "java/lang/RuntimeException" 7 ⟨"java/lang/Exception", "<init>", "(Ljava/lang/String;)V"⟩ ∈ gLW := List.mem_filter.mpr ⟨List.mem_of_getElem? (i := 338) (by decide +kernel), by decide +kernel⟩
theorem q_im_java_lang_Exception__init___Ljava_lang_String_V : Cond.instanceMethod ⟨"java/lang/Exception", "<init>", "(Ljava/lang/String;)V"⟩ ∈ gLW := List.mem_filter.mpr ⟨List.mem_of_getElem? (i := 339) (by decide +kernel), by decide +kernel⟩
theorem q_co_java_lang_Exception__init___Ljava_lang_String_V : Cond.code ⟨"java/lang/Exception", "<init>", "(Ljava/lang/String;)V"⟩ prog_12_method_2_code 2 none ∈ gLW := List.mem_filter.mpr ⟨List.mem_of_getElem? (i := 340) (by decide +kernel), by decide +kernel⟩
theorem q_ml_java_lang_Exception_7 : Cond.methodLink "java/lang/Exception" 7 ⟨"java/lang/Throwable", "<init>", "(Ljava/lang/String;)V"⟩ ∈ gLW := List.mem_filter.mpr ⟨List.mem_of_getElem? (i := 341) (by decide +kernel), by decide +kernel⟩
theorem q_im_java_lang_Throwable__init___Ljava_lang_String_V : Cond.instanceMethod ⟨"java/lang/Throwable", "<init>", "(Ljava/lang/String;)V"⟩ ∈ gLW := List.mem_filter.mpr ⟨List.mem_of_getElem? (i := 342) (by decide +kernel), by decide +kernel⟩
theorem q_co_java_lang_Throwable__init___Ljava_lang_String_V : Cond.code ⟨"java/lang/Throwable", "<init>", "(Ljava/lang/String;)V"⟩ prog_19_method_2_code 2 none ∈ gLW := List.mem_filter.mpr ⟨List.mem_of_getElem? (i := 343) (by decide +kernel), by decide +kernel⟩
theorem q_fl_java_lang_Throwable_31 : Cond.fieldLink "java/lang/Throwable" 31 "java/lang/Throwable" "detailMessage" "Ljava/lang/String;" ∈ gLW := List.mem_filter.mpr ⟨List.mem_of_getElem? (i := 345) (by decide +kernel), by decide +kernel⟩
theorem q_fl_java_lang_Throwable_7 : Cond.fieldLink "java/lang/Throwable" 7 "java/lang/Throwable" "cause" "Ljava/lang/Throwable;" ∈ gLW := List.mem_filter.mpr ⟨List.mem_of_getElem? (i := 346) (by decide +kernel), by decide +kernel⟩
theorem q_fl_java_lang_Throwable_17 : Cond.fieldLink "java/lang/Throwable" 17 "java/lang/Throwable" "stackTrace" "[Ljava/lang/StackTraceElement;" ∈ gLW := List.mem_filter.mpr ⟨List.mem_of_getElem? (i := 347) (by decide +kernel), by decide +kernel⟩
theorem q_fl_java_lang_Throwable_24 : Cond.fieldLink "java/lang/Throwable" 24 "java/lang/Throwable" "suppressedExceptions" "Ljava/util/List;" ∈ gLW := List.mem_filter.mpr ⟨List.mem_of_getElem? (i := 348) (by decide +kernel), by decide +kernel⟩
theorem q_ac_byte : Cond.arrayClass Jvm.ClassFile.FieldType.byte ∈ gLW := List.mem_filter.mpr ⟨List.mem_of_getElem? (i := 357) (by decide +kernel), by decide +kernel⟩
theorem q_ml_X8_103 : Cond.methodLink RX8 103 yX5_taskCount ∈ gLW := List.mem_filter.mpr ⟨List.mem_of_getElem? (i := 358) (by decide +kernel), by decide +kernel⟩
theorem q_im_X5_taskCount : Cond.instanceMethod yX5_taskCount ∈ gLW := List.mem_filter.mpr ⟨List.mem_of_getElem? (i := 359) (by decide +kernel), by decide +kernel⟩
theorem q_se_X5_taskCount : Cond.selects RX5 yX5_taskCount yX5_taskCount ∈ gLW := List.mem_filter.mpr ⟨List.mem_of_getElem? (i := 360) (by decide +kernel), by decide +kernel⟩
theorem q_co_X5_taskCount : Cond.code yX5_taskCount cX5_taskCount 1 (some (Jvm.ClassFile.FieldType.int)) ∈ gLW := List.mem_filter.mpr ⟨List.mem_of_getElem? (i := 361) (by decide +kernel), by decide +kernel⟩
theorem q_cl_X8_107 : Cond.classLink RX8 107 "java/lang/IllegalStateException" ∈ gLW := List.mem_filter.mpr ⟨List.mem_of_getElem? (i := 362) (by decide +kernel), by decide +kernel⟩
theorem q_ia_java_lang_IllegalStateException : Cond.instantiable "java/lang/IllegalStateException" 6 ∈ gLW := List.mem_filter.mpr ⟨List.mem_of_getElem? (i := 363) (by decide +kernel), by decide +kernel⟩
theorem q_ml_X8_111 : Cond.methodLink RX8 111 ⟨"java/lang/IllegalStateException", "<init>", "(Ljava/lang/String;)V"⟩ ∈ gLW := List.mem_filter.mpr ⟨List.mem_of_getElem? (i := 372) (by decide +kernel), by decide +kernel⟩
theorem q_im_java_lang_IllegalStateException__init___Ljava_lang_String_V : Cond.instanceMethod ⟨"java/lang/IllegalStateException", "<init>", "(Ljava/lang/String;)V"⟩ ∈ gLW := List.mem_filter.mpr ⟨List.mem_of_getElem? (i := 373) (by decide +kernel), by decide +kernel⟩
theorem q_co_java_lang_IllegalStateException__init___Ljava_lang_String_V : Cond.code ⟨"java/lang/IllegalStateException", "<init>", "(Ljava/lang/String;)V"⟩ prog_14_method_2_code 2 none ∈ gLW := List.mem_filter.mpr ⟨List.mem_of_getElem? (i := 374) (by decide +kernel), by decide +kernel⟩
theorem q_ml_java_lang_IllegalStateException_7 : Cond.methodLink "java/lang/IllegalStateException" 7 ⟨"java/lang/RuntimeException", "<init>", "(Ljava/lang/String;)V"⟩ ∈ gLW := List.mem_filter.mpr ⟨List.mem_of_getElem? (i := 375) (by decide +kernel), by decide +kernel⟩
theorem q_ml_X8_78 : Cond.methodLink RX8 78 yX3_save ∈ gLW := List.mem_filter.mpr ⟨List.mem_of_getElem? (i := 378) (by decide +kernel), by decide +kernel⟩
theorem q_im_X3_save : Cond.instanceMethod yX3_save ∈ gLW := List.mem_filter.mpr ⟨List.mem_of_getElem? (i := 379) (by decide +kernel), by decide +kernel⟩
theorem q_se_X3_save : Cond.selects RX3 yX3_save yX3_save ∈ gLW := List.mem_filter.mpr ⟨List.mem_of_getElem? (i := 380) (by decide +kernel), by decide +kernel⟩
theorem q_co_X3_save : Cond.code yX3_save cX3_save 3 none ∈ gLW := List.mem_filter.mpr ⟨List.mem_of_getElem? (i := 381) (by decide +kernel), by decide +kernel⟩
theorem q_ml_X3_25 : Cond.methodLink RX3 25 yX3_slot ∈ gLW := List.mem_filter.mpr ⟨List.mem_of_getElem? (i := 382) (by decide +kernel), by decide +kernel⟩
theorem q_im_X3_slot : Cond.instanceMethod yX3_slot ∈ gLW := List.mem_filter.mpr ⟨List.mem_of_getElem? (i := 384) (by decide +kernel), by decide +kernel⟩
theorem q_co_X3_slot : Cond.code yX3_slot cX3_slot 2 (some ((Jvm.ClassFile.FieldType.object "TaskSheets$Plan"))) ∈ gLW := List.mem_filter.mpr ⟨List.mem_of_getElem? (i := 385) (by decide +kernel), by decide +kernel⟩
theorem q_ml_X3_29 : Cond.methodLink RX3 29 yX5_copyAll ∈ gLW := List.mem_filter.mpr ⟨List.mem_of_getElem? (i := 386) (by decide +kernel), by decide +kernel⟩
theorem q_im_X5_copyAll : Cond.instanceMethod yX5_copyAll ∈ gLW := List.mem_filter.mpr ⟨List.mem_of_getElem? (i := 387) (by decide +kernel), by decide +kernel⟩
theorem q_se_X5_copyAll : Cond.selects RX5 yX5_copyAll yX5_copyAll ∈ gLW := List.mem_filter.mpr ⟨List.mem_of_getElem? (i := 388) (by decide +kernel), by decide +kernel⟩
theorem q_co_X5_copyAll : Cond.code yX5_copyAll cX5_copyAll 2 none ∈ gLW := List.mem_filter.mpr ⟨List.mem_of_getElem? (i := 389) (by decide +kernel), by decide +kernel⟩
theorem q_ml_X5_86 : Cond.methodLink RX5 86 yX4_copy ∈ gLW := List.mem_filter.mpr ⟨List.mem_of_getElem? (i := 390) (by decide +kernel), by decide +kernel⟩
theorem q_im_X4_copy : Cond.instanceMethod yX4_copy ∈ gLW := List.mem_filter.mpr ⟨List.mem_of_getElem? (i := 391) (by decide +kernel), by decide +kernel⟩
theorem q_se_X4_copy : Cond.selects RX4 yX4_copy yX4_copy ∈ gLW := List.mem_filter.mpr ⟨List.mem_of_getElem? (i := 392) (by decide +kernel), by decide +kernel⟩
theorem q_co_X4_copy : Cond.code yX4_copy cX4_copy 3 none ∈ gLW := List.mem_filter.mpr ⟨List.mem_of_getElem? (i := 393) (by decide +kernel), by decide +kernel⟩
theorem q_ml_X5_90 : Cond.methodLink RX5 90 yX5_copyTasksAndArrows ∈ gLW := List.mem_filter.mpr ⟨List.mem_of_getElem? (i := 394) (by decide +kernel), by decide +kernel⟩
theorem q_im_X5_copyTasksAndArrows : Cond.instanceMethod yX5_copyTasksAndArrows ∈ gLW := List.mem_filter.mpr ⟨List.mem_of_getElem? (i := 395) (by decide +kernel), by decide +kernel⟩
theorem q_se_X5_copyTasksAndArrows : Cond.selects RX5 yX5_copyTasksAndArrows yX5_copyTasksAndArrows ∈ gLW := List.mem_filter.mpr ⟨List.mem_of_getElem? (i := 396) (by decide +kernel), by decide +kernel⟩
theorem q_co_X5_copyTasksAndArrows : Cond.code yX5_copyTasksAndArrows cX5_copyTasksAndArrows 2 none ∈ gLW := List.mem_filter.mpr ⟨List.mem_of_getElem? (i := 397) (by decide +kernel), by decide +kernel⟩
theorem q_ml_X8_112 : Cond.methodLink RX8 112 yX5_tellTask ∈ gLW := List.mem_filter.mpr ⟨List.mem_of_getElem? (i := 398) (by decide +kernel), by decide +kernel⟩
theorem q_im_X5_tellTask : Cond.instanceMethod yX5_tellTask ∈ gLW := List.mem_filter.mpr ⟨List.mem_of_getElem? (i := 399) (by decide +kernel), by decide +kernel⟩
theorem q_se_X5_tellTask : Cond.selects RX5 yX5_tellTask yX5_tellTask ∈ gLW := List.mem_filter.mpr ⟨List.mem_of_getElem? (i := 400) (by decide +kernel), by decide +kernel⟩
theorem q_co_X5_tellTask : Cond.code yX5_tellTask cX5_tellTask 4 (some (Jvm.ClassFile.FieldType.int)) ∈ gLW := List.mem_filter.mpr ⟨List.mem_of_getElem? (i := 401) (by decide +kernel), by decide +kernel⟩
theorem q_ml_X5_73 : Cond.methodLink RX5 73 yX5_putBar ∈ gLW := List.mem_filter.mpr ⟨List.mem_of_getElem? (i := 402) (by decide +kernel), by decide +kernel⟩
theorem q_im_X5_putBar : Cond.instanceMethod yX5_putBar ∈ gLW := List.mem_filter.mpr ⟨List.mem_of_getElem? (i := 403) (by decide +kernel), by decide +kernel⟩
theorem q_se_X5_putBar : Cond.selects RX5 yX5_putBar yX5_putBar ∈ gLW := List.mem_filter.mpr ⟨List.mem_of_getElem? (i := 404) (by decide +kernel), by decide +kernel⟩
theorem q_co_X5_putBar : Cond.code yX5_putBar cX5_putBar 4 none ∈ gLW := List.mem_filter.mpr ⟨List.mem_of_getElem? (i := 405) (by decide +kernel), by decide +kernel⟩
theorem q_ml_X8_90 : Cond.methodLink RX8 90 yX8_printAnew ∈ gLW := List.mem_filter.mpr ⟨List.mem_of_getElem? (i := 406) (by decide +kernel), by decide +kernel⟩
theorem q_im_X8_printAnew : Cond.instanceMethod yX8_printAnew ∈ gLW := List.mem_filter.mpr ⟨List.mem_of_getElem? (i := 408) (by decide +kernel), by decide +kernel⟩
theorem q_co_X8_printAnew : Cond.code yX8_printAnew cX8_printAnew 1 none ∈ gLW := List.mem_filter.mpr ⟨List.mem_of_getElem? (i := 409) (by decide +kernel), by decide +kernel⟩
theorem q_ml_X8_82 : Cond.methodLink RX8 82 yX5_setting ∈ gLW := List.mem_filter.mpr ⟨List.mem_of_getElem? (i := 410) (by decide +kernel), by decide +kernel⟩
theorem q_im_X5_setting : Cond.instanceMethod yX5_setting ∈ gLW := List.mem_filter.mpr ⟨List.mem_of_getElem? (i := 411) (by decide +kernel), by decide +kernel⟩
theorem q_se_X5_setting : Cond.selects RX5 yX5_setting yX5_setting ∈ gLW := List.mem_filter.mpr ⟨List.mem_of_getElem? (i := 412) (by decide +kernel), by decide +kernel⟩
theorem q_co_X5_setting : Cond.code yX5_setting cX5_setting 2 (some (Jvm.ClassFile.FieldType.int)) ∈ gLW := List.mem_filter.mpr ⟨List.mem_of_getElem? (i := 413) (by decide +kernel), by decide +kernel⟩
theorem q_ml_X5_43 : Cond.methodLink RX5 43 yX4_at ∈ gLW := List.mem_filter.mpr ⟨List.mem_of_getElem? (i := 414) (by decide +kernel), by decide +kernel⟩
theorem q_im_X4_at : Cond.instanceMethod yX4_at ∈ gLW := List.mem_filter.mpr ⟨List.mem_of_getElem? (i := 415) (by decide +kernel), by decide +kernel⟩
theorem q_se_X4_at : Cond.selects RX4 yX4_at yX4_at ∈ gLW := List.mem_filter.mpr ⟨List.mem_of_getElem? (i := 416) (by decide +kernel), by decide +kernel⟩
theorem q_co_X4_at : Cond.code yX4_at cX4_at 2 (some (Jvm.ClassFile.FieldType.int)) ∈ gLW := List.mem_filter.mpr ⟨List.mem_of_getElem? (i := 417) (by decide +kernel), by decide +kernel⟩
theorem q_ml_X8_223 : Cond.methodLink RX8 223 yX0_lay ∈ gLW := List.mem_filter.mpr ⟨List.mem_of_getElem? (i := 418) (by decide +kernel), by decide +kernel⟩
theorem q_im_X0_lay : Cond.instanceMethod yX0_lay ∈ gLW := List.mem_filter.mpr ⟨List.mem_of_getElem? (i := 419) (by decide +kernel), by decide +kernel⟩
theorem q_se_X0_lay : Cond.selects RX0 yX0_lay yX0_lay ∈ gLW := List.mem_filter.mpr ⟨List.mem_of_getElem? (i := 420) (by decide +kernel), by decide +kernel⟩
theorem q_co_X0_lay : Cond.code yX0_lay cX0_lay 4 none ∈ gLW := List.mem_filter.mpr ⟨List.mem_of_getElem? (i := 421) (by decide +kernel), by decide +kernel⟩
theorem q_ml_X0_43 : Cond.methodLink RX0 43 yX0_gather ∈ gLW := List.mem_filter.mpr ⟨List.mem_of_getElem? (i := 422) (by decide +kernel), by decide +kernel⟩
theorem q_im_X0_gather : Cond.instanceMethod yX0_gather ∈ gLW := List.mem_filter.mpr ⟨List.mem_of_getElem? (i := 424) (by decide +kernel), by decide +kernel⟩
theorem q_co_X0_gather : Cond.code yX0_gather cX0_gather 4 none ∈ gLW := List.mem_filter.mpr ⟨List.mem_of_getElem? (i := 425) (by decide +kernel), by decide +kernel⟩
theorem q_ml_X0_59 : Cond.methodLink RX0 59 yX5_taskCount ∈ gLW := List.mem_filter.mpr ⟨List.mem_of_getElem? (i := 426) (by decide +kernel), by decide +kernel⟩
theorem q_ml_X0_63 : Cond.methodLink RX0 63 yX5_group ∈ gLW := List.mem_filter.mpr ⟨List.mem_of_getElem? (i := 427) (by decide +kernel), by decide +kernel⟩
theorem q_im_X5_group : Cond.instanceMethod yX5_group ∈ gLW := List.mem_filter.mpr ⟨List.mem_of_getElem? (i := 428) (by decide +kernel), by decide +kernel⟩
theorem q_se_X5_group : Cond.selects RX5 yX5_group yX5_group ∈ gLW := List.mem_filter.mpr ⟨List.mem_of_getElem? (i := 429) (by decide +kernel), by decide +kernel⟩
theorem q_co_X5_group : Cond.code yX5_group cX5_group 2 (some (Jvm.ClassFile.FieldType.int)) ∈ gLW := List.mem_filter.mpr ⟨List.mem_of_getElem? (i := 430) (by decide +kernel), by decide +kernel⟩
theorem q_ml_X0_66 : Cond.methodLink RX0 66 yX0_insert ∈ gLW := List.mem_filter.mpr ⟨List.mem_of_getElem? (i := 431) (by decide +kernel), by decide +kernel⟩
theorem q_im_X0_insert : Cond.instanceMethod yX0_insert ∈ gLW := List.mem_filter.mpr ⟨List.mem_of_getElem? (i := 433) (by decide +kernel), by decide +kernel⟩
theorem q_co_X0_insert : Cond.code yX0_insert cX0_insert 4 none ∈ gLW := List.mem_filter.mpr ⟨List.mem_of_getElem? (i := 434) (by decide +kernel), by decide +kernel⟩
theorem q_ml_X0_33 : Cond.methodLink RX0 33 yX4_at ∈ gLW := List.mem_filter.mpr ⟨List.mem_of_getElem? (i := 435) (by decide +kernel), by decide +kernel⟩
theorem q_ml_X0_69 : Cond.methodLink RX0 69 yX5_first ∈ gLW := List.mem_filter.mpr ⟨List.mem_of_getElem? (i := 436) (by decide +kernel), by decide +kernel⟩
theorem q_im_X5_first : Cond.instanceMethod yX5_first ∈ gLW := List.mem_filter.mpr ⟨List.mem_of_getElem? (i := 437) (by decide +kernel), by decide +kernel⟩
theorem q_se_X5_first : Cond.selects RX5 yX5_first yX5_first ∈ gLW := List.mem_filter.mpr ⟨List.mem_of_getElem? (i := 438) (by decide +kernel), by decide +kernel⟩
theorem q_co_X5_first : Cond.code yX5_first cX5_first 2 (some (Jvm.ClassFile.FieldType.int)) ∈ gLW := List.mem_filter.mpr ⟨List.mem_of_getElem? (i := 439) (by decide +kernel), by decide +kernel⟩
theorem q_ml_X0_72 : Cond.methodLink RX0 72 yX4_put ∈ gLW := List.mem_filter.mpr ⟨List.mem_of_getElem? (i := 440) (by decide +kernel), by decide +kernel⟩
theorem q_ml_X0_50 : Cond.methodLink RX0 50 yX5_setting ∈ gLW := List.mem_filter.mpr ⟨List.mem_of_getElem? (i := 441) (by decide +kernel), by decide +kernel⟩
theorem q_ml_X0_55 : Cond.methodLink RX0 55 yX0_layGroup ∈ gLW := List.mem_filter.mpr ⟨List.mem_of_getElem? (i := 442) (by decide +kernel), by decide +kernel⟩
theorem q_im_X0_layGroup : Cond.instanceMethod yX0_layGroup ∈ gLW := List.mem_filter.mpr ⟨List.mem_of_getElem? (i := 444) (by decide +kernel), by decide +kernel⟩
theorem q_co_X0_layGroup : Cond.code yX0_layGroup cX0_layGroup 7 none ∈ gLW := List.mem_filter.mpr ⟨List.mem_of_getElem? (i := 445) (by decide +kernel), by decide +kernel⟩
theorem q_ml_X0_76 : Cond.methodLink RX0 76 yX0_beginBand ∈ gLW := List.mem_filter.mpr ⟨List.mem_of_getElem? (i := 446) (by decide +kernel), by decide +kernel⟩
theorem q_im_X0_beginBand : Cond.instanceMethod yX0_beginBand ∈ gLW := List.mem_filter.mpr ⟨List.mem_of_getElem? (i := 448) (by decide +kernel), by decide +kernel⟩
theorem q_co_X0_beginBand : Cond.code yX0_beginBand cX0_beginBand 1 none ∈ gLW := List.mem_filter.mpr ⟨List.mem_of_getElem? (i := 449) (by decide +kernel), by decide +kernel⟩
theorem q_ml_X0_82 : Cond.methodLink RX0 82 yX4_fill ∈ gLW := List.mem_filter.mpr ⟨List.mem_of_getElem? (i := 450) (by decide +kernel), by decide +kernel⟩
theorem q_im_X4_fill : Cond.instanceMethod yX4_fill ∈ gLW := List.mem_filter.mpr ⟨List.mem_of_getElem? (i := 451) (by decide +kernel), by decide +kernel⟩
theorem q_se_X4_fill : Cond.selects RX4 yX4_fill yX4_fill ∈ gLW := List.mem_filter.mpr ⟨List.mem_of_getElem? (i := 452) (by decide +kernel), by decide +kernel⟩
theorem q_co_X4_fill : Cond.code yX4_fill cX4_fill 5 none ∈ gLW := List.mem_filter.mpr ⟨List.mem_of_getElem? (i := 453) (by decide +kernel), by decide +kernel⟩
theorem q_ml_X0_79 : Cond.methodLink RX0 79 yX0_take ∈ gLW := List.mem_filter.mpr ⟨List.mem_of_getElem? (i := 454) (by decide +kernel), by decide +kernel⟩
theorem q_im_X0_take : Cond.instanceMethod yX0_take ∈ gLW := List.mem_filter.mpr ⟨List.mem_of_getElem? (i := 456) (by decide +kernel), by decide +kernel⟩
theorem q_co_X0_take : Cond.code yX0_take cX0_take 2 none ∈ gLW := List.mem_filter.mpr ⟨List.mem_of_getElem? (i := 457) (by decide +kernel), by decide +kernel⟩
theorem q_ml_X8_227 : Cond.methodLink RX8 227 yX6_print ∈ gLW := List.mem_filter.mpr ⟨List.mem_of_getElem? (i := 458) (by decide +kernel), by decide +kernel⟩
theorem q_im_X6_print : Cond.instanceMethod yX6_print ∈ gLW := List.mem_filter.mpr ⟨List.mem_of_getElem? (i := 459) (by decide +kernel), by decide +kernel⟩
theorem q_se_X6_print : Cond.selects RX6 yX6_print yX6_print ∈ gLW := List.mem_filter.mpr ⟨List.mem_of_getElem? (i := 460) (by decide +kernel), by decide +kernel⟩
theorem q_co_X6_print : Cond.code yX6_print cX6_print 7 none ∈ gLW := List.mem_filter.mpr ⟨List.mem_of_getElem? (i := 461) (by decide +kernel), by decide +kernel⟩
theorem q_ml_X6_47 : Cond.methodLink RX6 47 yX0_count ∈ gLW := List.mem_filter.mpr ⟨List.mem_of_getElem? (i := 462) (by decide +kernel), by decide +kernel⟩
theorem q_im_X0_count : Cond.instanceMethod yX0_count ∈ gLW := List.mem_filter.mpr ⟨List.mem_of_getElem? (i := 463) (by decide +kernel), by decide +kernel⟩
theorem q_se_X0_count : Cond.selects RX0 yX0_count yX0_count ∈ gLW := List.mem_filter.mpr ⟨List.mem_of_getElem? (i := 464) (by decide +kernel), by decide +kernel⟩
theorem q_co_X0_count : Cond.code yX0_count cX0_count 1 (some (Jvm.ClassFile.FieldType.int)) ∈ gLW := List.mem_filter.mpr ⟨List.mem_of_getElem? (i := 465) (by decide +kernel), by decide +kernel⟩
theorem q_ml_X6_52 : Cond.methodLink RX6 52 yX4_fill ∈ gLW := List.mem_filter.mpr ⟨List.mem_of_getElem? (i := 466) (by decide +kernel), by decide +kernel⟩
theorem q_ml_X6_56 : Cond.methodLink RX6 56 yX5_taskCount ∈ gLW := List.mem_filter.mpr ⟨List.mem_of_getElem? (i := 467) (by decide +kernel), by decide +kernel⟩
theorem q_ml_X6_61 : Cond.methodLink RX6 61 yX5_last ∈ gLW := List.mem_filter.mpr ⟨List.mem_of_getElem? (i := 468) (by decide +kernel), by decide +kernel⟩
theorem q_im_X5_last : Cond.instanceMethod yX5_last ∈ gLW := List.mem_filter.mpr ⟨List.mem_of_getElem? (i := 469) (by decide +kernel), by decide +kernel⟩
theorem q_se_X5_last : Cond.selects RX5 yX5_last yX5_last ∈ gLW := List.mem_filter.mpr ⟨List.mem_of_getElem? (i := 470) (by decide +kernel), by decide +kernel⟩
theorem q_co_X5_last : Cond.code yX5_last cX5_last 2 (some (Jvm.ClassFile.FieldType.int)) ∈ gLW := List.mem_filter.mpr ⟨List.mem_of_getElem? (i := 471) (by decide +kernel), by decide +kernel⟩
theorem q_st_X8_stripOfDay : Cond.static yX8_stripOfDay ∈ gLW := List.mem_filter.mpr ⟨List.mem_of_getElem? (i := 473) (by decide +kernel), by decide +kernel⟩
theorem q_co_X8_stripOfDay : Cond.code yX8_stripOfDay cX8_stripOfDay 2 (some (Jvm.ClassFile.FieldType.int)) ∈ gLW := List.mem_filter.mpr ⟨List.mem_of_getElem? (i := 474) (by decide +kernel), by decide +kernel⟩
theorem q_ml_X6_67 : Cond.methodLink RX6 67 yX5_first ∈ gLW := List.mem_filter.mpr ⟨List.mem_of_getElem? (i := 475) (by decide +kernel), by decide +kernel⟩
theorem q_ml_X6_70 : Cond.methodLink RX6 70 yX0_bandOf ∈ gLW := List.mem_filter.mpr ⟨List.mem_of_getElem? (i := 476) (by decide +kernel), by decide +kernel⟩
theorem q_im_X0_bandOf : Cond.instanceMethod yX0_bandOf ∈ gLW := List.mem_filter.mpr ⟨List.mem_of_getElem? (i := 477) (by decide +kernel), by decide +kernel⟩
theorem q_se_X0_bandOf : Cond.selects RX0 yX0_bandOf yX0_bandOf ∈ gLW := List.mem_filter.mpr ⟨List.mem_of_getElem? (i := 478) (by decide +kernel), by decide +kernel⟩
theorem q_co_X0_bandOf : Cond.code yX0_bandOf cX0_bandOf 2 (some (Jvm.ClassFile.FieldType.int)) ∈ gLW := List.mem_filter.mpr ⟨List.mem_of_getElem? (i := 479) (by decide +kernel), by decide +kernel⟩
theorem q_ml_X6_43 : Cond.methodLink RX6 43 yX6_spot ∈ gLW := List.mem_filter.mpr ⟨List.mem_of_getElem? (i := 480) (by decide +kernel), by decide +kernel⟩
theorem q_st_X6_spot : Cond.static yX6_spot ∈ gLW := List.mem_filter.mpr ⟨List.mem_of_getElem? (i := 481) (by decide +kernel), by decide +kernel⟩
theorem q_co_X6_spot : Cond.code yX6_spot cX6_spot 3 (some (Jvm.ClassFile.FieldType.int)) ∈ gLW := List.mem_filter.mpr ⟨List.mem_of_getElem? (i := 482) (by decide +kernel), by decide +kernel⟩
theorem q_ml_X6_71 : Cond.methodLink RX6 71 yX4_increase ∈ gLW := List.mem_filter.mpr ⟨List.mem_of_getElem? (i := 483) (by decide +kernel), by decide +kernel⟩
theorem q_im_X4_increase : Cond.instanceMethod yX4_increase ∈ gLW := List.mem_filter.mpr ⟨List.mem_of_getElem? (i := 484) (by decide +kernel), by decide +kernel⟩
theorem q_se_X4_increase : Cond.selects RX4 yX4_increase yX4_increase ∈ gLW := List.mem_filter.mpr ⟨List.mem_of_getElem? (i := 485) (by decide +kernel), by decide +kernel⟩
theorem q_co_X4_increase : Cond.code yX4_increase cX4_increase 2 none ∈ gLW := List.mem_filter.mpr ⟨List.mem_of_getElem? (i := 486) (by decide +kernel), by decide +kernel⟩
theorem q_ml_X4_15 : Cond.methodLink RX4 15 yX4_at ∈ gLW := List.mem_filter.mpr ⟨List.mem_of_getElem? (i := 487) (by decide +kernel), by decide +kernel⟩
theorem q_ml_X4_19 : Cond.methodLink RX4 19 yX4_put ∈ gLW := List.mem_filter.mpr ⟨List.mem_of_getElem? (i := 488) (by decide +kernel), by decide +kernel⟩
theorem q_ml_X6_74 : Cond.methodLink RX6 74 yX5_setting ∈ gLW := List.mem_filter.mpr ⟨List.mem_of_getElem? (i := 489) (by decide +kernel), by decide +kernel⟩
theorem q_ml_X6_77 : Cond.methodLink RX6 77 yX6_numberByBands ∈ gLW := List.mem_filter.mpr ⟨List.mem_of_getElem? (i := 490) (by decide +kernel), by decide +kernel⟩
theorem q_im_X6_numberByBands : Cond.instanceMethod yX6_numberByBands ∈ gLW := List.mem_filter.mpr ⟨List.mem_of_getElem? (i := 492) (by decide +kernel), by decide +kernel⟩
theorem q_co_X6_numberByBands : Cond.code yX6_numberByBands cX6_numberByBands 5 none ∈ gLW := List.mem_filter.mpr ⟨List.mem_of_getElem? (i := 493) (by decide +kernel), by decide +kernel⟩
theorem q_ml_X6_84 : Cond.methodLink RX6 84 yX6_number ∈ gLW := List.mem_filter.mpr ⟨List.mem_of_getElem? (i := 494) (by decide +kernel), by decide +kernel⟩
theorem q_im_X6_number : Cond.instanceMethod yX6_number ∈ gLW := List.mem_filter.mpr ⟨List.mem_of_getElem? (i := 496) (by decide +kernel), by decide +kernel⟩
theorem q_co_X6_number : Cond.code yX6_number cX6_number 4 none ∈ gLW := List.mem_filter.mpr ⟨List.mem_of_getElem? (i := 497) (by decide +kernel), by decide +kernel⟩
theorem q_ml_X6_33 : Cond.methodLink RX6 33 yX4_at ∈ gLW := List.mem_filter.mpr ⟨List.mem_of_getElem? (i := 498) (by decide +kernel), by decide +kernel⟩
theorem q_ml_X6_87 : Cond.methodLink RX6 87 yX4_put ∈ gLW := List.mem_filter.mpr ⟨List.mem_of_getElem? (i := 499) (by decide +kernel), by decide +kernel⟩
theorem q_ml_X6_81 : Cond.methodLink RX6 81 yX6_numberByStrips ∈ gLW := List.mem_filter.mpr ⟨List.mem_of_getElem? (i := 500) (by decide +kernel), by decide +kernel⟩
theorem q_im_X6_numberByStrips : Cond.instanceMethod yX6_numberByStrips ∈ gLW := List.mem_filter.mpr ⟨List.mem_of_getElem? (i := 502) (by decide +kernel), by decide +kernel⟩
theorem q_co_X6_numberByStrips : Cond.code yX6_numberByStrips cX6_numberByStrips 5 none ∈ gLW := List.mem_filter.mpr ⟨List.mem_of_getElem? (i := 503) (by decide +kernel), by decide +kernel⟩
theorem q_ml_X8_294 : Cond.methodLink RX8 294 yX2_draw ∈ gLW := List.mem_filter.mpr ⟨List.mem_of_getElem? (i := 504) (by decide +kernel), by decide +kernel⟩
theorem q_im_X2_draw : Cond.instanceMethod yX2_draw ∈ gLW := List.mem_filter.mpr ⟨List.mem_of_getElem? (i := 505) (by decide +kernel), by decide +kernel⟩
theorem q_se_X2_draw : Cond.selects RX2 yX2_draw yX2_draw ∈ gLW := List.mem_filter.mpr ⟨List.mem_of_getElem? (i := 506) (by decide +kernel), by decide +kernel⟩
theorem q_co_X2_draw : Cond.code yX2_draw cX2_draw 10 none ∈ gLW := List.mem_filter.mpr ⟨List.mem_of_getElem? (i := 507) (by decide +kernel), by decide +kernel⟩
theorem q_ml_X2_43 : Cond.methodLink RX2 43 yX5_setting ∈ gLW := List.mem_filter.mpr ⟨List.mem_of_getElem? (i := 508) (by decide +kernel), by decide +kernel⟩
theorem q_ml_X2_48 : Cond.methodLink RX2 48 yX6_count ∈ gLW := List.mem_filter.mpr ⟨List.mem_of_getElem? (i := 509) (by decide +kernel), by decide +kernel⟩
theorem q_im_X6_count : Cond.instanceMethod yX6_count ∈ gLW := List.mem_filter.mpr ⟨List.mem_of_getElem? (i := 510) (by decide +kernel), by decide +kernel⟩
theorem q_se_X6_count : Cond.selects RX6 yX6_count yX6_count ∈ gLW := List.mem_filter.mpr ⟨List.mem_of_getElem? (i := 511) (by decide +kernel), by decide +kernel⟩
theorem q_co_X6_count : Cond.code yX6_count cX6_count 1 (some (Jvm.ClassFile.FieldType.int)) ∈ gLW := List.mem_filter.mpr ⟨List.mem_of_getElem? (i := 512) (by decide +kernel), by decide +kernel⟩
theorem q_ml_X2_53 : Cond.methodLink RX2 53 yX4_fill ∈ gLW := List.mem_filter.mpr ⟨List.mem_of_getElem? (i := 513) (by decide +kernel), by decide +kernel⟩
theorem q_ml_X2_57 : Cond.methodLink RX2 57 yX5_arrowCount ∈ gLW := List.mem_filter.mpr ⟨List.mem_of_getElem? (i := 514) (by decide +kernel), by decide +kernel⟩
theorem q_im_X5_arrowCount : Cond.instanceMethod yX5_arrowCount ∈ gLW := List.mem_filter.mpr ⟨List.mem_of_getElem? (i := 515) (by decide +kernel), by decide +kernel⟩
theorem q_se_X5_arrowCount : Cond.selects RX5 yX5_arrowCount yX5_arrowCount ∈ gLW := List.mem_filter.mpr ⟨List.mem_of_getElem? (i := 516) (by decide +kernel), by decide +kernel⟩
theorem q_co_X5_arrowCount : Cond.code yX5_arrowCount cX5_arrowCount 1 (some (Jvm.ClassFile.FieldType.int)) ∈ gLW := List.mem_filter.mpr ⟨List.mem_of_getElem? (i := 517) (by decide +kernel), by decide +kernel⟩
theorem q_ml_X2_60 : Cond.methodLink RX2 60 yX5_from ∈ gLW := List.mem_filter.mpr ⟨List.mem_of_getElem? (i := 518) (by decide +kernel), by decide +kernel⟩
theorem q_im_X5_from : Cond.instanceMethod yX5_from ∈ gLW := List.mem_filter.mpr ⟨List.mem_of_getElem? (i := 519) (by decide +kernel), by decide +kernel⟩
theorem q_se_X5_from : Cond.selects RX5 yX5_from yX5_from ∈ gLW := List.mem_filter.mpr ⟨List.mem_of_getElem? (i := 520) (by decide +kernel), by decide +kernel⟩
theorem q_co_X5_from : Cond.code yX5_from cX5_from 2 (some (Jvm.ClassFile.FieldType.int)) ∈ gLW := List.mem_filter.mpr ⟨List.mem_of_getElem? (i := 521) (by decide +kernel), by decide +kernel⟩
theorem q_ml_X2_63 : Cond.methodLink RX2 63 yX5_to ∈ gLW := List.mem_filter.mpr ⟨List.mem_of_getElem? (i := 522) (by decide +kernel), by decide +kernel⟩
theorem q_im_X5_to : Cond.instanceMethod yX5_to ∈ gLW := List.mem_filter.mpr ⟨List.mem_of_getElem? (i := 523) (by decide +kernel), by decide +kernel⟩
theorem q_se_X5_to : Cond.selects RX5 yX5_to yX5_to ∈ gLW := List.mem_filter.mpr ⟨List.mem_of_getElem? (i := 524) (by decide +kernel), by decide +kernel⟩
theorem q_co_X5_to : Cond.code yX5_to cX5_to 2 (some (Jvm.ClassFile.FieldType.int)) ∈ gLW := List.mem_filter.mpr ⟨List.mem_of_getElem? (i := 525) (by decide +kernel), by decide +kernel⟩
theorem q_ml_X2_66 : Cond.methodLink RX2 66 yX0_bandOf ∈ gLW := List.mem_filter.mpr ⟨List.mem_of_getElem? (i := 526) (by decide +kernel), by decide +kernel⟩
theorem q_ml_X2_71 : Cond.methodLink RX2 71 yX5_last ∈ gLW := List.mem_filter.mpr ⟨List.mem_of_getElem? (i := 527) (by decide +kernel), by decide +kernel⟩
theorem q_ml_X2_78 : Cond.methodLink RX2 78 yX6_numberAt ∈ gLW := List.mem_filter.mpr ⟨List.mem_of_getElem? (i := 529) (by decide +kernel), by decide +kernel⟩
theorem q_im_X6_numberAt : Cond.instanceMethod yX6_numberAt ∈ gLW := List.mem_filter.mpr ⟨List.mem_of_getElem? (i := 530) (by decide +kernel), by decide +kernel⟩
theorem q_se_X6_numberAt : Cond.selects RX6 yX6_numberAt yX6_numberAt ∈ gLW := List.mem_filter.mpr ⟨List.mem_of_getElem? (i := 531) (by decide +kernel), by decide +kernel⟩
theorem q_co_X6_numberAt : Cond.code yX6_numberAt cX6_numberAt 3 (some (Jvm.ClassFile.FieldType.int)) ∈ gLW := List.mem_filter.mpr ⟨List.mem_of_getElem? (i := 532) (by decide +kernel), by decide +kernel⟩
theorem q_ml_X2_81 : Cond.methodLink RX2 81 yX5_first ∈ gLW := List.mem_filter.mpr ⟨List.mem_of_getElem? (i := 533) (by decide +kernel), by decide +kernel⟩
theorem q_ml_X2_84 : Cond.methodLink RX2 84 yX4_put ∈ gLW := List.mem_filter.mpr ⟨List.mem_of_getElem? (i := 534) (by decide +kernel), by decide +kernel⟩
theorem q_ml_X2_88 : Cond.methodLink RX2 88 yX2_drawInside ∈ gLW := List.mem_filter.mpr ⟨List.mem_of_getElem? (i := 535) (by decide +kernel), by decide +kernel⟩
theorem q_im_X2_drawInside : Cond.instanceMethod yX2_drawInside ∈ gLW := List.mem_filter.mpr ⟨List.mem_of_getElem? (i := 537) (by decide +kernel), by decide +kernel⟩
theorem q_co_X2_drawInside : Cond.code yX2_drawInside cX2_drawInside 3 none ∈ gLW := List.mem_filter.mpr ⟨List.mem_of_getElem? (i := 538) (by decide +kernel), by decide +kernel⟩
theorem q_ml_X2_94 : Cond.methodLink RX2 94 yX4_increase ∈ gLW := List.mem_filter.mpr ⟨List.mem_of_getElem? (i := 539) (by decide +kernel), by decide +kernel⟩
theorem q_ml_X2_91 : Cond.methodLink RX2 91 yX2_drawThroughExit ∈ gLW := List.mem_filter.mpr ⟨List.mem_of_getElem? (i := 540) (by decide +kernel), by decide +kernel⟩
theorem q_im_X2_drawThroughExit : Cond.instanceMethod yX2_drawThroughExit ∈ gLW := List.mem_filter.mpr ⟨List.mem_of_getElem? (i := 542) (by decide +kernel), by decide +kernel⟩
theorem q_co_X2_drawThroughExit : Cond.code yX2_drawThroughExit cX2_drawThroughExit 4 none ∈ gLW := List.mem_filter.mpr ⟨List.mem_of_getElem? (i := 543) (by decide +kernel), by decide +kernel⟩
theorem q_ml_L_35 : Cond.methodLink RL 35 yL_sets ∈ gLW := List.mem_filter.mpr ⟨List.mem_of_getElem? (i := 546) (by decide +kernel), by decide +kernel⟩
theorem q_st_L_sets : Cond.static yL_sets ∈ gLW := List.mem_filter.mpr ⟨List.mem_of_getElem? (i := 547) (by decide +kernel), by decide +kernel⟩
theorem q_cw_L_sets : Cond.codeWith yL_sets cL_sets 4 (some (Jvm.ClassFile.FieldType.int)) [((0 : Nat), (6 : Nat), (7 : Nat), (71 : Nat))] ∈ gLW := List.mem_filter.mpr ⟨List.mem_of_getElem? (i := 548) (by decide +kernel), by decide +kernel⟩
theorem q_ml_L_66 : Cond.methodLink RL 66 yX8_set ∈ gLW := List.mem_filter.mpr ⟨List.mem_of_getElem? (i := 549) (by decide +kernel), by decide +kernel⟩
theorem q_im_X8_set : Cond.instanceMethod yX8_set ∈ gLW := List.mem_filter.mpr ⟨List.mem_of_getElem? (i := 550) (by decide +kernel), by decide +kernel⟩
theorem q_se_X8_set : Cond.selects RX8 yX8_set yX8_set ∈ gLW := List.mem_filter.mpr ⟨List.mem_of_getElem? (i := 551) (by decide +kernel), by decide +kernel⟩
theorem q_co_X8_set : Cond.code yX8_set cX8_set 4 (some (Jvm.ClassFile.FieldType.int)) ∈ gLW := List.mem_filter.mpr ⟨List.mem_of_getElem? (i := 552) (by decide +kernel), by decide +kernel⟩
theorem q_ml_X8_67 : Cond.methodLink RX8 67 yX8_isSetting ∈ gLW := List.mem_filter.mpr ⟨List.mem_of_getElem? (i := 553) (by decide +kernel), by decide +kernel⟩
theorem q_st_X8_isSetting : Cond.static yX8_isSetting ∈ gLW := List.mem_filter.mpr ⟨List.mem_of_getElem? (i := 554) (by decide +kernel), by decide +kernel⟩
theorem q_co_X8_isSetting : Cond.code yX8_isSetting cX8_isSetting 2 (some (Jvm.ClassFile.FieldType.boolean)) ∈ gLW := List.mem_filter.mpr ⟨List.mem_of_getElem? (i := 555) (by decide +kernel), by decide +kernel⟩
theorem q_fl_X8_315 : Cond.fieldLink RX8 315 "TaskSheets" "SMALLEST" "[I" ∈ gLW := List.mem_filter.mpr ⟨List.mem_of_getElem? (i := 556) (by decide +kernel), by decide +kernel⟩
theorem q_fl_X8_319 : Cond.fieldLink RX8 319 "TaskSheets" "GREATEST" "[I" ∈ gLW := List.mem_filter.mpr ⟨List.mem_of_getElem? (i := 558) (by decide +kernel), by decide +kernel⟩
theorem q_ml_X8_86 : Cond.methodLink RX8 86 yX5_putSetting ∈ gLW := List.mem_filter.mpr ⟨List.mem_of_getElem? (i := 561) (by decide +kernel), by decide +kernel⟩
theorem q_im_X5_putSetting : Cond.instanceMethod yX5_putSetting ∈ gLW := List.mem_filter.mpr ⟨List.mem_of_getElem? (i := 562) (by decide +kernel), by decide +kernel⟩
theorem q_se_X5_putSetting : Cond.selects RX5 yX5_putSetting yX5_putSetting ∈ gLW := List.mem_filter.mpr ⟨List.mem_of_getElem? (i := 563) (by decide +kernel), by decide +kernel⟩
theorem q_co_X5_putSetting : Cond.code yX5_putSetting cX5_putSetting 3 none ∈ gLW := List.mem_filter.mpr ⟨List.mem_of_getElem? (i := 564) (by decide +kernel), by decide +kernel⟩
theorem q_ml_L_39 : Cond.methodLink RL 39 yL_moves ∈ gLW := List.mem_filter.mpr ⟨List.mem_of_getElem? (i := 565) (by decide +kernel), by decide +kernel⟩
theorem q_st_L_moves : Cond.static yL_moves ∈ gLW := List.mem_filter.mpr ⟨List.mem_of_getElem? (i := 566) (by decide +kernel), by decide +kernel⟩
theorem q_cw_L_moves : Cond.codeWith yL_moves cL_moves 5 (some (Jvm.ClassFile.FieldType.int)) [((0 : Nat), (7 : Nat), (8 : Nat), (82 : Nat)), ((0 : Nat), (7 : Nat), (13 : Nat), (71 : Nat))] ∈ gLW := List.mem_filter.mpr ⟨List.mem_of_getElem? (i := 567) (by decide +kernel), by decide +kernel⟩
theorem q_cl_L_82 : Cond.classLink RL 82 "java/lang/IndexOutOfBoundsException" ∈ gLW := List.mem_filter.mpr ⟨List.mem_of_getElem? (i := 568) (by decide +kernel), by decide +kernel⟩
theorem q_ml_L_79 : Cond.methodLink RL 79 yX8_move ∈ gLW := List.mem_filter.mpr ⟨List.mem_of_getElem? (i := 569) (by decide +kernel), by decide +kernel⟩
theorem q_im_X8_move : Cond.instanceMethod yX8_move ∈ gLW := List.mem_filter.mpr ⟨List.mem_of_getElem? (i := 570) (by decide +kernel), by decide +kernel⟩
theorem q_se_X8_move : Cond.selects RX8 yX8_move yX8_move ∈ gLW := List.mem_filter.mpr ⟨List.mem_of_getElem? (i := 571) (by decide +kernel), by decide +kernel⟩
theorem q_co_X8_move : Cond.code yX8_move cX8_move 5 (some (Jvm.ClassFile.FieldType.int)) ∈ gLW := List.mem_filter.mpr ⟨List.mem_of_getElem? (i := 572) (by decide +kernel), by decide +kernel⟩
theorem q_ml_X8_116 : Cond.methodLink RX8 116 yX8_requireTask ∈ gLW := List.mem_filter.mpr ⟨List.mem_of_getElem? (i := 573) (by decide +kernel), by decide +kernel⟩
theorem q_im_X8_requireTask : Cond.instanceMethod yX8_requireTask ∈ gLW := List.mem_filter.mpr ⟨List.mem_of_getElem? (i := 575) (by decide +kernel), by decide +kernel⟩
theorem q_co_X8_requireTask : Cond.code yX8_requireTask cX8_requireTask 2 none ∈ gLW := List.mem_filter.mpr ⟨List.mem_of_getElem? (i := 576) (by decide +kernel), by decide +kernel⟩
theorem q_ml_X8_298 : Cond.methodLink RX8 298 yX5_hasTask ∈ gLW := List.mem_filter.mpr ⟨List.mem_of_getElem? (i := 577) (by decide +kernel), by decide +kernel⟩
theorem q_im_X5_hasTask : Cond.instanceMethod yX5_hasTask ∈ gLW := List.mem_filter.mpr ⟨List.mem_of_getElem? (i := 578) (by decide +kernel), by decide +kernel⟩
theorem q_se_X5_hasTask : Cond.selects RX5 yX5_hasTask yX5_hasTask ∈ gLW := List.mem_filter.mpr ⟨List.mem_of_getElem? (i := 579) (by decide +kernel), by decide +kernel⟩
theorem q_co_X5_hasTask : Cond.code yX5_hasTask cX5_hasTask 2 (some (Jvm.ClassFile.FieldType.boolean)) ∈ gLW := List.mem_filter.mpr ⟨List.mem_of_getElem? (i := 580) (by decide +kernel), by decide +kernel⟩
theorem q_cl_X8_186 : Cond.classLink RX8 186 "java/lang/IndexOutOfBoundsException" ∈ gLW := List.mem_filter.mpr ⟨List.mem_of_getElem? (i := 581) (by decide +kernel), by decide +kernel⟩
theorem q_ia_java_lang_IndexOutOfBoundsException : Cond.instantiable "java/lang/IndexOutOfBoundsException" 6 ∈ gLW := List.mem_filter.mpr ⟨List.mem_of_getElem? (i := 582) (by decide +kernel), by decide +kernel⟩
theorem q_ml_X8_190 : Cond.methodLink RX8 190 ⟨"java/lang/IndexOutOfBoundsException", "<init>", "(Ljava/lang/String;)V"⟩ ∈ gLW := List.mem_filter.mpr ⟨List.mem_of_getElem? (i := 591) (by decide +kernel), by decide +kernel⟩
theorem q_im_java_lang_IndexOutOfBoundsException__init___Ljava_lang_String_V : Cond.instanceMethod ⟨"java/lang/IndexOutOfBoundsException", "<init>", "(Ljava/lang/String;)V"⟩ ∈ gLW := List.mem_filter.mpr ⟨List.mem_of_getElem? (i := 592) (by decide +kernel), by decide +kernel⟩
theorem q_co_java_lang_IndexOutOfBoundsException__init___Ljava_lang_String_V : Cond.code ⟨"java/lang/IndexOutOfBoundsException", "<init>", "(Ljava/lang/String;)V"⟩ prog_15_method_2_code 2 none ∈ gLW := List.mem_filter.mpr ⟨List.mem_of_getElem? (i := 593) (by decide +kernel), by decide +kernel⟩
theorem q_ml_java_lang_IndexOutOfBoundsException_7 : Cond.methodLink "java/lang/IndexOutOfBoundsException" 7 ⟨"java/lang/RuntimeException", "<init>", "(Ljava/lang/String;)V"⟩ ∈ gLW := List.mem_filter.mpr ⟨List.mem_of_getElem? (i := 594) (by decide +kernel), by decide +kernel⟩
theorem q_ml_X8_122 : Cond.methodLink RX8 122 yX5_first ∈ gLW := List.mem_filter.mpr ⟨List.mem_of_getElem? (i := 598) (by decide +kernel), by decide +kernel⟩
theorem q_ml_X8_125 : Cond.methodLink RX8 125 yX5_putBar ∈ gLW := List.mem_filter.mpr ⟨List.mem_of_getElem? (i := 599) (by decide +kernel), by decide +kernel⟩
theorem q_ml_L_42 : Cond.methodLink RL 42 yL_unpoints ∈ gLW := List.mem_filter.mpr ⟨List.mem_of_getElem? (i := 601) (by decide +kernel), by decide +kernel⟩
theorem q_st_L_unpoints : Cond.static yL_unpoints ∈ gLW := List.mem_filter.mpr ⟨List.mem_of_getElem? (i := 602) (by decide +kernel), by decide +kernel⟩
theorem q_cw_L_unpoints : Cond.codeWith yL_unpoints cL_unpoints 3 (some (Jvm.ClassFile.FieldType.int)) [((0 : Nat), (5 : Nat), (6 : Nat), (82 : Nat))] ∈ gLW := List.mem_filter.mpr ⟨List.mem_of_getElem? (i := 603) (by decide +kernel), by decide +kernel⟩
theorem q_ml_L_91 : Cond.methodLink RL 91 yX8_removeArrow ∈ gLW := List.mem_filter.mpr ⟨List.mem_of_getElem? (i := 604) (by decide +kernel), by decide +kernel⟩
theorem q_im_X8_removeArrow : Cond.instanceMethod yX8_removeArrow ∈ gLW := List.mem_filter.mpr ⟨List.mem_of_getElem? (i := 605) (by decide +kernel), by decide +kernel⟩
theorem q_se_X8_removeArrow : Cond.selects RX8 yX8_removeArrow yX8_removeArrow ∈ gLW := List.mem_filter.mpr ⟨List.mem_of_getElem? (i := 606) (by decide +kernel), by decide +kernel⟩
theorem q_co_X8_removeArrow : Cond.code yX8_removeArrow cX8_removeArrow 2 (some (Jvm.ClassFile.FieldType.int)) ∈ gLW := List.mem_filter.mpr ⟨List.mem_of_getElem? (i := 607) (by decide +kernel), by decide +kernel⟩
theorem q_ml_X8_146 : Cond.methodLink RX8 146 yX8_requireArrow ∈ gLW := List.mem_filter.mpr ⟨List.mem_of_getElem? (i := 608) (by decide +kernel), by decide +kernel⟩
theorem q_im_X8_requireArrow : Cond.instanceMethod yX8_requireArrow ∈ gLW := List.mem_filter.mpr ⟨List.mem_of_getElem? (i := 610) (by decide +kernel), by decide +kernel⟩
theorem q_co_X8_requireArrow : Cond.code yX8_requireArrow cX8_requireArrow 2 none ∈ gLW := List.mem_filter.mpr ⟨List.mem_of_getElem? (i := 611) (by decide +kernel), by decide +kernel⟩
theorem q_ml_X8_304 : Cond.methodLink RX8 304 yX5_hasArrow ∈ gLW := List.mem_filter.mpr ⟨List.mem_of_getElem? (i := 612) (by decide +kernel), by decide +kernel⟩
theorem q_im_X5_hasArrow : Cond.instanceMethod yX5_hasArrow ∈ gLW := List.mem_filter.mpr ⟨List.mem_of_getElem? (i := 613) (by decide +kernel), by decide +kernel⟩
theorem q_se_X5_hasArrow : Cond.selects RX5 yX5_hasArrow yX5_hasArrow ∈ gLW := List.mem_filter.mpr ⟨List.mem_of_getElem? (i := 614) (by decide +kernel), by decide +kernel⟩
theorem q_co_X5_hasArrow : Cond.code yX5_hasArrow cX5_hasArrow 2 (some (Jvm.ClassFile.FieldType.boolean)) ∈ gLW := List.mem_filter.mpr ⟨List.mem_of_getElem? (i := 615) (by decide +kernel), by decide +kernel⟩
theorem q_ml_X8_149 : Cond.methodLink RX8 149 yX5_dropArrow ∈ gLW := List.mem_filter.mpr ⟨List.mem_of_getElem? (i := 617) (by decide +kernel), by decide +kernel⟩
theorem q_im_X5_dropArrow : Cond.instanceMethod yX5_dropArrow ∈ gLW := List.mem_filter.mpr ⟨List.mem_of_getElem? (i := 618) (by decide +kernel), by decide +kernel⟩
theorem q_se_X5_dropArrow : Cond.selects RX5 yX5_dropArrow yX5_dropArrow ∈ gLW := List.mem_filter.mpr ⟨List.mem_of_getElem? (i := 619) (by decide +kernel), by decide +kernel⟩
theorem q_co_X5_dropArrow : Cond.code yX5_dropArrow cX5_dropArrow 2 none ∈ gLW := List.mem_filter.mpr ⟨List.mem_of_getElem? (i := 620) (by decide +kernel), by decide +kernel⟩
theorem q_ml_X5_77 : Cond.methodLink RX5 77 yX5_hasArrow ∈ gLW := List.mem_filter.mpr ⟨List.mem_of_getElem? (i := 621) (by decide +kernel), by decide +kernel⟩
theorem q_ml_X5_80 : Cond.methodLink RX5 80 yX4_closeGap ∈ gLW := List.mem_filter.mpr ⟨List.mem_of_getElem? (i := 622) (by decide +kernel), by decide +kernel⟩
theorem q_im_X4_closeGap : Cond.instanceMethod yX4_closeGap ∈ gLW := List.mem_filter.mpr ⟨List.mem_of_getElem? (i := 623) (by decide +kernel), by decide +kernel⟩
theorem q_se_X4_closeGap : Cond.selects RX4 yX4_closeGap yX4_closeGap ∈ gLW := List.mem_filter.mpr ⟨List.mem_of_getElem? (i := 624) (by decide +kernel), by decide +kernel⟩
theorem q_co_X4_closeGap : Cond.code yX4_closeGap cX4_closeGap 3 none ∈ gLW := List.mem_filter.mpr ⟨List.mem_of_getElem? (i := 625) (by decide +kernel), by decide +kernel⟩
theorem q_ml_X8_137 : Cond.methodLink RX8 137 yX5_arrowCount ∈ gLW := List.mem_filter.mpr ⟨List.mem_of_getElem? (i := 626) (by decide +kernel), by decide +kernel⟩
theorem q_ml_L_47 : Cond.methodLink RL 47 yL_goes ∈ gLW := List.mem_filter.mpr ⟨List.mem_of_getElem? (i := 627) (by decide +kernel), by decide +kernel⟩
theorem q_st_L_goes : Cond.static yL_goes ∈ gLW := List.mem_filter.mpr ⟨List.mem_of_getElem? (i := 628) (by decide +kernel), by decide +kernel⟩
theorem q_co_L_goes : Cond.code yL_goes cL_goes 4 (some (Jvm.ClassFile.FieldType.boolean)) ∈ gLW := List.mem_filter.mpr ⟨List.mem_of_getElem? (i := 629) (by decide +kernel), by decide +kernel⟩
theorem q_ml_L_51 : Cond.methodLink RL 51 yL_drop ∈ gLW := List.mem_filter.mpr ⟨List.mem_of_getElem? (i := 630) (by decide +kernel), by decide +kernel⟩
theorem q_st_L_drop : Cond.static yL_drop ∈ gLW := List.mem_filter.mpr ⟨List.mem_of_getElem? (i := 631) (by decide +kernel), by decide +kernel⟩
theorem q_co_L_drop : Cond.code yL_drop cL_drop 4 none ∈ gLW := List.mem_filter.mpr ⟨List.mem_of_getElem? (i := 632) (by decide +kernel), by decide +kernel⟩
theorem q_ml_L_55 : Cond.methodLink RL 55 yL_drops ∈ gLW := List.mem_filter.mpr ⟨List.mem_of_getElem? (i := 633) (by decide +kernel), by decide +kernel⟩
theorem q_st_L_drops : Cond.static yL_drops ∈ gLW := List.mem_filter.mpr ⟨List.mem_of_getElem? (i := 634) (by decide +kernel), by decide +kernel⟩
theorem q_cw_L_drops : Cond.codeWith yL_drops cL_drops 3 (some (Jvm.ClassFile.FieldType.int)) [((0 : Nat), (5 : Nat), (6 : Nat), (82 : Nat))] ∈ gLW := List.mem_filter.mpr ⟨List.mem_of_getElem? (i := 635) (by decide +kernel), by decide +kernel⟩
theorem q_ml_L_84 : Cond.methodLink RL 84 yX8_removeTask ∈ gLW := List.mem_filter.mpr ⟨List.mem_of_getElem? (i := 636) (by decide +kernel), by decide +kernel⟩
theorem q_im_X8_removeTask : Cond.instanceMethod yX8_removeTask ∈ gLW := List.mem_filter.mpr ⟨List.mem_of_getElem? (i := 637) (by decide +kernel), by decide +kernel⟩
theorem q_se_X8_removeTask : Cond.selects RX8 yX8_removeTask yX8_removeTask ∈ gLW := List.mem_filter.mpr ⟨List.mem_of_getElem? (i := 638) (by decide +kernel), by decide +kernel⟩
theorem q_co_X8_removeTask : Cond.code yX8_removeTask cX8_removeTask 3 (some (Jvm.ClassFile.FieldType.int)) ∈ gLW := List.mem_filter.mpr ⟨List.mem_of_getElem? (i := 639) (by decide +kernel), by decide +kernel⟩
theorem q_ml_X8_129 : Cond.methodLink RX8 129 yX5_dropTask ∈ gLW := List.mem_filter.mpr ⟨List.mem_of_getElem? (i := 640) (by decide +kernel), by decide +kernel⟩
theorem q_im_X5_dropTask : Cond.instanceMethod yX5_dropTask ∈ gLW := List.mem_filter.mpr ⟨List.mem_of_getElem? (i := 641) (by decide +kernel), by decide +kernel⟩
theorem q_se_X5_dropTask : Cond.selects RX5 yX5_dropTask yX5_dropTask ∈ gLW := List.mem_filter.mpr ⟨List.mem_of_getElem? (i := 642) (by decide +kernel), by decide +kernel⟩
theorem q_co_X5_dropTask : Cond.code yX5_dropTask cX5_dropTask 2 (some (Jvm.ClassFile.FieldType.int)) ∈ gLW := List.mem_filter.mpr ⟨List.mem_of_getElem? (i := 643) (by decide +kernel), by decide +kernel⟩
theorem q_ml_X5_66 : Cond.methodLink RX5 66 yX5_hasTask ∈ gLW := List.mem_filter.mpr ⟨List.mem_of_getElem? (i := 644) (by decide +kernel), by decide +kernel⟩
theorem q_ml_X5_83 : Cond.methodLink RX5 83 yX5_dropArrowsOf ∈ gLW := List.mem_filter.mpr ⟨List.mem_of_getElem? (i := 645) (by decide +kernel), by decide +kernel⟩
theorem q_im_X5_dropArrowsOf : Cond.instanceMethod yX5_dropArrowsOf ∈ gLW := List.mem_filter.mpr ⟨List.mem_of_getElem? (i := 647) (by decide +kernel), by decide +kernel⟩
theorem q_co_X5_dropArrowsOf : Cond.code yX5_dropArrowsOf cX5_dropArrowsOf 6 (some (Jvm.ClassFile.FieldType.int)) ∈ gLW := List.mem_filter.mpr ⟨List.mem_of_getElem? (i := 648) (by decide +kernel), by decide +kernel⟩
theorem q_ml_X5_60 : Cond.methodLink RX5 60 yX5_from ∈ gLW := List.mem_filter.mpr ⟨List.mem_of_getElem? (i := 649) (by decide +kernel), by decide +kernel⟩
theorem q_ml_X5_54 : Cond.methodLink RX5 54 yX5_to ∈ gLW := List.mem_filter.mpr ⟨List.mem_of_getElem? (i := 650) (by decide +kernel), by decide +kernel⟩
theorem q_ml_L_58 : Cond.methodLink RL 58 yL_points ∈ gLW := List.mem_filter.mpr ⟨List.mem_of_getElem? (i := 651) (by decide +kernel), by decide +kernel⟩
theorem q_st_L_points : Cond.static yL_points ∈ gLW := List.mem_filter.mpr ⟨List.mem_of_getElem? (i := 652) (by decide +kernel), by decide +kernel⟩
theorem q_cw_L_points : Cond.codeWith yL_points cL_points 4 (some (Jvm.ClassFile.FieldType.int)) [((0 : Nat), (6 : Nat), (7 : Nat), (82 : Nat)), ((0 : Nat), (6 : Nat), (11 : Nat), (71 : Nat)), ((0 : Nat), (6 : Nat), (15 : Nat), (77 : Nat))] ∈ gLW := List.mem_filter.mpr ⟨List.mem_of_getElem? (i := 653) (by decide +kernel), by decide +kernel⟩
theorem q_ml_L_88 : Cond.methodLink RL 88 yX8_addArrow ∈ gLW := List.mem_filter.mpr ⟨List.mem_of_getElem? (i := 654) (by decide +kernel), by decide +kernel⟩
theorem q_im_X8_addArrow : Cond.instanceMethod yX8_addArrow ∈ gLW := List.mem_filter.mpr ⟨List.mem_of_getElem? (i := 655) (by decide +kernel), by decide +kernel⟩
theorem q_se_X8_addArrow : Cond.selects RX8 yX8_addArrow yX8_addArrow ∈ gLW := List.mem_filter.mpr ⟨List.mem_of_getElem? (i := 656) (by decide +kernel), by decide +kernel⟩
theorem q_co_X8_addArrow : Cond.code yX8_addArrow cX8_addArrow 4 (some (Jvm.ClassFile.FieldType.int)) ∈ gLW := List.mem_filter.mpr ⟨List.mem_of_getElem? (i := 657) (by decide +kernel), by decide +kernel⟩
theorem q_ml_X8_134 : Cond.methodLink RX8 134 yX5_hasArrowBetween ∈ gLW := List.mem_filter.mpr ⟨List.mem_of_getElem? (i := 659) (by decide +kernel), by decide +kernel⟩
theorem q_im_X5_hasArrowBetween : Cond.instanceMethod yX5_hasArrowBetween ∈ gLW := List.mem_filter.mpr ⟨List.mem_of_getElem? (i := 660) (by decide +kernel), by decide +kernel⟩
theorem q_se_X5_hasArrowBetween : Cond.selects RX5 yX5_hasArrowBetween yX5_hasArrowBetween ∈ gLW := List.mem_filter.mpr ⟨List.mem_of_getElem? (i := 661) (by decide +kernel), by decide +kernel⟩
theorem q_co_X5_hasArrowBetween : Cond.code yX5_hasArrowBetween cX5_hasArrowBetween 4 (some (Jvm.ClassFile.FieldType.boolean)) ∈ gLW := List.mem_filter.mpr ⟨List.mem_of_getElem? (i := 662) (by decide +kernel), by decide +kernel⟩
theorem q_ml_X8_142 : Cond.methodLink RX8 142 yX5_tellArrow ∈ gLW := List.mem_filter.mpr ⟨List.mem_of_getElem? (i := 664) (by decide +kernel), by decide +kernel⟩
theorem q_im_X5_tellArrow : Cond.instanceMethod yX5_tellArrow ∈ gLW := List.mem_filter.mpr ⟨List.mem_of_getElem? (i := 665) (by decide +kernel), by decide +kernel⟩
theorem q_se_X5_tellArrow : Cond.selects RX5 yX5_tellArrow yX5_tellArrow ∈ gLW := List.mem_filter.mpr ⟨List.mem_of_getElem? (i := 666) (by decide +kernel), by decide +kernel⟩
theorem q_co_X5_tellArrow : Cond.code yX5_tellArrow cX5_tellArrow 3 (some (Jvm.ClassFile.FieldType.int)) ∈ gLW := List.mem_filter.mpr ⟨List.mem_of_getElem? (i := 667) (by decide +kernel), by decide +kernel⟩
theorem q_ml_L_62 : Cond.methodLink RL 62 yL_indexOf ∈ gLW := List.mem_filter.mpr ⟨List.mem_of_getElem? (i := 668) (by decide +kernel), by decide +kernel⟩
theorem q_st_L_indexOf : Cond.static yL_indexOf ∈ gLW := List.mem_filter.mpr ⟨List.mem_of_getElem? (i := 669) (by decide +kernel), by decide +kernel⟩
theorem q_co_L_indexOf : Cond.code yL_indexOf cL_indexOf 6 (some (Jvm.ClassFile.FieldType.int)) ∈ gLW := List.mem_filter.mpr ⟨List.mem_of_getElem? (i := 670) (by decide +kernel), by decide +kernel⟩
theorem q_ml_L_142 : Cond.methodLink RL 142 yL_first ∈ gLW := List.mem_filter.mpr ⟨List.mem_of_getElem? (i := 671) (by decide +kernel), by decide +kernel⟩
theorem q_st_L_first : Cond.static yL_first ∈ gLW := List.mem_filter.mpr ⟨List.mem_of_getElem? (i := 672) (by decide +kernel), by decide +kernel⟩
theorem q_co_L_first : Cond.code yL_first cL_first 1 none ∈ gLW := List.mem_filter.mpr ⟨List.mem_of_getElem? (i := 673) (by decide +kernel), by decide +kernel⟩
theorem q_ml_L_122 : Cond.methodLink RL 122 yL_taskOf ∈ gLW := List.mem_filter.mpr ⟨List.mem_of_getElem? (i := 674) (by decide +kernel), by decide +kernel⟩
theorem q_st_L_taskOf : Cond.static yL_taskOf ∈ gLW := List.mem_filter.mpr ⟨List.mem_of_getElem? (i := 675) (by decide +kernel), by decide +kernel⟩
theorem q_cw_L_taskOf : Cond.codeWith yL_taskOf cL_taskOf 4 (some (Jvm.ClassFile.FieldType.int)) [((0 : Nat), (6 : Nat), (7 : Nat), (82 : Nat)), ((0 : Nat), (6 : Nat), (11 : Nat), (71 : Nat))] ∈ gLW := List.mem_filter.mpr ⟨List.mem_of_getElem? (i := 676) (by decide +kernel), by decide +kernel⟩
theorem q_ml_L_97 : Cond.methodLink RL 97 yX8_task ∈ gLW := List.mem_filter.mpr ⟨List.mem_of_getElem? (i := 677) (by decide +kernel), by decide +kernel⟩
theorem q_im_X8_task : Cond.instanceMethod yX8_task ∈ gLW := List.mem_filter.mpr ⟨List.mem_of_getElem? (i := 678) (by decide +kernel), by decide +kernel⟩
theorem q_se_X8_task : Cond.selects RX8 yX8_task yX8_task ∈ gLW := List.mem_filter.mpr ⟨List.mem_of_getElem? (i := 679) (by decide +kernel), by decide +kernel⟩
theorem q_co_X8_task : Cond.code yX8_task cX8_task 3 (some (Jvm.ClassFile.FieldType.int)) ∈ gLW := List.mem_filter.mpr ⟨List.mem_of_getElem? (i := 680) (by decide +kernel), by decide +kernel⟩
theorem q_ml_X8_154 : Cond.methodLink RX8 154 yX8_numberOfTask ∈ gLW := List.mem_filter.mpr ⟨List.mem_of_getElem? (i := 682) (by decide +kernel), by decide +kernel⟩
theorem q_im_X8_numberOfTask : Cond.instanceMethod yX8_numberOfTask ∈ gLW := List.mem_filter.mpr ⟨List.mem_of_getElem? (i := 684) (by decide +kernel), by decide +kernel⟩
theorem q_co_X8_numberOfTask : Cond.code yX8_numberOfTask cX8_numberOfTask 3 (some (Jvm.ClassFile.FieldType.int)) ∈ gLW := List.mem_filter.mpr ⟨List.mem_of_getElem? (i := 685) (by decide +kernel), by decide +kernel⟩
theorem q_ml_X8_326 : Cond.methodLink RX8 326 yX5_group ∈ gLW := List.mem_filter.mpr ⟨List.mem_of_getElem? (i := 686) (by decide +kernel), by decide +kernel⟩
theorem q_ml_X8_329 : Cond.methodLink RX8 329 yX5_length ∈ gLW := List.mem_filter.mpr ⟨List.mem_of_getElem? (i := 687) (by decide +kernel), by decide +kernel⟩
theorem q_im_X5_length : Cond.instanceMethod yX5_length ∈ gLW := List.mem_filter.mpr ⟨List.mem_of_getElem? (i := 688) (by decide +kernel), by decide +kernel⟩
theorem q_se_X5_length : Cond.selects RX5 yX5_length yX5_length ∈ gLW := List.mem_filter.mpr ⟨List.mem_of_getElem? (i := 689) (by decide +kernel), by decide +kernel⟩
theorem q_co_X5_length : Cond.code yX5_length cX5_length 2 (some (Jvm.ClassFile.FieldType.int)) ∈ gLW := List.mem_filter.mpr ⟨List.mem_of_getElem? (i := 690) (by decide +kernel), by decide +kernel⟩
theorem q_ml_X8_240 : Cond.methodLink RX8 240 yX5_last ∈ gLW := List.mem_filter.mpr ⟨List.mem_of_getElem? (i := 691) (by decide +kernel), by decide +kernel⟩
theorem q_ml_X8_325 : Cond.methodLink RX8 325 yX0_bandOf ∈ gLW := List.mem_filter.mpr ⟨List.mem_of_getElem? (i := 692) (by decide +kernel), by decide +kernel⟩
theorem q_ml_X8_331 : Cond.methodLink RX8 331 yX0_rowOf ∈ gLW := List.mem_filter.mpr ⟨List.mem_of_getElem? (i := 693) (by decide +kernel), by decide +kernel⟩
theorem q_im_X0_rowOf : Cond.instanceMethod yX0_rowOf ∈ gLW := List.mem_filter.mpr ⟨List.mem_of_getElem? (i := 694) (by decide +kernel), by decide +kernel⟩
theorem q_se_X0_rowOf : Cond.selects RX0 yX0_rowOf yX0_rowOf ∈ gLW := List.mem_filter.mpr ⟨List.mem_of_getElem? (i := 695) (by decide +kernel), by decide +kernel⟩
theorem q_co_X0_rowOf : Cond.code yX0_rowOf cX0_rowOf 2 (some (Jvm.ClassFile.FieldType.int)) ∈ gLW := List.mem_filter.mpr ⟨List.mem_of_getElem? (i := 696) (by decide +kernel), by decide +kernel⟩
theorem q_ml_X8_183 : Cond.methodLink RX8 183 yX8_partsOf ∈ gLW := List.mem_filter.mpr ⟨List.mem_of_getElem? (i := 697) (by decide +kernel), by decide +kernel⟩
theorem q_im_X8_partsOf : Cond.instanceMethod yX8_partsOf ∈ gLW := List.mem_filter.mpr ⟨List.mem_of_getElem? (i := 699) (by decide +kernel), by decide +kernel⟩
theorem q_co_X8_partsOf : Cond.code yX8_partsOf cX8_partsOf 3 (some (Jvm.ClassFile.FieldType.int)) ∈ gLW := List.mem_filter.mpr ⟨List.mem_of_getElem? (i := 700) (by decide +kernel), by decide +kernel⟩
theorem q_ml_X8_322 : Cond.methodLink RX8 322 yX8_stripOfDay ∈ gLW := List.mem_filter.mpr ⟨List.mem_of_getElem? (i := 701) (by decide +kernel), by decide +kernel⟩
theorem q_ml_L_158 : Cond.methodLink RL 158 yL_arrowBy ∈ gLW := List.mem_filter.mpr ⟨List.mem_of_getElem? (i := 702) (by decide +kernel), by decide +kernel⟩
theorem q_st_L_arrowBy : Cond.static yL_arrowBy ∈ gLW := List.mem_filter.mpr ⟨List.mem_of_getElem? (i := 703) (by decide +kernel), by decide +kernel⟩
theorem q_cw_L_arrowBy : Cond.codeWith yL_arrowBy cL_arrowBy 4 (some (Jvm.ClassFile.FieldType.int)) [((0 : Nat), (6 : Nat), (7 : Nat), (82 : Nat)), ((0 : Nat), (6 : Nat), (11 : Nat), (71 : Nat))] ∈ gLW := List.mem_filter.mpr ⟨List.mem_of_getElem? (i := 704) (by decide +kernel), by decide +kernel⟩
theorem q_ml_L_109 : Cond.methodLink RL 109 yX8_arrow ∈ gLW := List.mem_filter.mpr ⟨List.mem_of_getElem? (i := 705) (by decide +kernel), by decide +kernel⟩
theorem q_im_X8_arrow : Cond.instanceMethod yX8_arrow ∈ gLW := List.mem_filter.mpr ⟨List.mem_of_getElem? (i := 706) (by decide +kernel), by decide +kernel⟩
theorem q_se_X8_arrow : Cond.selects RX8 yX8_arrow yX8_arrow ∈ gLW := List.mem_filter.mpr ⟨List.mem_of_getElem? (i := 707) (by decide +kernel), by decide +kernel⟩
theorem q_co_X8_arrow : Cond.code yX8_arrow cX8_arrow 3 (some (Jvm.ClassFile.FieldType.int)) ∈ gLW := List.mem_filter.mpr ⟨List.mem_of_getElem? (i := 708) (by decide +kernel), by decide +kernel⟩
theorem q_ml_X8_198 : Cond.methodLink RX8 198 yX8_numberOfArrow ∈ gLW := List.mem_filter.mpr ⟨List.mem_of_getElem? (i := 710) (by decide +kernel), by decide +kernel⟩
theorem q_im_X8_numberOfArrow : Cond.instanceMethod yX8_numberOfArrow ∈ gLW := List.mem_filter.mpr ⟨List.mem_of_getElem? (i := 712) (by decide +kernel), by decide +kernel⟩
theorem q_co_X8_numberOfArrow : Cond.code yX8_numberOfArrow cX8_numberOfArrow 3 (some (Jvm.ClassFile.FieldType.int)) ∈ gLW := List.mem_filter.mpr ⟨List.mem_of_getElem? (i := 713) (by decide +kernel), by decide +kernel⟩
theorem q_ml_X8_237 : Cond.methodLink RX8 237 yX5_from ∈ gLW := List.mem_filter.mpr ⟨List.mem_of_getElem? (i := 714) (by decide +kernel), by decide +kernel⟩
theorem q_ml_X8_234 : Cond.methodLink RX8 234 yX5_to ∈ gLW := List.mem_filter.mpr ⟨List.mem_of_getElem? (i := 715) (by decide +kernel), by decide +kernel⟩
theorem q_ml_X8_346 : Cond.methodLink RX8 346 yX2_leavesOn ∈ gLW := List.mem_filter.mpr ⟨List.mem_of_getElem? (i := 716) (by decide +kernel), by decide +kernel⟩
theorem q_im_X2_leavesOn : Cond.instanceMethod yX2_leavesOn ∈ gLW := List.mem_filter.mpr ⟨List.mem_of_getElem? (i := 717) (by decide +kernel), by decide +kernel⟩
theorem q_se_X2_leavesOn : Cond.selects RX2 yX2_leavesOn yX2_leavesOn ∈ gLW := List.mem_filter.mpr ⟨List.mem_of_getElem? (i := 718) (by decide +kernel), by decide +kernel⟩
theorem q_co_X2_leavesOn : Cond.code yX2_leavesOn cX2_leavesOn 2 (some (Jvm.ClassFile.FieldType.int)) ∈ gLW := List.mem_filter.mpr ⟨List.mem_of_getElem? (i := 719) (by decide +kernel), by decide +kernel⟩
theorem q_ml_X2_39 : Cond.methodLink RX2 39 yX4_at ∈ gLW := List.mem_filter.mpr ⟨List.mem_of_getElem? (i := 720) (by decide +kernel), by decide +kernel⟩
theorem q_ml_X8_349 : Cond.methodLink RX8 349 yX2_arrivesOn ∈ gLW := List.mem_filter.mpr ⟨List.mem_of_getElem? (i := 721) (by decide +kernel), by decide +kernel⟩
theorem q_im_X2_arrivesOn : Cond.instanceMethod yX2_arrivesOn ∈ gLW := List.mem_filter.mpr ⟨List.mem_of_getElem? (i := 722) (by decide +kernel), by decide +kernel⟩
theorem q_se_X2_arrivesOn : Cond.selects RX2 yX2_arrivesOn yX2_arrivesOn ∈ gLW := List.mem_filter.mpr ⟨List.mem_of_getElem? (i := 723) (by decide +kernel), by decide +kernel⟩
theorem q_co_X2_arrivesOn : Cond.code yX2_arrivesOn cX2_arrivesOn 2 (some (Jvm.ClassFile.FieldType.int)) ∈ gLW := List.mem_filter.mpr ⟨List.mem_of_getElem? (i := 724) (by decide +kernel), by decide +kernel⟩
theorem q_ml_X8_352 : Cond.methodLink RX8 352 yX2_exitOf ∈ gLW := List.mem_filter.mpr ⟨List.mem_of_getElem? (i := 725) (by decide +kernel), by decide +kernel⟩
theorem q_im_X2_exitOf : Cond.instanceMethod yX2_exitOf ∈ gLW := List.mem_filter.mpr ⟨List.mem_of_getElem? (i := 726) (by decide +kernel), by decide +kernel⟩
theorem q_se_X2_exitOf : Cond.selects RX2 yX2_exitOf yX2_exitOf ∈ gLW := List.mem_filter.mpr ⟨List.mem_of_getElem? (i := 727) (by decide +kernel), by decide +kernel⟩
theorem q_co_X2_exitOf : Cond.code yX2_exitOf cX2_exitOf 2 (some (Jvm.ClassFile.FieldType.int)) ∈ gLW := List.mem_filter.mpr ⟨List.mem_of_getElem? (i := 728) (by decide +kernel), by decide +kernel⟩
theorem q_ml_X8_355 : Cond.methodLink RX8 355 yX5_isLate ∈ gLW := List.mem_filter.mpr ⟨List.mem_of_getElem? (i := 729) (by decide +kernel), by decide +kernel⟩
theorem q_im_X5_isLate : Cond.instanceMethod yX5_isLate ∈ gLW := List.mem_filter.mpr ⟨List.mem_of_getElem? (i := 730) (by decide +kernel), by decide +kernel⟩
theorem q_se_X5_isLate : Cond.selects RX5 yX5_isLate yX5_isLate ∈ gLW := List.mem_filter.mpr ⟨List.mem_of_getElem? (i := 731) (by decide +kernel), by decide +kernel⟩
theorem q_co_X5_isLate : Cond.code yX5_isLate cX5_isLate 2 (some (Jvm.ClassFile.FieldType.boolean)) ∈ gLW := List.mem_filter.mpr ⟨List.mem_of_getElem? (i := 732) (by decide +kernel), by decide +kernel⟩
theorem q_ml_X5_57 : Cond.methodLink RX5 57 yX5_first ∈ gLW := List.mem_filter.mpr ⟨List.mem_of_getElem? (i := 733) (by decide +kernel), by decide +kernel⟩
theorem q_ml_X5_63 : Cond.methodLink RX5 63 yX5_last ∈ gLW := List.mem_filter.mpr ⟨List.mem_of_getElem? (i := 734) (by decide +kernel), by decide +kernel⟩
theorem q_ml_L_146 : Cond.methodLink RL 146 yL_isSo ∈ gLW := List.mem_filter.mpr ⟨List.mem_of_getElem? (i := 735) (by decide +kernel), by decide +kernel⟩
theorem q_st_L_isSo : Cond.static yL_isSo ∈ gLW := List.mem_filter.mpr ⟨List.mem_of_getElem? (i := 736) (by decide +kernel), by decide +kernel⟩
set_option maxRecDepth 100000 in
theorem q_co_L_isSo : Cond.code yL_isSo cL_isSo 16 (some (Jvm.ClassFile.FieldType.boolean)) ∈ gLW := List.mem_filter.mpr ⟨List.mem_of_getElem? (i := 737) (by rfl), by decide +kernel⟩
theorem q_ml_L_112 : Cond.methodLink RL 112 yL_bands ∈ gLW := List.mem_filter.mpr ⟨List.mem_of_getElem? (i := 738) (by decide +kernel), by decide +kernel⟩
theorem q_st_L_bands : Cond.static yL_bands ∈ gLW := List.mem_filter.mpr ⟨List.mem_of_getElem? (i := 739) (by decide +kernel), by decide +kernel⟩
theorem q_co_L_bands : Cond.code yL_bands cL_bands 11 (some (Jvm.ClassFile.FieldType.int)) ∈ gLW := List.mem_filter.mpr ⟨List.mem_of_getElem? (i := 740) (by decide +kernel), by decide +kernel⟩
theorem q_ml_L_15 : Cond.methodLink RL 15 yL_next ∈ gLW := List.mem_filter.mpr ⟨List.mem_of_getElem? (i := 741) (by decide +kernel), by decide +kernel⟩
theorem q_st_L_next : Cond.static yL_next ∈ gLW := List.mem_filter.mpr ⟨List.mem_of_getElem? (i := 742) (by decide +kernel), by decide +kernel⟩
theorem q_co_L_next : Cond.code yL_next cL_next 6 (some (Jvm.ClassFile.FieldType.int)) ∈ gLW := List.mem_filter.mpr ⟨List.mem_of_getElem? (i := 743) (by decide +kernel), by decide +kernel⟩
theorem q_ml_L_9 : Cond.methodLink RL 9 yL_key ∈ gLW := List.mem_filter.mpr ⟨List.mem_of_getElem? (i := 744) (by decide +kernel), by decide +kernel⟩
theorem q_st_L_key : Cond.static yL_key ∈ gLW := List.mem_filter.mpr ⟨List.mem_of_getElem? (i := 745) (by decide +kernel), by decide +kernel⟩
theorem q_co_L_key : Cond.code yL_key cL_key 3 (some (Jvm.ClassFile.FieldType.int)) ∈ gLW := List.mem_filter.mpr ⟨List.mem_of_getElem? (i := 746) (by decide +kernel), by decide +kernel⟩
theorem q_ml_L_19 : Cond.methodLink RL 19 yL_size ∈ gLW := List.mem_filter.mpr ⟨List.mem_of_getElem? (i := 747) (by decide +kernel), by decide +kernel⟩
theorem q_st_L_size : Cond.static yL_size ∈ gLW := List.mem_filter.mpr ⟨List.mem_of_getElem? (i := 748) (by decide +kernel), by decide +kernel⟩
theorem q_co_L_size : Cond.code yL_size cL_size 5 (some (Jvm.ClassFile.FieldType.int)) ∈ gLW := List.mem_filter.mpr ⟨List.mem_of_getElem? (i := 749) (by decide +kernel), by decide +kernel⟩
theorem q_ml_L_116 : Cond.methodLink RL 116 yX8_bands ∈ gLW := List.mem_filter.mpr ⟨List.mem_of_getElem? (i := 750) (by decide +kernel), by decide +kernel⟩
theorem q_im_X8_bands : Cond.instanceMethod yX8_bands ∈ gLW := List.mem_filter.mpr ⟨List.mem_of_getElem? (i := 751) (by decide +kernel), by decide +kernel⟩
theorem q_se_X8_bands : Cond.selects RX8 yX8_bands yX8_bands ∈ gLW := List.mem_filter.mpr ⟨List.mem_of_getElem? (i := 752) (by decide +kernel), by decide +kernel⟩
theorem q_co_X8_bands : Cond.code yX8_bands cX8_bands 1 (some (Jvm.ClassFile.FieldType.int)) ∈ gLW := List.mem_filter.mpr ⟨List.mem_of_getElem? (i := 753) (by decide +kernel), by decide +kernel⟩
theorem q_ml_X8_157 : Cond.methodLink RX8 157 yX0_count ∈ gLW := List.mem_filter.mpr ⟨List.mem_of_getElem? (i := 754) (by decide +kernel), by decide +kernel⟩
theorem q_ml_L_119 : Cond.methodLink RL 119 yL_valueOf ∈ gLW := List.mem_filter.mpr ⟨List.mem_of_getElem? (i := 755) (by decide +kernel), by decide +kernel⟩
theorem q_st_L_valueOf : Cond.static yL_valueOf ∈ gLW := List.mem_filter.mpr ⟨List.mem_of_getElem? (i := 756) (by decide +kernel), by decide +kernel⟩
theorem q_cw_L_valueOf : Cond.codeWith yL_valueOf cL_valueOf 3 (some (Jvm.ClassFile.FieldType.int)) [((0 : Nat), (5 : Nat), (6 : Nat), (71 : Nat))] ∈ gLW := List.mem_filter.mpr ⟨List.mem_of_getElem? (i := 757) (by decide +kernel), by decide +kernel⟩
theorem q_ml_L_94 : Cond.methodLink RL 94 yX8_value ∈ gLW := List.mem_filter.mpr ⟨List.mem_of_getElem? (i := 758) (by decide +kernel), by decide +kernel⟩
theorem q_im_X8_value : Cond.instanceMethod yX8_value ∈ gLW := List.mem_filter.mpr ⟨List.mem_of_getElem? (i := 759) (by decide +kernel), by decide +kernel⟩
theorem q_se_X8_value : Cond.selects RX8 yX8_value yX8_value ∈ gLW := List.mem_filter.mpr ⟨List.mem_of_getElem? (i := 760) (by decide +kernel), by decide +kernel⟩
theorem q_co_X8_value : Cond.code yX8_value cX8_value 2 (some (Jvm.ClassFile.FieldType.int)) ∈ gLW := List.mem_filter.mpr ⟨List.mem_of_getElem? (i := 761) (by decide +kernel), by decide +kernel⟩
theorem q_ml_X8_95 : Cond.methodLink RX8 95 yX8_numberOfPlan ∈ gLW := List.mem_filter.mpr ⟨List.mem_of_getElem? (i := 763) (by decide +kernel), by decide +kernel⟩
theorem q_im_X8_numberOfPlan : Cond.instanceMethod yX8_numberOfPlan ∈ gLW := List.mem_filter.mpr ⟨List.mem_of_getElem? (i := 765) (by decide +kernel), by decide +kernel⟩
theorem q_co_X8_numberOfPlan : Cond.code yX8_numberOfPlan cX8_numberOfPlan 2 (some (Jvm.ClassFile.FieldType.int)) ∈ gLW := List.mem_filter.mpr ⟨List.mem_of_getElem? (i := 766) (by decide +kernel), by decide +kernel⟩
theorem q_ml_L_22 : Cond.methodLink RL 22 yL_last ∈ gLW := List.mem_filter.mpr ⟨List.mem_of_getElem? (i := 767) (by decide +kernel), by decide +kernel⟩
theorem q_st_L_last : Cond.static yL_last ∈ gLW := List.mem_filter.mpr ⟨List.mem_of_getElem? (i := 768) (by decide +kernel), by decide +kernel⟩
theorem q_co_L_last : Cond.code yL_last cL_last 3 (some (Jvm.ClassFile.FieldType.int)) ∈ gLW := List.mem_filter.mpr ⟨List.mem_of_getElem? (i := 769) (by decide +kernel), by decide +kernel⟩
theorem q_ml_L_125 : Cond.methodLink RL 125 yL_delayOf ∈ gLW := List.mem_filter.mpr ⟨List.mem_of_getElem? (i := 770) (by decide +kernel), by decide +kernel⟩
theorem q_st_L_delayOf : Cond.static yL_delayOf ∈ gLW := List.mem_filter.mpr ⟨List.mem_of_getElem? (i := 771) (by decide +kernel), by decide +kernel⟩
theorem q_cw_L_delayOf : Cond.codeWith yL_delayOf cL_delayOf 3 (some (Jvm.ClassFile.FieldType.int)) [((0 : Nat), (5 : Nat), (6 : Nat), (82 : Nat))] ∈ gLW := List.mem_filter.mpr ⟨List.mem_of_getElem? (i := 772) (by decide +kernel), by decide +kernel⟩
theorem q_ml_L_106 : Cond.methodLink RL 106 yX8_delay ∈ gLW := List.mem_filter.mpr ⟨List.mem_of_getElem? (i := 773) (by decide +kernel), by decide +kernel⟩
theorem q_im_X8_delay : Cond.instanceMethod yX8_delay ∈ gLW := List.mem_filter.mpr ⟨List.mem_of_getElem? (i := 774) (by decide +kernel), by decide +kernel⟩
theorem q_se_X8_delay : Cond.selects RX8 yX8_delay yX8_delay ∈ gLW := List.mem_filter.mpr ⟨List.mem_of_getElem? (i := 775) (by decide +kernel), by decide +kernel⟩
theorem q_co_X8_delay : Cond.code yX8_delay cX8_delay 4 (some (Jvm.ClassFile.FieldType.int)) ∈ gLW := List.mem_filter.mpr ⟨List.mem_of_getElem? (i := 776) (by decide +kernel), by decide +kernel⟩
theorem q_ml_X8_243 : Cond.methodLink RX8 243 yJ9_max_7cf53 ∈ gLW := List.mem_filter.mpr ⟨List.mem_of_getElem? (i := 777) (by decide +kernel), by decide +kernel⟩
theorem q_st_J9_max_7cf53 : Cond.static yJ9_max_7cf53 ∈ gLW := List.mem_filter.mpr ⟨List.mem_of_getElem? (i := 778) (by decide +kernel), by decide +kernel⟩
theorem q_co_J9_max_7cf53 : Cond.code yJ9_max_7cf53 prog_16_method_65_code 2 (some (Jvm.ClassFile.FieldType.int)) ∈ gLW := List.mem_filter.mpr ⟨List.mem_of_getElem? (i := 779) (by decide +kernel), by decide +kernel⟩
theorem q_ml_L_128 : Cond.methodLink RL 128 yL_partOf ∈ gLW := List.mem_filter.mpr ⟨List.mem_of_getElem? (i := 780) (by decide +kernel), by decide +kernel⟩
theorem q_st_L_partOf : Cond.static yL_partOf ∈ gLW := List.mem_filter.mpr ⟨List.mem_of_getElem? (i := 781) (by decide +kernel), by decide +kernel⟩
theorem q_cw_L_partOf : Cond.codeWith yL_partOf cL_partOf 5 (some (Jvm.ClassFile.FieldType.int)) [((0 : Nat), (7 : Nat), (8 : Nat), (82 : Nat)), ((0 : Nat), (7 : Nat), (13 : Nat), (71 : Nat))] ∈ gLW := List.mem_filter.mpr ⟨List.mem_of_getElem? (i := 782) (by decide +kernel), by decide +kernel⟩
theorem q_ml_L_103 : Cond.methodLink RL 103 yX8_part ∈ gLW := List.mem_filter.mpr ⟨List.mem_of_getElem? (i := 783) (by decide +kernel), by decide +kernel⟩
theorem q_im_X8_part : Cond.instanceMethod yX8_part ∈ gLW := List.mem_filter.mpr ⟨List.mem_of_getElem? (i := 784) (by decide +kernel), by decide +kernel⟩
theorem q_se_X8_part : Cond.selects RX8 yX8_part yX8_part ∈ gLW := List.mem_filter.mpr ⟨List.mem_of_getElem? (i := 785) (by decide +kernel), by decide +kernel⟩
theorem q_co_X8_part : Cond.code yX8_part cX8_part 4 (some (Jvm.ClassFile.FieldType.int)) ∈ gLW := List.mem_filter.mpr ⟨List.mem_of_getElem? (i := 786) (by decide +kernel), by decide +kernel⟩
theorem q_ml_X8_193 : Cond.methodLink RX8 193 yX8_numberOfPart ∈ gLW := List.mem_filter.mpr ⟨List.mem_of_getElem? (i := 789) (by decide +kernel), by decide +kernel⟩
theorem q_im_X8_numberOfPart : Cond.instanceMethod yX8_numberOfPart ∈ gLW := List.mem_filter.mpr ⟨List.mem_of_getElem? (i := 791) (by decide +kernel), by decide +kernel⟩
theorem q_co_X8_numberOfPart : Cond.code yX8_numberOfPart cX8_numberOfPart 9 (some (Jvm.ClassFile.FieldType.int)) ∈ gLW := List.mem_filter.mpr ⟨List.mem_of_getElem? (i := 792) (by decide +kernel), by decide +kernel⟩
theorem q_ml_X8_343 : Cond.methodLink RX8 343 yJ9_min_7cf53 ∈ gLW := List.mem_filter.mpr ⟨List.mem_of_getElem? (i := 793) (by decide +kernel), by decide +kernel⟩
theorem q_st_J9_min_7cf53 : Cond.static yJ9_min_7cf53 ∈ gLW := List.mem_filter.mpr ⟨List.mem_of_getElem? (i := 794) (by decide +kernel), by decide +kernel⟩
theorem q_co_J9_min_7cf53 : Cond.code yJ9_min_7cf53 prog_16_method_69_code 2 (some (Jvm.ClassFile.FieldType.int)) ∈ gLW := List.mem_filter.mpr ⟨List.mem_of_getElem? (i := 795) (by decide +kernel), by decide +kernel⟩
theorem q_ml_X8_180 : Cond.methodLink RX8 180 yX6_numberAt ∈ gLW := List.mem_filter.mpr ⟨List.mem_of_getElem? (i := 796) (by decide +kernel), by decide +kernel⟩
theorem q_ml_L_131 : Cond.methodLink RL 131 yL_rowOf ∈ gLW := List.mem_filter.mpr ⟨List.mem_of_getElem? (i := 797) (by decide +kernel), by decide +kernel⟩
theorem q_st_L_rowOf : Cond.static yL_rowOf ∈ gLW := List.mem_filter.mpr ⟨List.mem_of_getElem? (i := 798) (by decide +kernel), by decide +kernel⟩
theorem q_cw_L_rowOf : Cond.codeWith yL_rowOf cL_rowOf 4 (some (Jvm.ClassFile.FieldType.int)) [((0 : Nat), (6 : Nat), (7 : Nat), (82 : Nat))] ∈ gLW := List.mem_filter.mpr ⟨List.mem_of_getElem? (i := 799) (by decide +kernel), by decide +kernel⟩
theorem q_ml_L_100 : Cond.methodLink RL 100 yX8_row ∈ gLW := List.mem_filter.mpr ⟨List.mem_of_getElem? (i := 800) (by decide +kernel), by decide +kernel⟩
theorem q_im_X8_row : Cond.instanceMethod yX8_row ∈ gLW := List.mem_filter.mpr ⟨List.mem_of_getElem? (i := 801) (by decide +kernel), by decide +kernel⟩
theorem q_se_X8_row : Cond.selects RX8 yX8_row yX8_row ∈ gLW := List.mem_filter.mpr ⟨List.mem_of_getElem? (i := 802) (by decide +kernel), by decide +kernel⟩
theorem q_co_X8_row : Cond.code yX8_row cX8_row 3 (some (Jvm.ClassFile.FieldType.int)) ∈ gLW := List.mem_filter.mpr ⟨List.mem_of_getElem? (i := 803) (by decide +kernel), by decide +kernel⟩
theorem q_ml_X8_160 : Cond.methodLink RX8 160 yX8_requireBand ∈ gLW := List.mem_filter.mpr ⟨List.mem_of_getElem? (i := 804) (by decide +kernel), by decide +kernel⟩
theorem q_im_X8_requireBand : Cond.instanceMethod yX8_requireBand ∈ gLW := List.mem_filter.mpr ⟨List.mem_of_getElem? (i := 806) (by decide +kernel), by decide +kernel⟩
theorem q_co_X8_requireBand : Cond.code yX8_requireBand cX8_requireBand 2 none ∈ gLW := List.mem_filter.mpr ⟨List.mem_of_getElem? (i := 807) (by decide +kernel), by decide +kernel⟩
theorem q_ml_X8_163 : Cond.methodLink RX8 163 yX8_requireRow ∈ gLW := List.mem_filter.mpr ⟨List.mem_of_getElem? (i := 809) (by decide +kernel), by decide +kernel⟩
theorem q_im_X8_requireRow : Cond.instanceMethod yX8_requireRow ∈ gLW := List.mem_filter.mpr ⟨List.mem_of_getElem? (i := 811) (by decide +kernel), by decide +kernel⟩
theorem q_co_X8_requireRow : Cond.code yX8_requireRow cX8_requireRow 2 none ∈ gLW := List.mem_filter.mpr ⟨List.mem_of_getElem? (i := 812) (by decide +kernel), by decide +kernel⟩
theorem q_ml_X8_166 : Cond.methodLink RX8 166 yX0_content ∈ gLW := List.mem_filter.mpr ⟨List.mem_of_getElem? (i := 814) (by decide +kernel), by decide +kernel⟩
theorem q_im_X0_content : Cond.instanceMethod yX0_content ∈ gLW := List.mem_filter.mpr ⟨List.mem_of_getElem? (i := 815) (by decide +kernel), by decide +kernel⟩
theorem q_se_X0_content : Cond.selects RX0 yX0_content yX0_content ∈ gLW := List.mem_filter.mpr ⟨List.mem_of_getElem? (i := 816) (by decide +kernel), by decide +kernel⟩
theorem q_co_X0_content : Cond.code yX0_content cX0_content 3 (some (Jvm.ClassFile.FieldType.int)) ∈ gLW := List.mem_filter.mpr ⟨List.mem_of_getElem? (i := 817) (by decide +kernel), by decide +kernel⟩
theorem q_ml_L_134 : Cond.methodLink RL 134 yX8_longestChain ∈ gLW := List.mem_filter.mpr ⟨List.mem_of_getElem? (i := 818) (by decide +kernel), by decide +kernel⟩
theorem q_im_X8_longestChain : Cond.instanceMethod yX8_longestChain ∈ gLW := List.mem_filter.mpr ⟨List.mem_of_getElem? (i := 819) (by decide +kernel), by decide +kernel⟩
theorem q_se_X8_longestChain : Cond.selects RX8 yX8_longestChain yX8_longestChain ∈ gLW := List.mem_filter.mpr ⟨List.mem_of_getElem? (i := 820) (by decide +kernel), by decide +kernel⟩
theorem q_co_X8_longestChain : Cond.code yX8_longestChain cX8_longestChain 1 (some (Jvm.ClassFile.FieldType.int)) ∈ gLW := List.mem_filter.mpr ⟨List.mem_of_getElem? (i := 821) (by decide +kernel), by decide +kernel⟩
theorem q_ml_X8_248 : Cond.methodLink RX8 248 yX1_longest ∈ gLW := List.mem_filter.mpr ⟨List.mem_of_getElem? (i := 822) (by decide +kernel), by decide +kernel⟩
theorem q_im_X1_longest : Cond.instanceMethod yX1_longest ∈ gLW := List.mem_filter.mpr ⟨List.mem_of_getElem? (i := 823) (by decide +kernel), by decide +kernel⟩
theorem q_se_X1_longest : Cond.selects RX1 yX1_longest yX1_longest ∈ gLW := List.mem_filter.mpr ⟨List.mem_of_getElem? (i := 824) (by decide +kernel), by decide +kernel⟩
theorem q_co_X1_longest : Cond.code yX1_longest cX1_longest 5 (some (Jvm.ClassFile.FieldType.int)) ∈ gLW := List.mem_filter.mpr ⟨List.mem_of_getElem? (i := 825) (by decide +kernel), by decide +kernel⟩
theorem q_ml_X1_20 : Cond.methodLink RX1 20 yX5_taskCount ∈ gLW := List.mem_filter.mpr ⟨List.mem_of_getElem? (i := 826) (by decide +kernel), by decide +kernel⟩
theorem q_ml_X1_26 : Cond.methodLink RX1 26 yX4_fill ∈ gLW := List.mem_filter.mpr ⟨List.mem_of_getElem? (i := 827) (by decide +kernel), by decide +kernel⟩
theorem q_ml_X1_30 : Cond.methodLink RX1 30 yX1_growOnce ∈ gLW := List.mem_filter.mpr ⟨List.mem_of_getElem? (i := 828) (by decide +kernel), by decide +kernel⟩
theorem q_im_X1_growOnce : Cond.instanceMethod yX1_growOnce ∈ gLW := List.mem_filter.mpr ⟨List.mem_of_getElem? (i := 830) (by decide +kernel), by decide +kernel⟩
theorem q_co_X1_growOnce : Cond.code yX1_growOnce cX1_growOnce 5 (some (Jvm.ClassFile.FieldType.boolean)) ∈ gLW := List.mem_filter.mpr ⟨List.mem_of_getElem? (i := 831) (by decide +kernel), by decide +kernel⟩
theorem q_ml_X1_44 : Cond.methodLink RX1 44 yX5_arrowCount ∈ gLW := List.mem_filter.mpr ⟨List.mem_of_getElem? (i := 832) (by decide +kernel), by decide +kernel⟩
theorem q_ml_X1_47 : Cond.methodLink RX1 47 yX5_from ∈ gLW := List.mem_filter.mpr ⟨List.mem_of_getElem? (i := 833) (by decide +kernel), by decide +kernel⟩
theorem q_ml_X1_34 : Cond.methodLink RX1 34 yX4_at ∈ gLW := List.mem_filter.mpr ⟨List.mem_of_getElem? (i := 834) (by decide +kernel), by decide +kernel⟩
theorem q_ml_X1_50 : Cond.methodLink RX1 50 yX5_isLate ∈ gLW := List.mem_filter.mpr ⟨List.mem_of_getElem? (i := 835) (by decide +kernel), by decide +kernel⟩
theorem q_ml_X1_54 : Cond.methodLink RX1 54 yX5_to ∈ gLW := List.mem_filter.mpr ⟨List.mem_of_getElem? (i := 836) (by decide +kernel), by decide +kernel⟩
theorem q_ml_X1_57 : Cond.methodLink RX1 57 yX4_put ∈ gLW := List.mem_filter.mpr ⟨List.mem_of_getElem? (i := 837) (by decide +kernel), by decide +kernel⟩
theorem q_ml_X1_38 : Cond.methodLink RX1 38 yJ9_max_7cf53 ∈ gLW := List.mem_filter.mpr ⟨List.mem_of_getElem? (i := 838) (by decide +kernel), by decide +kernel⟩
theorem q_ml_L_137 : Cond.methodLink RL 137 yL_chain ∈ gLW := List.mem_filter.mpr ⟨List.mem_of_getElem? (i := 839) (by decide +kernel), by decide +kernel⟩
theorem q_st_L_chain : Cond.static yL_chain ∈ gLW := List.mem_filter.mpr ⟨List.mem_of_getElem? (i := 840) (by decide +kernel), by decide +kernel⟩
theorem q_co_L_chain : Cond.code yL_chain cL_chain 11 (some (Jvm.ClassFile.FieldType.int)) ∈ gLW := List.mem_filter.mpr ⟨List.mem_of_getElem? (i := 841) (by decide +kernel), by decide +kernel⟩
theorem q_ws_X0 : ∀ w ∈ u_ws RX0 TX0 8, w ∈ gLW := gLW_in [164, 166, 168, 170, 172, 174, 176, 178] (by decide +kernel) (by decide +kernel)
theorem q_ws_X1 : ∀ w ∈ u_ws RX1 TX1 1, w ∈ gLW := gLW_in [145] (by decide +kernel) (by decide +kernel)
theorem q_ws_X2 : ∀ w ∈ u_ws RX2 TX2 7, w ∈ gLW := gLW_in [220, 222, 224, 226, 228, 230, 232] (by decide +kernel) (by decide +kernel)
theorem q_ws_X3 : ∀ w ∈ u_ws RX3 TX3 3, w ∈ gLW := gLW_in [109, 111, 113] (by decide +kernel) (by decide +kernel)
theorem q_ws_X4 : ∀ w ∈ u_ws RX4 TX4 1, w ∈ gLW := gLW_in [62] (by decide +kernel) (by decide +kernel)
theorem q_ws_X5 : ∀ w ∈ u_ws RX5 TX5 8, w ∈ gLW := gLW_in [80, 82, 84, 86, 88, 90, 92, 94] (by decide +kernel) (by decide +kernel)
theorem q_ws_X6 : ∀ w ∈ u_ws RX6 TX6 5, w ∈ gLW := gLW_in [194, 196, 198, 200, 202] (by decide +kernel) (by decide +kernel)
theorem q_ws_X7 : ∀ w ∈ u_ws RX7 TX7 5, w ∈ gLW := gLW_in [125, 127, 129, 131, 133] (by decide +kernel) (by decide +kernel)
theorem q_ws_X8 : ∀ w ∈ u_ws RX8 TX8 10, w ∈ gLW := gLW_in [245, 247, 249, 251, 253, 255, 257, 259, 261, 263] (by decide +kernel) (by decide +kernel)
end
section
/-! THE SYSTEM'S HEAP AS ONE FUNCTION. Every cell that the class and the law's own arrays ever hold has a number; what stands in it is read off two functions: ints by cell and place, longs by cell. -/
abbrev gSt : Type := Nat → Nat → Int
abbrev gLg : Type := Nat → Int64
/-- a kind: an int array of so many; an object: its class's place, what each slot holds (another cell, an int, a long); a row of references; a long array -/
abbrev gKd : Type := Nat ⊕ ((Nat × List (Nat ⊕ Bool)) ⊕ (List Nat ⊕ Nat))
abbrev gAd : Type := (Nat → Nat) × (ClassId × ClassId × ClassId)
abbrev gI (x : Int) : Int32 := Int32.ofInt x
abbrev gR (x : Int) : Prop := -2147483648 ≤ x ∧ x ≤ 2147483647
theorem gI_add (x y : Int) : gI x + gI y = gI (x + y) := (Int32.ofInt_add x y).symm
theorem gI_sub (x y : Int) : gI x - gI y = gI (x - y) := (Int32.ofInt_sub x y).symm
theorem gI_mul (x y : Int) : gI x * gI y = gI (x * y) := (Int32.ofInt_mul x y).symm
theorem gI_t {x : Int} (h : gR x) : (gI x).toInt = x := Int32.toInt_ofInt_of_le (by have := h.1; omega) (by have := h.2; omega)
theorem gI_lt {x y : Int} (hx : gR x) (hy : gR y) : gI x < gI y ↔ x < y := by rw [Int32.lt_iff_toInt_lt, gI_t hx, gI_t hy]
theorem gI_le {x y : Int} (hx : gR x) (hy : gR y) : gI x ≤ gI y ↔ x ≤ y := by rw [Int32.le_iff_toInt_le, gI_t hx, gI_t hy]
theorem gI_eq {x y : Int} (hx : gR x) (hy : gR y) : gI x = gI y ↔ x = y := by rw [← Int32.toInt_inj, gI_t hx, gI_t hy]
theorem gI_c {x : Int} (h0 : 0 ≤ x) (h : gR x) : (gI x).toNatClampNeg = x.toNat := Int32.toNatClampNeg_ofInt_of_le (by have := h.1; omega) (by have := h.2; omega)
theorem gI_in {i : Int} {n : Nat} (h0 : 0 ≤ i) (h : i < n) (hn : n ≤ 2147483647) : vp_in (gI i) n := by
  have hr : gR i := ⟨by omega, by omega⟩
  intro q
  rcases q with q | q
  · rw [show (0 : Int32) = gI 0 from rfl, gI_lt hr (by decide)] at q
    omega
  · rw [gI_c h0 hr] at q
    omega
theorem gI_nat (n : Nat) : Int32.ofNat n = gI n := Int32.ofInt_eq_ofNat.symm
theorem gI_x (x : Int32) : x = gI x.toInt := (Int32.ofInt_toInt x).symm
theorem gR_x (x : Int32) : gR x.toInt := ⟨by have := x.le_toInt; omega, by have := x.toInt_lt; omega⟩
/-- the walks' pure side: a branch; an index; a quotient; they answer nothing where the walk couldn't go on -/
def gIf {α : Type} (p : Prop) [Decidable p] (x y : Int) (a b : Option α) : Option α := if gR x ∧ gR y then (if p then a else b) else none
def gAt {α : Type} (i : Int) (n : Nat) (a : Option α) : Option α := if 0 ≤ i ∧ i < n then a else none
def gDv {α : Type} (x y : Int) (a : Option α) : Option α := if 0 ≤ x ∧ x ≤ 2147483647 ∧ 0 < y ∧ y ≤ 2147483647 then a else none
def gBo {α : Type} (x : Int) (a : Option α) : Option α := if x = 0 ∨ x = 1 then a else none
def gRr {α : Type} (x y : Int) (a : Option α) : Option α := if gR x ∧ gR y then a else none
theorem gIf_some {α : Type} {p : Prop} [Decidable p] {x y : Int} {a b : Option α} {r : α} (h : gIf p x y a b = some r) : gR x ∧ gR y ∧ ((p ∧ a = some r) ∨ (¬ p ∧ b = some r)) := by
  unfold gIf at h
  split at h
  · rename_i hr
    refine ⟨hr.1, hr.2, ?_⟩
    split at h
    · exact Or.inl ⟨by assumption, h⟩
    · exact Or.inr ⟨by assumption, h⟩
  · cases h
theorem gAt_some {α : Type} {i : Int} {n : Nat} {a : Option α} {r : α} (h : gAt i n a = some r) : (0 ≤ i ∧ i < n) ∧ a = some r := by
  unfold gAt at h
  split at h
  · exact ⟨by assumption, h⟩
  · cases h
theorem gDv_some {α : Type} {x y : Int} {a : Option α} {r : α} (h : gDv x y a = some r) : (0 ≤ x ∧ x ≤ 2147483647 ∧ 0 < y ∧ y ≤ 2147483647) ∧ a = some r := by
  unfold gDv at h
  split at h
  · exact ⟨by assumption, h⟩
  · cases h
theorem gBo_some {α : Type} {x : Int} {a : Option α} {r : α} (h : gBo x a = some r) : (x = 0 ∨ x = 1) ∧ a = some r := by
  unfold gBo at h
  split at h
  · exact ⟨by assumption, h⟩
  · cases h
theorem gRr_some {α : Type} {x y : Int} {a : Option α} {r : α} (h : gRr x y a = some r) : (gR x ∧ gR y) ∧ a = some r := by
  unfold gRr at h
  split at h
  · exact ⟨by assumption, h⟩
  · cases h
theorem gBind_some {α β : Type} {x : Option α} {f : α → Option β} {r : β} (h : x.bind f = some r) : ∃ a, x = some a ∧ f a = some r := Option.bind_eq_some_iff.mp h
/-- one int, one long is written -/
def gUp (σ : gSt) (k i : Nat) (v : Int) : gSt := fun k' i' => if k' = k ∧ i' = i then v else σ k' i'
def gUl (μ : gLg) (k : Nat) (v : Int64) : gLg := fun k' => if k' = k then v else μ k'
def gFuel : Nat := 100000
theorem gFuel_eq : gFuel = 100000 := rfl
def gSl (ad : Nat → Nat) (σ : gSt) (μ : gLg) (k i : Nat) : Nat ⊕ Bool → Value
  | .inl j => .ref (ad j)
  | .inr false => .int (gI (σ k i))
  | .inr true => .long (μ k)
def gE (G : gAd) (σ : gSt) (μ : gLg) (k : Nat) : gKd → va_E
  | .inl n => .inl (G.2.1, n, .inl (fun i => gI (σ k i)))
  | .inr (.inl o) => .inr (o.1, o.2.mapIdx (fun i t => gSl G.1 σ μ k i t))
  | .inr (.inr (.inl rs)) => .inl (G.2.2.1, rs.length, .inr (.inr (.inr (.inr (fun i => (rs[i]?).map G.1)))))
  | .inr (.inr (.inr n)) => .inl (G.2.2.2, n, .inr (.inl (fun _ => μ k)))
def gKinds : List gKd := [.inr (.inl (8, [.inl 1, .inl 14, .inl 27, .inl 81, .inl 84, .inl 87, .inl 96, .inl 105, .inl 118, .inl 127])), .inr (.inl (5, [.inl 2, .inl 4, .inl 6, .inl 8, .inl 10, .inl 12, .inr false, .inr false])), .inr (.inl (4, [.inl 3])), .inl 4, .inr (.inl (4, [.inl 5])), .inl 24, .inr (.inl (4, [.inl 7])), .inl 24, .inr (.inl (4, [.inl 9])), .inl 24, .inr (.inl (4, [.inl 11])), .inl 30, .inr (.inl (4, [.inl 13])), .inl 30, .inr (.inl (5, [.inl 15, .inl 17, .inl 19, .inl 21, .inl 23, .inl 25, .inr false, .inr false])), .inr (.inl (4, [.inl 16])), .inl 4, .inr (.inl (4, [.inl 18])), .inl 24, .inr (.inl (4, [.inl 20])), .inl 24, .inr (.inl (4, [.inl 22])), .inl 24, .inr (.inl (4, [.inl 24])), .inl 30, .inr (.inl (4, [.inl 26])), .inl 30, .inr (.inl (3, [.inl 28, .inr false, .inr false])), .inr (.inr (.inl [29, 42, 55, 68])), .inr (.inl (5, [.inl 30, .inl 32, .inl 34, .inl 36, .inl 38, .inl 40, .inr false, .inr false])), .inr (.inl (4, [.inl 31])), .inl 4, .inr (.inl (4, [.inl 33])), .inl 24, .inr (.inl (4, [.inl 35])), .inl 24, .inr (.inl (4, [.inl 37])), .inl 24, .inr (.inl (4, [.inl 39])), .inl 30, .inr (.inl (4, [.inl 41])), .inl 30, .inr (.inl (5, [.inl 43, .inl 45, .inl 47, .inl 49, .inl 51, .inl 53, .inr false, .inr false])), .inr (.inl (4, [.inl 44])), .inl 4, .inr (.inl (4, [.inl 46])), .inl 24, .inr (.inl (4, [.inl 48])), .inl 24, .inr (.inl (4, [.inl 50])), .inl 24, .inr (.inl (4, [.inl 52])), .inl 30, .inr (.inl (4, [.inl 54])), .inl 30, .inr (.inl (5, [.inl 56, .inl 58, .inl 60, .inl 62, .inl 64, .inl 66, .inr false, .inr false])), .inr (.inl (4, [.inl 57])), .inl 4, .inr (.inl (4, [.inl 59])), .inl 24, .inr (.inl (4, [.inl 61])), .inl 24, .inr (.inl (4, [.inl 63])), .inl 24, .inr (.inl (4, [.inl 65])), .inl 30, .inr (.inl (4, [.inl 67])), .inl 30, .inr (.inl (5, [.inl 69, .inl 71, .inl 73, .inl 75, .inl 77, .inl 79, .inr false, .inr false])), .inr (.inl (4, [.inl 70])), .inl 4, .inr (.inl (4, [.inl 72])), .inl 24, .inr (.inl (4, [.inl 74])), .inl 24, .inr (.inl (4, [.inl 76])), .inl 24, .inr (.inl (4, [.inl 78])), .inl 30, .inr (.inl (4, [.inl 80])), .inl 30, .inr (.inl (7, [.inl 82, .inr false, .inr false, .inr false, .inr false])), .inr (.inl (4, [.inl 83])), .inl 150, .inr (.inl (1, [.inl 85])), .inr (.inl (4, [.inl 86])), .inl 24, .inr (.inl (0, [.inl 88, .inl 90, .inl 92, .inl 94, .inr false, .inr false, .inr false, .inr false])), .inr (.inl (4, [.inl 89])), .inl 480, .inr (.inl (4, [.inl 91])), .inl 24, .inr (.inl (4, [.inl 93])), .inl 24, .inr (.inl (4, [.inl 95])), .inl 24, .inr (.inl (6, [.inl 97, .inl 99, .inl 101, .inl 103, .inr false])), .inr (.inl (4, [.inl 98])), .inl 1248, .inr (.inl (4, [.inl 100])), .inl 1248, .inr (.inl (4, [.inl 102])), .inl 312, .inr (.inl (4, [.inl 104])), .inl 312, .inr (.inl (2, [.inl 106, .inl 108, .inl 110, .inl 112, .inl 114, .inl 116, .inr false])), .inr (.inl (4, [.inl 107])), .inl 30, .inr (.inl (4, [.inl 109])), .inl 30, .inr (.inl (4, [.inl 111])), .inl 30, .inr (.inl (4, [.inl 113])), .inl 31, .inr (.inl (4, [.inl 115])), .inl 312, .inr (.inl (4, [.inl 117])), .inl 312, .inr (.inl (0, [.inl 119, .inl 121, .inl 123, .inl 125, .inr false, .inr false, .inr false, .inr false])), .inr (.inl (4, [.inl 120])), .inl 480, .inr (.inl (4, [.inl 202])), .inl 24, .inr (.inl (4, [.inl 204])), .inl 24, .inr (.inl (4, [.inl 126])), .inl 24, .inr (.inl (6, [.inl 128, .inl 130, .inl 132, .inl 134, .inr false])), .inr (.inl (4, [.inl 129])), .inl 1248, .inr (.inl (4, [.inl 131])), .inl 1248, .inr (.inl (4, [.inl 133])), .inl 312, .inr (.inl (4, [.inl 135])), .inl 312, .inl 6, .inl 24, .inl 24, .inl 24, .inl 31]
abbrev gN : Nat := 141
theorem gN_len : gKinds.length = gN := by decide +kernel
def gStrs : List (Nat × String) := [(73, "no such setting, or a value out of its range"), (93, "no such value"), (101, "group, first day or length out of range"), (109, "there are 24 tasks"), (120, "first day or length out of range"), (132, "an arrow joins two different tasks"), (140, "there is such an arrow, or there are 30 arrows"), (152, "no such thing about a task"), (188, "no such part"), (191, "no such thing about a part"), (196, "no such thing about an arrow"), (302, "no such task"), (307, "no such arrow"), (309, "no such band"), (311, "no such row")]
def gNum (n len : Nat) : Prop := gKinds[n]? = some (.inr (.inl (4, [.inl (n + 1)]))) ∧ gKinds[n + 1]? = some (.inl len) ∧ len ≤ 2000
def gPlan (b : Nat) : Prop := gKinds[b]? = some (.inr (.inl (5, [.inl (b + 1), .inl (b + 3), .inl (b + 5), .inl (b + 7), .inl (b + 9), .inl (b + 11), .inr false, .inr false]))) ∧ gNum (b + 1) 4 ∧ gNum (b + 3) 24 ∧ gNum (b + 5) 24 ∧ gNum (b + 7) 24 ∧ gNum (b + 9) 30 ∧ gNum (b + 11) 30
theorem gPlan.k {b : Nat} (h : gPlan b) : gKinds[b]? = some (.inr (.inl (5, [.inl (b + 1), .inl (b + 3), .inl (b + 5), .inl (b + 7), .inl (b + 9), .inl (b + 11), .inr false, .inr false]))) := h.1
theorem gPlan.n0 {b : Nat} (h : gPlan b) : gNum (b + 1) 4 := h.2.1
theorem gPlan.n1 {b : Nat} (h : gPlan b) : gNum (b + 3) 24 := h.2.2.1
theorem gPlan.n2 {b : Nat} (h : gPlan b) : gNum (b + 5) 24 := h.2.2.2.1
theorem gPlan.n3 {b : Nat} (h : gPlan b) : gNum (b + 7) 24 := h.2.2.2.2.1
theorem gPlan.n4 {b : Nat} (h : gPlan b) : gNum (b + 9) 30 := h.2.2.2.2.2.1
theorem gPlan.n5 {b : Nat} (h : gPlan b) : gNum (b + 11) 30 := h.2.2.2.2.2.2
def gBands (b : Nat) : Prop := gKinds[b]? = some (.inr (.inl (0, [.inl (b + 1), .inl (b + 3), .inl (b + 5), .inl (b + 7), .inr false, .inr false, .inr false, .inr false]))) ∧ gNum (b + 1) 480 ∧ gNum (b + 3) 24 ∧ gNum (b + 5) 24 ∧ gNum (b + 7) 24
theorem gBands.k {b : Nat} (h : gBands b) : gKinds[b]? = some (.inr (.inl (0, [.inl (b + 1), .inl (b + 3), .inl (b + 5), .inl (b + 7), .inr false, .inr false, .inr false, .inr false]))) := h.1
theorem gBands.n0 {b : Nat} (h : gBands b) : gNum (b + 1) 480 := h.2.1
theorem gBands.n1 {b : Nat} (h : gBands b) : gNum (b + 3) 24 := h.2.2.1
theorem gBands.n2 {b : Nat} (h : gBands b) : gNum (b + 5) 24 := h.2.2.2.1
theorem gBands.n3 {b : Nat} (h : gBands b) : gNum (b + 7) 24 := h.2.2.2.2
def gSheets (b : Nat) : Prop := gKinds[b]? = some (.inr (.inl (6, [.inl (b + 1), .inl (b + 3), .inl (b + 5), .inl (b + 7), .inr false]))) ∧ gNum (b + 1) 1248 ∧ gNum (b + 3) 1248 ∧ gNum (b + 5) 312 ∧ gNum (b + 7) 312
theorem gSheets.k {b : Nat} (h : gSheets b) : gKinds[b]? = some (.inr (.inl (6, [.inl (b + 1), .inl (b + 3), .inl (b + 5), .inl (b + 7), .inr false]))) := h.1
theorem gSheets.n0 {b : Nat} (h : gSheets b) : gNum (b + 1) 1248 := h.2.1
theorem gSheets.n1 {b : Nat} (h : gSheets b) : gNum (b + 3) 1248 := h.2.2.1
theorem gSheets.n2 {b : Nat} (h : gSheets b) : gNum (b + 5) 312 := h.2.2.2.1
theorem gSheets.n3 {b : Nat} (h : gSheets b) : gNum (b + 7) 312 := h.2.2.2.2
def gExits (b : Nat) : Prop := gKinds[b]? = some (.inr (.inl (2, [.inl (b + 1), .inl (b + 3), .inl (b + 5), .inl (b + 7), .inl (b + 9), .inl (b + 11), .inr false]))) ∧ gNum (b + 1) 30 ∧ gNum (b + 3) 30 ∧ gNum (b + 5) 30 ∧ gNum (b + 7) 31 ∧ gNum (b + 9) 312 ∧ gNum (b + 11) 312
theorem gExits.k {b : Nat} (h : gExits b) : gKinds[b]? = some (.inr (.inl (2, [.inl (b + 1), .inl (b + 3), .inl (b + 5), .inl (b + 7), .inl (b + 9), .inl (b + 11), .inr false]))) := h.1
theorem gExits.n0 {b : Nat} (h : gExits b) : gNum (b + 1) 30 := h.2.1
theorem gExits.n1 {b : Nat} (h : gExits b) : gNum (b + 3) 30 := h.2.2.1
theorem gExits.n2 {b : Nat} (h : gExits b) : gNum (b + 5) 30 := h.2.2.2.1
theorem gExits.n3 {b : Nat} (h : gExits b) : gNum (b + 7) 31 := h.2.2.2.2.1
theorem gExits.n4 {b : Nat} (h : gExits b) : gNum (b + 9) 312 := h.2.2.2.2.2.1
theorem gExits.n5 {b : Nat} (h : gExits b) : gNum (b + 11) 312 := h.2.2.2.2.2.2
def gChains (b : Nat) : Prop := gKinds[b]? = some (.inr (.inl (1, [.inl (b + 1)]))) ∧ gNum (b + 1) 24
theorem gChains.k {b : Nat} (h : gChains b) : gKinds[b]? = some (.inr (.inl (1, [.inl (b + 1)]))) := h.1
theorem gChains.n0 {b : Nat} (h : gChains b) : gNum (b + 1) 24 := h.2
def gText (b : Nat) : Prop := gKinds[b]? = some (.inr (.inl (7, [.inl (b + 1), .inr false, .inr false, .inr false, .inr false]))) ∧ gNum (b + 1) 150
theorem gText.k {b : Nat} (h : gText b) : gKinds[b]? = some (.inr (.inl (7, [.inl (b + 1), .inr false, .inr false, .inr false, .inr false]))) := h.1
theorem gText.n0 {b : Nat} (h : gText b) : gNum (b + 1) 150 := h.2
theorem gPlan_1 : gPlan 1 := ⟨rfl, ⟨rfl, rfl, by decide⟩, ⟨rfl, rfl, by decide⟩, ⟨rfl, rfl, by decide⟩, ⟨rfl, rfl, by decide⟩, ⟨rfl, rfl, by decide⟩, ⟨rfl, rfl, by decide⟩⟩
theorem gPlan_14 : gPlan 14 := ⟨rfl, ⟨rfl, rfl, by decide⟩, ⟨rfl, rfl, by decide⟩, ⟨rfl, rfl, by decide⟩, ⟨rfl, rfl, by decide⟩, ⟨rfl, rfl, by decide⟩, ⟨rfl, rfl, by decide⟩⟩
theorem gPlan_29 : gPlan 29 := ⟨rfl, ⟨rfl, rfl, by decide⟩, ⟨rfl, rfl, by decide⟩, ⟨rfl, rfl, by decide⟩, ⟨rfl, rfl, by decide⟩, ⟨rfl, rfl, by decide⟩, ⟨rfl, rfl, by decide⟩⟩
theorem gPlan_42 : gPlan 42 := ⟨rfl, ⟨rfl, rfl, by decide⟩, ⟨rfl, rfl, by decide⟩, ⟨rfl, rfl, by decide⟩, ⟨rfl, rfl, by decide⟩, ⟨rfl, rfl, by decide⟩, ⟨rfl, rfl, by decide⟩⟩
theorem gPlan_55 : gPlan 55 := ⟨rfl, ⟨rfl, rfl, by decide⟩, ⟨rfl, rfl, by decide⟩, ⟨rfl, rfl, by decide⟩, ⟨rfl, rfl, by decide⟩, ⟨rfl, rfl, by decide⟩, ⟨rfl, rfl, by decide⟩⟩
theorem gPlan_68 : gPlan 68 := ⟨rfl, ⟨rfl, rfl, by decide⟩, ⟨rfl, rfl, by decide⟩, ⟨rfl, rfl, by decide⟩, ⟨rfl, rfl, by decide⟩, ⟨rfl, rfl, by decide⟩, ⟨rfl, rfl, by decide⟩⟩
theorem gBands_87 : gBands 87 := ⟨rfl, ⟨rfl, rfl, by decide⟩, ⟨rfl, rfl, by decide⟩, ⟨rfl, rfl, by decide⟩, ⟨rfl, rfl, by decide⟩⟩
theorem gSheets_96 : gSheets 96 := ⟨rfl, ⟨rfl, rfl, by decide⟩, ⟨rfl, rfl, by decide⟩, ⟨rfl, rfl, by decide⟩, ⟨rfl, rfl, by decide⟩⟩
theorem gSheets_127 : gSheets 127 := ⟨rfl, ⟨rfl, rfl, by decide⟩, ⟨rfl, rfl, by decide⟩, ⟨rfl, rfl, by decide⟩, ⟨rfl, rfl, by decide⟩⟩
theorem gExits_105 : gExits 105 := ⟨rfl, ⟨rfl, rfl, by decide⟩, ⟨rfl, rfl, by decide⟩, ⟨rfl, rfl, by decide⟩, ⟨rfl, rfl, by decide⟩, ⟨rfl, rfl, by decide⟩, ⟨rfl, rfl, by decide⟩⟩
theorem gChains_84 : gChains 84 := ⟨rfl, ⟨rfl, rfl, by decide⟩⟩
theorem gText_81 : gText 81 := ⟨rfl, ⟨rfl, rfl, by decide⟩⟩
def gW (G : gAd) (σ : gSt) (μ : gLg) : va_W := gKinds.mapIdx (fun k t => (G.1 k, gE G σ μ k t))
theorem gW_get {G : gAd} {σ : gSt} {μ : gLg} {k : Nat} {t : gKd} (h : gKinds[k]? = some t) : (gW G σ μ)[k]? = some (G.1 k, gE G σ μ k t) := by
  rw [gW, List.getElem?_mapIdx, h]
  rfl
theorem gW_inv {G : gAd} {σ : gSt} {μ : gLg} {k : Nat} {q : Nat × va_E} (h : (gW G σ μ)[k]? = some q) : ∃ t, gKinds[k]? = some t ∧ q = (G.1 k, gE G σ μ k t) := by
  rw [gW, List.getElem?_mapIdx] at h
  cases hk : gKinds[k]? with
  | none => rw [hk] at h; cases h
  | some t => rw [hk] at h; cases h; exact ⟨t, rfl, rfl⟩
theorem gW_set {G : gAd} {σ σ' : gSt} {μ μ' : gLg} {k : Nat} {t : gKd} {e : va_E} (ht : gKinds[k]? = some t) (he : gE G σ' μ' k t = e) (ho : ∀ (j : Nat) (t' : gKd), j ≠ k → gE G σ' μ' j t' = gE G σ μ j t') : (gW G σ μ).set k (G.1 k, e) = gW G σ' μ' := by
  apply List.ext_getElem?
  intro j
  rw [List.getElem?_set]
  by_cases hj : k = j
  · subst hj
    have hl : k < (gW G σ μ).length := by
      rw [gW, List.length_mapIdx]
      exact (List.getElem?_eq_some_iff.mp ht).1
    rw [if_pos rfl, if_pos hl, gW_get ht, he]
  · rw [if_neg hj]
    unfold gW
    rw [List.getElem?_mapIdx, List.getElem?_mapIdx]
    cases gKinds[j]? with
    | none => rfl
    | some t' =>
      show some (G.1 j, gE G σ μ j t') = some (G.1 j, gE G σ' μ' j t')
      rw [ho j t' (fun h => hj h.symm)]
theorem gE_up {G : gAd} {σ : gSt} {μ : gLg} {k i : Nat} {v : Int} (j : Nat) (t : gKd) (h : j ≠ k) : gE G (gUp σ k i v) μ j t = gE G σ μ j t := by
  have hu : ∀ i', gUp σ k i v j i' = σ j i' := fun i' => by simp [gUp, h]
  rcases t with n | o | rs | n
  · simp only [gE, hu]
  · show Sum.inr _ = Sum.inr _
    congr 2
    congr 1
    funext i' t'
    rcases t' with j' | b
    · rfl
    · cases b
      · simp only [gSl, hu]
      · rfl
  · rfl
  · rfl
theorem gE_ul {G : gAd} {σ : gSt} {μ : gLg} {k : Nat} {v : Int64} (j : Nat) (t : gKd) (h : j ≠ k) : gE G σ (gUl μ k v) j t = gE G σ μ j t := by
  have hu : gUl μ k v j = μ j := by simp [gUl, h]
  rcases t with n | o | rs | n
  · rfl
  · show Sum.inr _ = Sum.inr _
    congr 2
    congr 1
    funext i' t'
    rcases t' with j' | b
    · rfl
    · cases b
      · rfl
      · simp only [gSl, hu]
  · rfl
  · simp only [gE, hu]
theorem gFs_up {ad : Nat → Nat} {σ : gSt} {μ : gLg} {k i : Nat} {v : Int} {sl : List (Nat ⊕ Bool)} (hi : sl[i]? = some (.inr false)) : sl.mapIdx (fun i t => gSl ad (gUp σ k i v) μ k i t) = sl.mapIdx (fun i t => gSl ad (gUp σ k i v) μ k i t) := rfl
theorem gO_up {G : gAd} {σ : gSt} {μ : gLg} {k i : Nat} {v : Int} {o : Nat × List (Nat ⊕ Bool)} (hi : o.2[i]? = some (.inr false)) : gE G (gUp σ k i v) μ k (.inr (.inl o)) = .inr (o.1, (o.2.mapIdx (fun i t => gSl G.1 σ μ k i t)).set i (.int (gI v))) := by
  show Sum.inr _ = Sum.inr _
  congr 2
  apply List.ext_getElem?
  intro j
  rw [List.getElem?_set, List.getElem?_mapIdx, List.getElem?_mapIdx, List.length_mapIdx]
  have hl : i < o.2.length := (List.getElem?_eq_some_iff.mp hi).1
  by_cases hj : i = j
  · subst hj
    rw [if_pos rfl, if_pos hl, hi]
    simp [gSl, gUp]
  · rw [if_neg hj]
    cases o.2[j]? with
    | none => rfl
    | some t =>
      rcases t with j' | b
      · rfl
      · cases b
        · have : ¬ j = i := fun h => hj h.symm
          simp [gSl, gUp, this]
        · rfl
theorem gO_ul {G : gAd} {σ : gSt} {μ : gLg} {k i : Nat} {v : Int64} {o : Nat × List (Nat ⊕ Bool)} (hi : o.2[i]? = some (.inr true)) (hu : ∀ j, o.2[j]? = some (.inr true) → j = i) : gE G σ (gUl μ k v) k (.inr (.inl o)) = .inr (o.1, (o.2.mapIdx (fun i t => gSl G.1 σ μ k i t)).set i (.long v)) := by
  show Sum.inr _ = Sum.inr _
  congr 2
  apply List.ext_getElem?
  intro j
  rw [List.getElem?_set, List.getElem?_mapIdx, List.getElem?_mapIdx, List.length_mapIdx]
  have hl : i < o.2.length := (List.getElem?_eq_some_iff.mp hi).1
  by_cases hj : i = j
  · subst hj
    rw [if_pos rfl, if_pos hl, hi]
    simp [gSl, gUl]
  · rw [if_neg hj]
    cases hb : o.2[j]? with
    | none => rfl
    | some t =>
      rcases t with j' | b
      · rfl
      · cases b
        · rfl
        · exact absurd (hu j hb).symm hj
theorem gA_up {G : gAd} {σ : gSt} {μ : gLg} {k : Nat} {i : Nat} {v : Int} {n : Nat} : gE G (gUp σ k i v) μ k (.inl n) = .inl (G.2.1, n, .inl (upd (fun i => gI (σ k i)) i (gI v))) := by
  show Sum.inl _ = Sum.inl _
  congr 4
  funext j
  by_cases h : j = i
  · subst h
    simp [gUp, upd]
  · simp [gUp, upd, h]
/-- the class ids of the arrays -/
def gTys (G : gAd) : List (ClassId × FieldType) := [(G.2.1, .int), (G.2.2.1, .object "TaskSheets$Plan")]
/-- the cells of the system -/
def gA (G : gAd) : Nat → Prop := fun q => ∃ k, k < gN ∧ q = G.1 k
/-- the tables that nobody writes -/
def gTab : List (String × List Int) := [("SMALLEST", [3, 5, 0, 0]), ("GREATEST", [20, 60, 1, 1]), ("INITIAL", [8, 20, 1, 0])]
def gZt (A : Nat → Prop) (U : State) (H : Heap) (q : String × List Int) : Prop := ∃ t, va_Z "TaskSheets" q.1 "[I" (.ref t) A U H ∧ va_T .int t q.2.length (fun j => .int (gI (q.2.getD j 0))) A U H
def gNestM : List (String × Nat × MethodName × String) := [(RX8, 28, yX7_init, RX8), (RX8, 35, yX1_init, RX8), (RX8, 42, yX0_init, RX8), (RX8, 49, yX6_init, RX8), (RX8, 56, yX2_init, RX8), (RX6, 64, yX8_stripOfDay, RX8), (RX2, 74, yX8_stripOfDay, RX8)]
def gNestF : List (String × Nat × String × String × String × String) := [(RX5, 35, "TaskSheets", "INITIAL", "[I", "TaskSheets")]
def gCast : List (String × String) := [("java/lang/IllegalArgumentException", "java/lang/IllegalArgumentException"), ("java/lang/IllegalStateException", "java/lang/IllegalStateException"), ("java/lang/IndexOutOfBoundsException", "java/lang/IndexOutOfBoundsException")]
def gNoCast : List (String × String) := [("java/lang/IllegalArgumentException", "java/lang/IllegalStateException"), ("java/lang/IllegalArgumentException", "java/lang/IndexOutOfBoundsException"), ("java/lang/IllegalStateException", "java/lang/IllegalArgumentException"), ("java/lang/IllegalStateException", "java/lang/IndexOutOfBoundsException"), ("java/lang/IndexOutOfBoundsException", "java/lang/IllegalArgumentException"), ("java/lang/IndexOutOfBoundsException", "java/lang/IllegalStateException")]
def gDecl : List MethodName := [⟨"java/lang/RuntimeException", "<init>", "(Ljava/lang/String;)V"⟩, ⟨"java/lang/Exception", "<init>", "(Ljava/lang/String;)V"⟩, ⟨"java/lang/Throwable", "<init>", "(Ljava/lang/String;)V"⟩]
/-- what stands in the heap beside the system's cells: tables, the two statics of Throwable, the texts -/
def gZs (A : Nat → Prop) (U : State) (H : Heap) : Prop := (∀ q ∈ gTab, gZt A U H q) ∧ vx_Zq Bundle.tN "UNASSIGNED_STACK" Bundle.steD A U H ∧ vx_Zq Bundle.tN "SUPPRESSED_SENTINEL" Bundle.listD A U H ∧ (∀ q ∈ gStrs, ∃ a, vk_R "TaskSheets" q.1 q.2 a U) ∧ (∀ q ∈ gNestM, va_Nw (.methodLinkNest q.1 q.2.1 q.2.2.1 q.2.2.2) U) ∧ (∀ q ∈ gNestF, va_Nw (.fieldLinkNest q.1 q.2.1 q.2.2.1 q.2.2.2.1 q.2.2.2.2.1 q.2.2.2.2.2) U) ∧ (∀ q ∈ gCast, va_Nw (.castable q.1 q.2) U) ∧ (∀ q ∈ gNoCast, (Cond.castable q.1 q.2).before #[] U = false) ∧ (∀ y ∈ gDecl, va_Nw (.declares y) U)
theorem gCast_vm {a b : String} {s U : State} (hvm : s.vm.Alike U.vm) : (Cond.castable a b).before #[] U = (Cond.castable a b).before #[] s := by
  have e := Cond.onTables_vm (A := #[]) (A' := #[]) (U := U) (U' := s) U.vm (Cond.castable a b) rfl
  have h1 : U.setVm U.vm = U := rfl
  rw [h1] at e
  rw [e, Cond.castable_setVm hvm]
theorem gZs.go {A : Nat → Prop} {s U : State} {H0 H : Heap} {locs : List Loc} (h : gZs A s H0) (hS : va_S A H0 H locs) (hW : s.WarmedH U.vm) : gZs A U H := by
  have hq : ∀ a : Nat, a < H0.size → ¬ A a → H[a]? = H0[a]? := fun a h1 h2 => hS.2.1 a h1 h2
  refine ⟨fun q hm => ?_, ?_, ?_, fun q hm => ?_, fun q hm => (h.2.2.2.2.1 q hm).warmM hW, fun q hm => (h.2.2.2.2.2.1 q hm).warmF hW, fun q hm => (h.2.2.2.2.2.2.1 q hm).warmC hW, fun q hm => by rw [gCast_vm hW.alike]; exact h.2.2.2.2.2.2.2.1 q hm, fun y hm => (h.2.2.2.2.2.2.2.2 y hm).warmD hW⟩
  · obtain ⟨t, h1, h2⟩ := h.1 q hm
    exact ⟨t, (h1.moved hW.alike).kept hq, (h2.moved hW.alike).kept hq⟩
  · exact ⟨(h.2.1.1.moved hW.alike).kept hq, (h.2.1.2.moved hW.alike).kept hq⟩
  · exact ⟨(h.2.2.1.1.moved hW.alike).kept hq, (h.2.2.1.2.moved hW.alike).kept hq⟩
  · obtain ⟨a, h1⟩ := h.2.2.2.1 q hm
    exact ⟨a, h1.warm hW⟩
def gX (D : va_G) (G : gAd) (U : State) : Prop := va_K D vwCl (gTys G) U ∧ (∀ i j, i < gN → j < gN → G.1 i = G.1 j → i = j) ∧ gZs (gA G) U U.heap
def gH (D : va_G) (G : gAd) (s : State) (H : Heap) (locs : List Loc) (σ : gSt) (μ : gLg) : Prop := va_P D vwCl (gW G σ μ) H ∧ va_S (gA G) s.heap H locs
theorem gN_of {k : Nat} {t : gKd} (h : gKinds[k]? = some t) : k < gN := by
  rw [← gN_len]
  exact (List.getElem?_eq_some_iff.mp h).1
theorem gX.d {D : va_G} {G : gAd} {s : State} (hX : gX D G s) (σ : gSt) (μ : gLg) : va_D (gA G) (gW G σ μ) := by
  refine ⟨fun i j p q hi hj h => ?_, fun k q hk => ?_⟩
  · obtain ⟨ti, h1, rfl⟩ := gW_inv hi
    obtain ⟨tj, h2, rfl⟩ := gW_inv hj
    exact hX.2.1 i j (gN_of h1) (gN_of h2) h
  · obtain ⟨t, h1, rfl⟩ := gW_inv hk
    exact ⟨k, gN_of h1, rfl⟩
/-- a method's start, its end -/
def gPc (D : va_G) (G : gAd) (vs : List Value) (σ : gSt) (μ : gLg) : Array Value → State → Prop := va_Pc vs (fun U => va_P D vwCl (gW G σ μ) U.heap ∧ gX D G U)
def gB (D : va_G) (G : gAd) (σ : gSt) (μ : gLg) : Unit → State → Prop := fun _ t => va_P D vwCl (gW G σ μ) t.heap
def gQi (D : va_G) (G : gAd) (r : Int) (σ : gSt) (μ : gLg) : Array Value → State → Outcome → State → Prop := va_Qi (fun (x : Int32) (_ : Unit) => x = gI r) (gB D G σ μ) (gA G)
def gQl (D : va_G) (G : gAd) (r : Int64) (σ : gSt) (μ : gLg) : Array Value → State → Outcome → State → Prop := va_Ql (fun (x : Int64) (_ : Unit) => x = r) (gB D G σ μ) (gA G)
def gQv (D : va_G) (G : gAd) (σ : gSt) (μ : gLg) : Array Value → State → Outcome → State → Prop := va_Qv (fun (_ : Unit) => True) (gB D G σ μ) (gA G)
def gQq (D : va_G) (G : gAd) (r : Option Nat) (σ : gSt) (μ : gLg) : Array Value → State → Outcome → State → Prop := va_Qq (fun (x : Option Nat) (_ : Unit) => x = r.map G.1) (gB D G σ μ) (gA G)
theorem gX.calling {D : va_G} {G : gAd} {U : State} (g : JFrame) (mk : MethodId) (a : Array Value) (h : gX D G U) : gX D G (U.calling g mk a) := by
  refine ⟨va_K.moved (u := U) (U := U.calling g mk a) (Vm.Alike.refl U.vm) h.1, h.2.1, ?_⟩
  have h3 := h.2.2
  refine ⟨fun q hm => ?_, ⟨va_Zq.moved (u := U) (U := U.calling g mk a) (Vm.Alike.refl U.vm) h3.2.1.1, vx_L.moved (u := U) (U := U.calling g mk a) (Vm.Alike.refl U.vm) h3.2.1.2⟩, ⟨va_Zq.moved (u := U) (U := U.calling g mk a) (Vm.Alike.refl U.vm) h3.2.2.1.1, vx_L.moved (u := U) (U := U.calling g mk a) (Vm.Alike.refl U.vm) h3.2.2.1.2⟩, fun q hm => ?_, fun q hm => va_Nw.same rfl rfl (h3.2.2.2.2.1 q hm), fun q hm => va_Nw.same rfl rfl (h3.2.2.2.2.2.1 q hm), fun q hm => va_Nw.same rfl rfl (h3.2.2.2.2.2.2.1 q hm), fun q hm => by rw [gCast_vm (s := U) (U := U.calling g mk a) (Vm.Alike.refl U.vm)]; exact h3.2.2.2.2.2.2.2.1 q hm, fun y hm => va_Nw.same rfl rfl (h3.2.2.2.2.2.2.2.2 y hm)⟩
  · obtain ⟨t, h1, h2⟩ := h3.1 q hm
    exact ⟨t, va_Z.moved (u := U) (U := U.calling g mk a) (Vm.Alike.refl U.vm) h1, va_T.moved (u := U) (U := U.calling g mk a) (Vm.Alike.refl U.vm) h2⟩
  · obtain ⟨a9, h1⟩ := h3.2.2.2.1 q hm
    exact ⟨a9, vk_R.same (u := U) (U := U.calling g mk a) rfl h1⟩
theorem gPc_blind {D : va_G} {G : gAd} {vs : List Value} {σ : gSt} {μ : gLg} : FrameBlind (gPc D G vs σ μ) := by
  intro a U g mk h
  exact ⟨h.1, h.2.1, h.2.2.calling g mk a⟩
theorem gX.go {D : va_G} {G : gAd} {s U : State} {H : Heap} {locs : List Loc} (hX : gX D G s) (hS : va_S (gA G) s.heap H locs) (hU : U.heap = H) (hW : s.WarmedH U.vm) : gX D G U :=
  ⟨va_K.moved hW.alike hX.1, hX.2.1, by rw [hU]; exact hX.2.2.go hS hW⟩
/-- words: one list for all methods -/
def gWs (y : MethodName) (c : ByteArray) (n : Nat) (r : Option FieldType) : List Cond := Cond.code y c n r :: gLW
theorem gGood1 {w : Cond} (h : w ∈ gLW) (y : MethodName) (c : ByteArray) (n : Nat) (r : Option FieldType) : w ∈ gWs y c n r ∧ ((w.onTables && w.keeps) = true ∨ ∃ ty, w = .arrayClass ty) := ⟨List.mem_cons_of_mem _ h, good_of_word (gLW_good h)⟩
theorem gGood {y y' : MethodName} {c c' : ByteArray} {n n' : Nat} {r r' : Option FieldType} (h : Cond.code y' c' n' r' ∈ gLW) : GoodIn (gWs y c n r) (gWs y' c' n' r') := by
  intro w hw
  rcases List.mem_cons.mp hw with rfl | hw
  · exact gGood1 h _ _ _ _
  · exact gGood1 hw _ _ _ _
theorem gGoodV {y y' : MethodName} {c c' : ByteArray} {n n' : Nat} {r r' : Option FieldType} {own C : String} {idx : Nat} (h1 : Cond.methodLink own idx y' ∈ gLW) (h2 : Cond.instanceMethod y' ∈ gLW) (h3 : Cond.selects C y' y' ∈ gLW) (h4 : Cond.initialized C ∈ gLW) (h : Cond.code y' c' n' r' ∈ gLW) : GoodIn (gWs y c n r) (wsV own idx C y' (gWs y' c' n' r')) := by
  intro w hw
  rcases List.mem_append.mp hw with hw | hw
  · simp only [List.mem_cons, List.not_mem_nil, or_false] at hw
    rcases hw with rfl | rfl | rfl | rfl
    · exact gGood1 h1 _ _ _ _
    · exact gGood1 h2 _ _ _ _
    · exact gGood1 h3 _ _ _ _
    · exact gGood1 h4 _ _ _ _
  · exact gGood h w hw
theorem gGoodS {y y' : MethodName} {c c' : ByteArray} {n n' : Nat} {r r' : Option FieldType} {own : String} {idx : Nat} (h1 : Cond.methodLink own idx y' ∈ gLW) (h2 : Cond.static y' ∈ gLW) (h4 : Cond.initialized y'.cls ∈ gLW) (h : Cond.code y' c' n' r' ∈ gLW) : GoodIn (gWs y c n r) (va_wsS own idx y' (gWs y' c' n' r')) := by
  intro w hw
  rcases List.mem_append.mp hw with hw | hw
  · simp only [List.mem_cons, List.not_mem_nil, or_false] at hw
    rcases hw with rfl | rfl | rfl
    · exact gGood1 h1 _ _ _ _
    · exact gGood1 h2 _ _ _ _
    · exact gGood1 h4 _ _ _ _
  · exact gGood h w hw
end
section
/-! ONE ROW AN INSTRUCTION over the system's heap as one function -/
theorem q_st_mmax : Cond.static Lib.Math.max.name ∈ gLW := q_st_J9_max_7cf53
theorem q_st_mmin : Cond.static Lib.Math.min.name ∈ gLW := q_st_J9_min_7cf53
theorem q_in_java_lang_Math : Cond.initialized "java/lang/Math" ∈ gLW := q_in_J9
theorem q_co_mmax : Cond.code Lib.Math.max.name Lib.Math.max.code 2 (some .int) ∈ gLW := q_co_J9_max_7cf53
theorem q_co_mmin : Cond.code Lib.Math.min.name Lib.Math.min.code 2 (some .int) ∈ gLW := q_co_J9_min_7cf53
section GW1
variable {p : Program} {l : Launch} {e : Env} {R : Room} {s : State} {m : MethodId} {args : Array Value} {below : List Frame} {meth : Method} {c : Code} {H : Heap} {locs : List Loc} {cells slots : Nat} {Q : State → Prop}
variable {cc : ByteArray} {pc : Nat} {ls : Array Slot} {rest : List Value} {D : va_G} {G : gAd} {σ : gSt} {μ : gLg}
theorem g_iadd (hexec : p.tables.exec = Jvm.exec) (hb : c.code = cc) {x y : Int} (hdg : decode cc pc = .ok (.iadd, 1)) (k : W p l e R s m args below meth c H locs cells slots Q (F0 m (pc + 1) ls (.int (gI (x + y)) :: rest))) : W p l e R s m args below meth c H locs cells slots Q (F0 m pc ls (.int (gI y) :: .int (gI x) :: rest)) :=
  lv_iadd hexec hb hdg (by rw [gI_add]; exact k)
theorem g_isub (hexec : p.tables.exec = Jvm.exec) (hb : c.code = cc) {x y : Int} (hdg : decode cc pc = .ok (.isub, 1)) (k : W p l e R s m args below meth c H locs cells slots Q (F0 m (pc + 1) ls (.int (gI (x - y)) :: rest))) : W p l e R s m args below meth c H locs cells slots Q (F0 m pc ls (.int (gI y) :: .int (gI x) :: rest)) :=
  lv_isub hexec hb hdg (by rw [gI_sub]; exact k)
theorem g_imul (hexec : p.tables.exec = Jvm.exec) (hb : c.code = cc) {x y : Int} (hdg : decode cc pc = .ok (.imul, 1)) (k : W p l e R s m args below meth c H locs cells slots Q (F0 m (pc + 1) ls (.int (gI (x * y)) :: rest))) : W p l e R s m args below meth c H locs cells slots Q (F0 m pc ls (.int (gI y) :: .int (gI x) :: rest)) :=
  lv_imul hexec hb hdg (by rw [gI_mul]; exact k)
theorem gI_n0 {y : Int} (h : 0 < y ∧ y ≤ 2147483647) : ¬ gI y = 0 := by
  rw [show (0 : Int32) = gI 0 from rfl, gI_eq ⟨by omega, by omega⟩ (by decide)]
  omega
theorem gI_dv {x y : Int} (h : 0 ≤ x ∧ x ≤ 2147483647 ∧ 0 < y ∧ y ≤ 2147483647) : gI x / gI y = gI (x / y) := by
  obtain ⟨a, rfl⟩ := Int.eq_ofNat_of_zero_le h.1
  obtain ⟨d, rfl⟩ := Int.eq_ofNat_of_zero_le (show 0 ≤ y by omega)
  have := pk_div (a := a) (d := d) (by omega) (by omega) (by omega)
  rw [nI, nI, nI, gI_nat, gI_nat, gI_nat] at this
  rw [this, Int.natCast_ediv]
theorem g_idiv {α : Type} {a : Option α} {r : α} (hexec : p.tables.exec = Jvm.exec) (hb : c.code = cc) {x y : Int} (hdg : decode cc pc = .ok (.idiv, 1)) (h : gDv x y a = some r) (k : a = some r → W p l e R s m args below meth c H locs cells slots Q (F0 m (pc + 1) ls (.int (gI (x / y)) :: rest))) : W p l e R s m args below meth c H locs cells slots Q (F0 m pc ls (.int (gI y) :: .int (gI x) :: rest)) := by
  obtain ⟨h1, h2⟩ := gDv_some h
  refine lv_idiv hexec hb hdg (gI_n0 h1.2.2) ?_
  rw [gI_dv h1]
  exact k h2
theorem g_irem {α : Type} {a : Option α} {r : α} (hexec : p.tables.exec = Jvm.exec) (hb : c.code = cc) {x y : Int} (hdg : decode cc pc = .ok (.irem, 1)) (h : gDv x y a = some r) (k : a = some r → W p l e R s m args below meth c H locs cells slots Q (F0 m (pc + 1) ls (.int (gI (x % y)) :: rest))) : W p l e R s m args below meth c H locs cells slots Q (F0 m pc ls (.int (gI y) :: .int (gI x) :: rest)) := by
  obtain ⟨h1, h2⟩ := gDv_some h
  refine lv_irem hexec hb hdg (gI_n0 h1.2.2) ?_
  rw [gI_dv h1, gI_mul, gI_sub, show x - x / y * y = x % y by rw [Int.mul_comm]; have := Int.mul_ediv_add_emod x y; omega]
  exact k h2
theorem g_iinc (hexec : p.tables.exec = Jvm.exec) (hb : c.code = cc) {i nL k : Nat} {n : Int} {x : Int} {lv lv' : List (Nat × Value)} (hdg : decode cc pc = .ok (.iinc i n, 3)) (h : lv_has ls nL lv) (hk : lv[k]? = some (i, .int (gI x))) (hn : i < nL) (hl : (i, Value.int (gI (x + n))) :: lv.filter (fun q => !(q.1 == i) && !(q.1 + 1 == i && q.2.category == 2)) = lv') (kk : ∀ ls', lv_has ls' nL lv' → W p l e R s m args below meth c H locs cells slots Q (F0 m (pc + 3) ls' rest)) : W p l e R s m args below meth c H locs cells slots Q (F0 m pc ls rest) :=
  lv_iinc (v := gI (x + n)) hexec hb hdg h hk (by rw [show Int32.ofInt n = gI n from rfl, gI_add]) hn hl kk
theorem gI_lit : (0 : Int32) = gI 0 := rfl
theorem g_if_eq {α : Type} {a b : Option α} {r : α} (hexec : p.tables.exec = Jvm.exec) (hb : c.code = cc) {x : Int} {off : Int} {tgt : Nat} (hdg : decode cc pc = .ok (.ifCond .eq off, 3)) (ht : (pc : Int) + off = (tgt : Int)) (h : gIf (x = 0) x 0 a b = some r)
    (kt : a = some r → W p l e R s m args below meth c H locs cells slots Q (F0 m tgt ls rest)) (kf : b = some r → W p l e R s m args below meth c H locs cells slots Q (F0 m (pc + 3) ls rest)) : W p l e R s m args below meth c H locs cells slots Q (F0 m pc ls (.int (gI x) :: rest)) := by
  obtain ⟨hx, hy, h⟩ := gIf_some h
  refine lv_if_eq hexec hb hdg ht (fun c1 => ?_) (fun c1 => ?_)
  · rw [gI_lit, gI_eq hx hy] at c1
    rcases h with ⟨-, h⟩ | ⟨h0, -⟩
    · exact kt h
    · exact absurd c1 h0
  · rw [gI_lit, gI_eq hx hy] at c1
    rcases h with ⟨h0, -⟩ | ⟨-, h⟩
    · exact absurd h0 c1
    · exact kf h
theorem g_if_ne {α : Type} {a b : Option α} {r : α} (hexec : p.tables.exec = Jvm.exec) (hb : c.code = cc) {x : Int} {off : Int} {tgt : Nat} (hdg : decode cc pc = .ok (.ifCond .ne off, 3)) (ht : (pc : Int) + off = (tgt : Int)) (h : gIf (x = 0) x 0 b a = some r)
    (kt : a = some r → W p l e R s m args below meth c H locs cells slots Q (F0 m tgt ls rest)) (kf : b = some r → W p l e R s m args below meth c H locs cells slots Q (F0 m (pc + 3) ls rest)) : W p l e R s m args below meth c H locs cells slots Q (F0 m pc ls (.int (gI x) :: rest)) := by
  obtain ⟨hx, hy, h⟩ := gIf_some h
  refine lv_if_ne hexec hb hdg ht (fun c1 => ?_) (fun c1 => ?_)
  · rw [gI_lit, gI_eq hx hy] at c1
    rcases h with ⟨h0, -⟩ | ⟨-, h⟩
    · exact absurd h0 c1
    · exact kt h
  · rw [gI_lit, gI_eq hx hy] at c1
    rcases h with ⟨-, h⟩ | ⟨h0, -⟩
    · exact kf h
    · exact absurd c1 h0
theorem g_icmp_eq {α : Type} {a b : Option α} {r : α} (hexec : p.tables.exec = Jvm.exec) (hb : c.code = cc) {x y : Int} {off : Int} {tgt : Nat} (hdg : decode cc pc = .ok (.if_icmp .eq off, 3)) (ht : (pc : Int) + off = (tgt : Int)) (h : gIf (x = y) x y a b = some r)
    (kt : a = some r → W p l e R s m args below meth c H locs cells slots Q (F0 m tgt ls rest)) (kf : b = some r → W p l e R s m args below meth c H locs cells slots Q (F0 m (pc + 3) ls rest)) : W p l e R s m args below meth c H locs cells slots Q (F0 m pc ls (.int (gI y) :: .int (gI x) :: rest)) := by
  obtain ⟨hx, hy, h⟩ := gIf_some h
  refine lv_icmp_eq hexec hb hdg ht (fun c1 => ?_) (fun c1 => ?_)
  · rw [gI_eq hx hy] at c1
    rcases h with ⟨-, h⟩ | ⟨h0, -⟩
    · exact kt h
    · exact absurd c1 h0
  · rw [gI_eq hx hy] at c1
    rcases h with ⟨h0, -⟩ | ⟨-, h⟩
    · exact absurd h0 c1
    · exact kf h
theorem g_icmp_ne {α : Type} {a b : Option α} {r : α} (hexec : p.tables.exec = Jvm.exec) (hb : c.code = cc) {x y : Int} {off : Int} {tgt : Nat} (hdg : decode cc pc = .ok (.if_icmp .ne off, 3)) (ht : (pc : Int) + off = (tgt : Int)) (h : gIf (x = y) x y b a = some r)
    (kt : a = some r → W p l e R s m args below meth c H locs cells slots Q (F0 m tgt ls rest)) (kf : b = some r → W p l e R s m args below meth c H locs cells slots Q (F0 m (pc + 3) ls rest)) : W p l e R s m args below meth c H locs cells slots Q (F0 m pc ls (.int (gI y) :: .int (gI x) :: rest)) := by
  obtain ⟨hx, hy, h⟩ := gIf_some h
  refine lv_icmp_ne hexec hb hdg ht (fun c1 => ?_) (fun c1 => ?_)
  · rw [gI_eq hx hy] at c1
    rcases h with ⟨h0, -⟩ | ⟨-, h⟩
    · exact absurd h0 c1
    · exact kt h
  · rw [gI_eq hx hy] at c1
    rcases h with ⟨-, h⟩ | ⟨h0, -⟩
    · exact kf h
    · exact absurd c1 h0
theorem g_if_lt {α : Type} {a b : Option α} {r : α} (hexec : p.tables.exec = Jvm.exec) (hb : c.code = cc) {x : Int} {off : Int} {tgt : Nat} (hdg : decode cc pc = .ok (.ifCond .lt off, 3)) (ht : (pc : Int) + off = (tgt : Int)) (h : gIf (x < 0) x 0 a b = some r)
    (kt : a = some r → W p l e R s m args below meth c H locs cells slots Q (F0 m tgt ls rest)) (kf : b = some r → W p l e R s m args below meth c H locs cells slots Q (F0 m (pc + 3) ls rest)) : W p l e R s m args below meth c H locs cells slots Q (F0 m pc ls (.int (gI x) :: rest)) := by
  obtain ⟨hx, hy, h⟩ := gIf_some h
  refine lv_if_lt hexec hb hdg ht (fun c1 => ?_) (fun c1 => ?_)
  · rw [gI_lit, gI_lt hx hy] at c1
    rcases h with ⟨h0, h⟩ | ⟨h0, h⟩
    · exact kt h
    · exact absurd (by omega) h0
  · rw [gI_lit, gI_lt hx hy] at c1
    rcases h with ⟨h0, h⟩ | ⟨h0, h⟩
    · exact absurd h0 (by omega)
    · exact kf h
theorem g_icmp_lt {α : Type} {a b : Option α} {r : α} (hexec : p.tables.exec = Jvm.exec) (hb : c.code = cc) {x y : Int} {off : Int} {tgt : Nat} (hdg : decode cc pc = .ok (.if_icmp .lt off, 3)) (ht : (pc : Int) + off = (tgt : Int)) (h : gIf (x < y) x y a b = some r)
    (kt : a = some r → W p l e R s m args below meth c H locs cells slots Q (F0 m tgt ls rest)) (kf : b = some r → W p l e R s m args below meth c H locs cells slots Q (F0 m (pc + 3) ls rest)) : W p l e R s m args below meth c H locs cells slots Q (F0 m pc ls (.int (gI y) :: .int (gI x) :: rest)) := by
  obtain ⟨hx, hy, h⟩ := gIf_some h
  refine lv_icmp_lt hexec hb hdg ht (fun c1 => ?_) (fun c1 => ?_)
  · rw [gI_lt hx hy] at c1
    rcases h with ⟨h0, h⟩ | ⟨h0, h⟩
    · exact kt h
    · exact absurd (by omega) h0
  · rw [gI_lt hx hy] at c1
    rcases h with ⟨h0, h⟩ | ⟨h0, h⟩
    · exact absurd h0 (by omega)
    · exact kf h
theorem g_if_ge {α : Type} {a b : Option α} {r : α} (hexec : p.tables.exec = Jvm.exec) (hb : c.code = cc) {x : Int} {off : Int} {tgt : Nat} (hdg : decode cc pc = .ok (.ifCond .ge off, 3)) (ht : (pc : Int) + off = (tgt : Int)) (h : gIf (x < 0) x 0 b a = some r)
    (kt : a = some r → W p l e R s m args below meth c H locs cells slots Q (F0 m tgt ls rest)) (kf : b = some r → W p l e R s m args below meth c H locs cells slots Q (F0 m (pc + 3) ls rest)) : W p l e R s m args below meth c H locs cells slots Q (F0 m pc ls (.int (gI x) :: rest)) := by
  obtain ⟨hx, hy, h⟩ := gIf_some h
  refine lv_if_ge hexec hb hdg ht (fun c1 => ?_) (fun c1 => ?_)
  · rw [gI_lit, gI_le hy hx] at c1
    rcases h with ⟨h0, h⟩ | ⟨h0, h⟩
    · exact absurd h0 (by omega)
    · exact kt h
  · rw [gI_lit, gI_le hy hx] at c1
    rcases h with ⟨h0, h⟩ | ⟨h0, h⟩
    · exact kf h
    · exact absurd (by omega) h0
theorem g_icmp_ge {α : Type} {a b : Option α} {r : α} (hexec : p.tables.exec = Jvm.exec) (hb : c.code = cc) {x y : Int} {off : Int} {tgt : Nat} (hdg : decode cc pc = .ok (.if_icmp .ge off, 3)) (ht : (pc : Int) + off = (tgt : Int)) (h : gIf (x < y) x y b a = some r)
    (kt : a = some r → W p l e R s m args below meth c H locs cells slots Q (F0 m tgt ls rest)) (kf : b = some r → W p l e R s m args below meth c H locs cells slots Q (F0 m (pc + 3) ls rest)) : W p l e R s m args below meth c H locs cells slots Q (F0 m pc ls (.int (gI y) :: .int (gI x) :: rest)) := by
  obtain ⟨hx, hy, h⟩ := gIf_some h
  refine lv_icmp_ge hexec hb hdg ht (fun c1 => ?_) (fun c1 => ?_)
  · rw [gI_le hy hx] at c1
    rcases h with ⟨h0, h⟩ | ⟨h0, h⟩
    · exact absurd h0 (by omega)
    · exact kt h
  · rw [gI_le hy hx] at c1
    rcases h with ⟨h0, h⟩ | ⟨h0, h⟩
    · exact kf h
    · exact absurd (by omega) h0
theorem g_if_gt {α : Type} {a b : Option α} {r : α} (hexec : p.tables.exec = Jvm.exec) (hb : c.code = cc) {x : Int} {off : Int} {tgt : Nat} (hdg : decode cc pc = .ok (.ifCond .gt off, 3)) (ht : (pc : Int) + off = (tgt : Int)) (h : gIf (0 < x) x 0 a b = some r)
    (kt : a = some r → W p l e R s m args below meth c H locs cells slots Q (F0 m tgt ls rest)) (kf : b = some r → W p l e R s m args below meth c H locs cells slots Q (F0 m (pc + 3) ls rest)) : W p l e R s m args below meth c H locs cells slots Q (F0 m pc ls (.int (gI x) :: rest)) := by
  obtain ⟨hx, hy, h⟩ := gIf_some h
  refine lv_if_gt hexec hb hdg ht (fun c1 => ?_) (fun c1 => ?_)
  · rw [gI_lit, gI_lt hy hx] at c1
    rcases h with ⟨h0, h⟩ | ⟨h0, h⟩
    · exact kt h
    · exact absurd (by omega) h0
  · rw [gI_lit, gI_lt hy hx] at c1
    rcases h with ⟨h0, h⟩ | ⟨h0, h⟩
    · exact absurd h0 (by omega)
    · exact kf h
theorem g_icmp_gt {α : Type} {a b : Option α} {r : α} (hexec : p.tables.exec = Jvm.exec) (hb : c.code = cc) {x y : Int} {off : Int} {tgt : Nat} (hdg : decode cc pc = .ok (.if_icmp .gt off, 3)) (ht : (pc : Int) + off = (tgt : Int)) (h : gIf (y < x) x y a b = some r)
    (kt : a = some r → W p l e R s m args below meth c H locs cells slots Q (F0 m tgt ls rest)) (kf : b = some r → W p l e R s m args below meth c H locs cells slots Q (F0 m (pc + 3) ls rest)) : W p l e R s m args below meth c H locs cells slots Q (F0 m pc ls (.int (gI y) :: .int (gI x) :: rest)) := by
  obtain ⟨hx, hy, h⟩ := gIf_some h
  refine lv_icmp_gt hexec hb hdg ht (fun c1 => ?_) (fun c1 => ?_)
  · rw [gI_lt hy hx] at c1
    rcases h with ⟨h0, h⟩ | ⟨h0, h⟩
    · exact kt h
    · exact absurd (by omega) h0
  · rw [gI_lt hy hx] at c1
    rcases h with ⟨h0, h⟩ | ⟨h0, h⟩
    · exact absurd h0 (by omega)
    · exact kf h
theorem g_if_le {α : Type} {a b : Option α} {r : α} (hexec : p.tables.exec = Jvm.exec) (hb : c.code = cc) {x : Int} {off : Int} {tgt : Nat} (hdg : decode cc pc = .ok (.ifCond .le off, 3)) (ht : (pc : Int) + off = (tgt : Int)) (h : gIf (0 < x) x 0 b a = some r)
    (kt : a = some r → W p l e R s m args below meth c H locs cells slots Q (F0 m tgt ls rest)) (kf : b = some r → W p l e R s m args below meth c H locs cells slots Q (F0 m (pc + 3) ls rest)) : W p l e R s m args below meth c H locs cells slots Q (F0 m pc ls (.int (gI x) :: rest)) := by
  obtain ⟨hx, hy, h⟩ := gIf_some h
  refine lv_if_le hexec hb hdg ht (fun c1 => ?_) (fun c1 => ?_)
  · rw [gI_lit, gI_le hx hy] at c1
    rcases h with ⟨h0, h⟩ | ⟨h0, h⟩
    · exact absurd h0 (by omega)
    · exact kt h
  · rw [gI_lit, gI_le hx hy] at c1
    rcases h with ⟨h0, h⟩ | ⟨h0, h⟩
    · exact kf h
    · exact absurd (by omega) h0
theorem g_icmp_le {α : Type} {a b : Option α} {r : α} (hexec : p.tables.exec = Jvm.exec) (hb : c.code = cc) {x y : Int} {off : Int} {tgt : Nat} (hdg : decode cc pc = .ok (.if_icmp .le off, 3)) (ht : (pc : Int) + off = (tgt : Int)) (h : gIf (y < x) x y b a = some r)
    (kt : a = some r → W p l e R s m args below meth c H locs cells slots Q (F0 m tgt ls rest)) (kf : b = some r → W p l e R s m args below meth c H locs cells slots Q (F0 m (pc + 3) ls rest)) : W p l e R s m args below meth c H locs cells slots Q (F0 m pc ls (.int (gI y) :: .int (gI x) :: rest)) := by
  obtain ⟨hx, hy, h⟩ := gIf_some h
  refine lv_icmp_le hexec hb hdg ht (fun c1 => ?_) (fun c1 => ?_)
  · rw [gI_le hx hy] at c1
    rcases h with ⟨h0, h⟩ | ⟨h0, h⟩
    · exact absurd h0 (by omega)
    · exact kt h
  · rw [gI_le hx hy] at c1
    rcases h with ⟨h0, h⟩ | ⟨h0, h⟩
    · exact kf h
    · exact absurd (by omega) h0
/-- a switch by a table -/
theorem g_tabIn (hexec : p.tables.exec = Jvm.exec) (hb : c.code = cc) {dflt lo hi : Int} {offs : Array Int} {len : Nat} {x i : Int} {off : Int} {tgt : Nat} (hdg : decode cc pc = .ok (.tableswitch dflt lo hi offs, len)) (hxi : x = i) (hR : gR i) (h1 : ¬ i < lo) (h2 : ¬ hi < i) (ho : offs[(i - lo).toNat]? = some off) (ht : (pc : Int) + off = (tgt : Int))
    (k : W p l e R s m args below meth c H locs cells slots Q (F0 m tgt ls rest)) : W p l e R s m args below meth c H locs cells slots Q (F0 m pc ls (.int (gI x) :: rest)) := by
  subst hxi
  exact lv_tableIn hexec hb hdg (by rw [gI_t hR]; exact h1) (by rw [gI_t hR]; exact h2) (by rw [gI_t hR]; exact ho) ht k
theorem g_tabOut (hexec : p.tables.exec = Jvm.exec) (hb : c.code = cc) {dflt lo hi : Int} {offs : Array Int} {len : Nat} {x : Int} {tgt : Nat} (hdg : decode cc pc = .ok (.tableswitch dflt lo hi offs, len)) (hR : gR x) (h : x < lo ∨ hi < x) (ht : (pc : Int) + dflt = (tgt : Int))
    (k : W p l e R s m args below meth c H locs cells slots Q (F0 m tgt ls rest)) : W p l e R s m args below meth c H locs cells slots Q (F0 m pc ls (.int (gI x) :: rest)) :=
  lv_tableOut hexec hb hdg (by rw [gI_t hR]; exact h) ht k
/-- fields -/
theorem g_getR (hexec : p.tables.exec = Jvm.exec) (hb : c.code = cc) {own ref C : String} {T : u_T} {N ci index : Nat} {Ts : List Cond} (hts : ∀ w ∈ Ts, w.before args s = true) (hin : ∀ w ∈ u_ws C T N, w ∈ Ts) (hown : s.vm.findClass own = some m.cls) (hX : gX D G s) (hH : gH D G s H locs σ μ) {k i j : Nat} {sl : List (Nat ⊕ Bool)} (hk : gKinds[k]? = some (.inr (.inl (ci, sl)))) (hc : vwCl[ci]? = some (C, T, N)) (hi : i < N) (hlink : (Cond.fieldLink own index ref (T i).2.1 (T i).2.2.1).before args s = true) (hsame : ref = (T i).1) (hsl : sl[i]? = some (.inl j)) (hdg : decode cc pc = .ok (.getfield index, 3))
    (kk : W p l e R s m args below meth c H locs cells slots Q (F0 m (pc + 3) ls (.ref (G.1 j) :: rest))) : W p l e R s m args below meth c H locs cells slots Q (F0 m pc ls (.ref (G.1 k) :: rest)) := by
  subst hsame
  refine va_get (D := D) (cl := vwCl) (tys := gTys G) (v := .ref (G.1 j)) hexec hb hts hin hown hX.1 hH.1 k (gW_get hk) hc i hi hlink (fun x h => h) ?_ hdg kk
  rw [List.getElem?_mapIdx, hsl]
  rfl
theorem g_getI (hexec : p.tables.exec = Jvm.exec) (hb : c.code = cc) {own ref C : String} {T : u_T} {N ci index : Nat} {Ts : List Cond} (hts : ∀ w ∈ Ts, w.before args s = true) (hin : ∀ w ∈ u_ws C T N, w ∈ Ts) (hown : s.vm.findClass own = some m.cls) (hX : gX D G s) (hH : gH D G s H locs σ μ) {k i : Nat} {sl : List (Nat ⊕ Bool)} (hk : gKinds[k]? = some (.inr (.inl (ci, sl)))) (hc : vwCl[ci]? = some (C, T, N)) (hi : i < N) (hlink : (Cond.fieldLink own index ref (T i).2.1 (T i).2.2.1).before args s = true) (hsame : ref = (T i).1) (hsl : sl[i]? = some (.inr false)) (hdg : decode cc pc = .ok (.getfield index, 3))
    (kk : W p l e R s m args below meth c H locs cells slots Q (F0 m (pc + 3) ls (.int (gI (σ k i)) :: rest))) : W p l e R s m args below meth c H locs cells slots Q (F0 m pc ls (.ref (G.1 k) :: rest)) := by
  subst hsame
  refine va_get (D := D) (cl := vwCl) (tys := gTys G) (v := .int (gI (σ k i))) hexec hb hts hin hown hX.1 hH.1 k (gW_get hk) hc i hi hlink (fun x h => h) ?_ hdg kk
  rw [List.getElem?_mapIdx, hsl]
  rfl
theorem g_getL (hexec : p.tables.exec = Jvm.exec) (hb : c.code = cc) {own ref C : String} {T : u_T} {N ci index : Nat} {Ts : List Cond} (hts : ∀ w ∈ Ts, w.before args s = true) (hin : ∀ w ∈ u_ws C T N, w ∈ Ts) (hown : s.vm.findClass own = some m.cls) (hX : gX D G s) (hH : gH D G s H locs σ μ) {k i : Nat} {sl : List (Nat ⊕ Bool)} (hk : gKinds[k]? = some (.inr (.inl (ci, sl)))) (hc : vwCl[ci]? = some (C, T, N)) (hi : i < N) (hlink : (Cond.fieldLink own index ref (T i).2.1 (T i).2.2.1).before args s = true) (hsame : ref = (T i).1) (hsl : sl[i]? = some (.inr true)) (hdg : decode cc pc = .ok (.getfield index, 3))
    (kk : W p l e R s m args below meth c H locs cells slots Q (F0 m (pc + 3) ls (.long (μ k) :: rest))) : W p l e R s m args below meth c H locs cells slots Q (F0 m pc ls (.ref (G.1 k) :: rest)) := by
  subst hsame
  refine va_get (D := D) (cl := vwCl) (tys := gTys G) (v := .long (μ k)) hexec hb hts hin hown hX.1 hH.1 k (gW_get hk) hc i hi hlink (fun x h => h) ?_ hdg kk
  rw [List.getElem?_mapIdx, hsl]
  rfl
theorem g_putI (hexec : p.tables.exec = Jvm.exec) (hb : c.code = cc) {own ref C : String} {T : u_T} {N ci index : Nat} {Ts : List Cond} (hts : ∀ w ∈ Ts, w.before args s = true) (hin : ∀ w ∈ u_ws C T N, w ∈ Ts) (ty0 : Nat → FieldType) (hty : ∀ k, k < N → parseFieldDescriptor (T k).2.2.1 = some (ty0 k)) (hnm : ∀ a, a < N → ∀ b, b < N → a ≠ b → (T a).2.1 ≠ (T b).2.1) (hown : s.vm.findClass own = some m.cls) (hX : gX D G s) (hH : gH D G s H locs σ μ) {k i : Nat} {sl : List (Nat ⊕ Bool)} (hk : gKinds[k]? = some (.inr (.inl (ci, sl)))) (hc : vwCl[ci]? = some (C, T, N)) (hi : i < N) (hlink : (Cond.fieldLink own index ref (T i).2.1 (T i).2.2.1).before args s = true) (hsame : ref = (T i).1) (hfin : (T i).2.2.2 = false) (hI : ty0 i = .int) (hsl : sl[i]? = some (.inr false)) {v : Int} (hdg : decode cc pc = .ok (.putfield index, 3))
    (kk : ∀ (H1 : Heap) (locs1 : List Loc), gH D G s H1 locs1 (gUp σ k i v) μ → W p l e R s m args below meth c H1 locs1 cells slots Q (F0 m (pc + 3) ls rest)) : W p l e R s m args below meth c H locs cells slots Q (F0 m pc ls (.int (gI v) :: .ref (G.1 k) :: rest)) := by
  subst hsame
  refine va_put (D := D) (cl := vwCl) (tys := gTys G) (A := gA G) (H0 := s.heap) (v := .int (gI v)) (ty := .int) hexec hb hts hin ty0 hty hnm hown hX.1 hH.1 (hX.d σ μ) hH.2 k (gW_get hk) hc i hi hlink (fun x h => h) hfin (by rw [hty i hi, hI]) rfl rfl ?_ hdg (fun H1 locs1 hP1 hD1 hS1 => ?_)
  · rw [List.length_mapIdx]
    exact (List.getElem?_eq_some_iff.mp hsl).1
  · refine kk H1 locs1 ⟨?_, hS1⟩
    rw [gW_set hk (gO_up hsl) (fun j t' h => gE_up j t' h)] at hP1
    exact hP1
theorem g_putL (hexec : p.tables.exec = Jvm.exec) (hb : c.code = cc) {own ref C : String} {T : u_T} {N ci index : Nat} {Ts : List Cond} (hts : ∀ w ∈ Ts, w.before args s = true) (hin : ∀ w ∈ u_ws C T N, w ∈ Ts) (ty0 : Nat → FieldType) (hty : ∀ k, k < N → parseFieldDescriptor (T k).2.2.1 = some (ty0 k)) (hnm : ∀ a, a < N → ∀ b, b < N → a ≠ b → (T a).2.1 ≠ (T b).2.1) (hown : s.vm.findClass own = some m.cls) (hX : gX D G s) (hH : gH D G s H locs σ μ) {k i : Nat} {sl : List (Nat ⊕ Bool)} (hk : gKinds[k]? = some (.inr (.inl (ci, sl)))) (hc : vwCl[ci]? = some (C, T, N)) (hi : i < N) (hlink : (Cond.fieldLink own index ref (T i).2.1 (T i).2.2.1).before args s = true) (hsame : ref = (T i).1) (hfin : (T i).2.2.2 = false) (hI : ty0 i = .long) (hsl : sl[i]? = some (.inr true)) (hu : ∀ j, sl[j]? = some (.inr true) → j = i) {v : Int64} (hdg : decode cc pc = .ok (.putfield index, 3))
    (kk : ∀ (H1 : Heap) (locs1 : List Loc), gH D G s H1 locs1 σ (gUl μ k v) → W p l e R s m args below meth c H1 locs1 cells slots Q (F0 m (pc + 3) ls rest)) : W p l e R s m args below meth c H locs cells slots Q (F0 m pc ls (.long v :: .ref (G.1 k) :: rest)) := by
  subst hsame
  refine va_put (D := D) (cl := vwCl) (tys := gTys G) (A := gA G) (H0 := s.heap) (v := .long v) (ty := .long) hexec hb hts hin ty0 hty hnm hown hX.1 hH.1 (hX.d σ μ) hH.2 k (gW_get hk) hc i hi hlink (fun x h => h) hfin (by rw [hty i hi, hI]) rfl rfl ?_ hdg (fun H1 locs1 hP1 hD1 hS1 => ?_)
  · rw [List.length_mapIdx]
    exact (List.getElem?_eq_some_iff.mp hsl).1
  · refine kk H1 locs1 ⟨?_, hS1⟩
    rw [gW_set hk (gO_ul hsl hu) (fun j t' h => gE_ul j t' h)] at hP1
    exact hP1
/-- arrays -/
theorem g_iald {α : Type} {a : Option α} {r : α} (hexec : p.tables.exec = Jvm.exec) (hb : c.code = cc) (hX : gX D G s) (hH : gH D G s H locs σ μ) {k n : Nat} {i : Int} (hk : gKinds[k]? = some (.inl n)) (hn : n ≤ 2147483647) (hdg : decode cc pc = .ok (.iaload, 1)) (h : gAt i n a = some r)
    (kk : a = some r → W p l e R s m args below meth c H locs cells slots Q (F0 m (pc + 1) ls (.int (gI (σ k i.toNat)) :: rest))) : W p l e R s m args below meth c H locs cells slots Q (F0 m pc ls (.int (gI i) :: .ref (G.1 k) :: rest)) := by
  obtain ⟨h1, h2⟩ := gAt_some h
  refine va_iald (D := D) (cl := vwCl) (tys := gTys G) hexec hb hX.1 hH.1 k 0 (gW_get hk) rfl (gI_in h1.1 h1.2 hn) hdg ?_
  rw [gI_c h1.1 ⟨by omega, by omega⟩]
  exact kk h2
theorem g_iast {α : Type} {a : Option α} {r : α} (hexec : p.tables.exec = Jvm.exec) (hb : c.code = cc) (hX : gX D G s) (hH : gH D G s H locs σ μ) {k n : Nat} {i v : Int} (hk : gKinds[k]? = some (.inl n)) (hn : n ≤ 2147483647) (hdg : decode cc pc = .ok (.iastore, 1)) (h : gAt i n a = some r)
    (kk : a = some r → ∀ (H1 : Heap) (locs1 : List Loc), gH D G s H1 locs1 (gUp σ k i.toNat v) μ → W p l e R s m args below meth c H1 locs1 cells slots Q (F0 m (pc + 1) ls rest)) : W p l e R s m args below meth c H locs cells slots Q (F0 m pc ls (.int (gI v) :: .int (gI i) :: .ref (G.1 k) :: rest)) := by
  obtain ⟨h1, h2⟩ := gAt_some h
  refine va_iast (D := D) (cl := vwCl) (tys := gTys G) (A := gA G) (H0 := s.heap) hexec hb hX.1 hH.1 (hX.d σ μ) hH.2 k 0 (gW_get hk) rfl (gI_in h1.1 h1.2 hn) hdg (fun H1 locs1 hP1 hD1 hS1 => ?_)
  refine kk h2 H1 locs1 ⟨?_, hS1⟩
  rw [gI_c h1.1 ⟨by omega, by omega⟩, gW_set hk gA_up (fun j t' h => gE_up j t' h)] at hP1
  exact hP1
theorem g_alen (hexec : p.tables.exec = Jvm.exec) (hb : c.code = cc) (hX : gX D G s) (hH : gH D G s H locs σ μ) {k n : Nat} (hk : gKinds[k]? = some (.inl n)) (hdg : decode cc pc = .ok (.arraylength, 1))
    (kk : W p l e R s m args below meth c H locs cells slots Q (F0 m (pc + 1) ls (.int (gI n) :: rest))) : W p l e R s m args below meth c H locs cells slots Q (F0 m pc ls (.ref (G.1 k) :: rest)) :=
  va_alen (D := D) (cl := vwCl) (tys := gTys G) (v := gI n) hexec hb hX.1 hH.1 k 0 (gW_get hk) rfl (gI_nat n) hdg kk
theorem g_alenq (hexec : p.tables.exec = Jvm.exec) (hb : c.code = cc) (hX : gX D G s) (hH : gH D G s H locs σ μ) {k : Nat} {rs : List Nat} (hk : gKinds[k]? = some (.inr (.inr (.inl rs)))) (hdg : decode cc pc = .ok (.arraylength, 1))
    (kk : W p l e R s m args below meth c H locs cells slots Q (F0 m (pc + 1) ls (.int (gI rs.length) :: rest))) : W p l e R s m args below meth c H locs cells slots Q (F0 m pc ls (.ref (G.1 k) :: rest)) :=
  va_alen (D := D) (cl := vwCl) (tys := gTys G) (v := gI rs.length) hexec hb hX.1 hH.1 k 1 (gW_get hk) rfl (gI_nat _) hdg kk
theorem g_aald {α : Type} {a : Option α} {r : α} (hexec : p.tables.exec = Jvm.exec) (hb : c.code = cc) (hX : gX D G s) (hH : gH D G s H locs σ μ) {k n : Nat} {rs : List Nat} {i : Int} (hk : gKinds[k]? = some (.inr (.inr (.inl rs)))) (hn : rs.length = n) (hn2 : n ≤ 2147483647) (hdg : decode cc pc = .ok (.aaload, 1)) (h : gAt i n a = some r)
    (kk : a = some r → W p l e R s m args below meth c H locs cells slots Q (F0 m (pc + 1) ls (.ref (G.1 (rs.getD i.toNat 0)) :: rest))) : W p l e R s m args below meth c H locs cells slots Q (F0 m pc ls (.int (gI i) :: .ref (G.1 k) :: rest)) := by
  obtain ⟨h1, h2⟩ := gAt_some h
  subst hn
  refine va_aldq (D := D) (cl := vwCl) (tys := gTys G) hexec hb hX.1 hH.1 k 1 (gW_get hk) rfl (gI_in h1.1 h1.2 hn2) hdg ?_
  rw [gI_c h1.1 ⟨by omega, by omega⟩]
  have hl : i.toNat < rs.length := by omega
  have e1 : va_rf ((rs[i.toNat]?).map G.1) = .ref (G.1 (rs.getD i.toNat 0)) := by
    rw [List.getElem?_eq_getElem hl, List.getD_eq_getElem?_getD, List.getElem?_eq_getElem hl]
    rfl
  show W p l e R s m args below meth c H locs cells slots Q (F0 m (pc + 1) ls (va_rf ((rs[i.toNat]?).map G.1) :: rest))
  rw [e1]
  exact kk h2
/-- the ends -/
theorem g_iret (hexec : p.tables.exec = Jvm.exec) (hb : c.code = cc) (hr : meth.sig.returnType = some .int) (hH : gH D G s H locs σ μ) (hlocks : meth.locks = false) {v : Int} (hdg : decode cc pc = .ok (.ireturn, 1)) : W p l e R s m args below meth c H locs cells slots (MQ below (gQi D G v σ μ) args s cells slots (gA G)) (F0 m pc ls [.int (gI v)]) :=
  W.iret hexec hb hr (fun t ht hW => ⟨⟨_, (), rfl, rfl, by show va_P D vwCl (gW G σ μ) t.heap; rw [ht]; exact hH.1⟩, hH.2.F ht⟩) hH.2.2.2 hdg hlocks
theorem g_zret (hexec : p.tables.exec = Jvm.exec) (hb : c.code = cc) (hr : meth.sig.returnType = some .boolean) (hH : gH D G s H locs σ μ) (hlocks : meth.locks = false) {v : Int} (hv : v = 0 ∨ v = 1) (hdg : decode cc pc = .ok (.ireturn, 1)) : W p l e R s m args below meth c H locs cells slots (MQ below (gQi D G v σ μ) args s cells slots (gA G)) (F0 m pc ls [.int (gI v)]) :=
  W.zret hexec hb hr (by rcases hv with rfl | rfl <;> rfl) (fun t ht hW => ⟨⟨_, (), rfl, rfl, by show va_P D vwCl (gW G σ μ) t.heap; rw [ht]; exact hH.1⟩, hH.2.F ht⟩) hH.2.2.2 hdg hlocks
theorem g_lret (hexec : p.tables.exec = Jvm.exec) (hb : c.code = cc) (hr : meth.sig.returnType = some .long) (hH : gH D G s H locs σ μ) (hlocks : meth.locks = false) {v : Int64} (hdg : decode cc pc = .ok (.lreturn, 1)) : W p l e R s m args below meth c H locs cells slots (MQ below (gQl D G v σ μ) args s cells slots (gA G)) (F0 m pc ls [.long v]) :=
  W.lret hexec hb hr (fun t ht hW => ⟨⟨_, (), rfl, rfl, by show va_P D vwCl (gW G σ μ) t.heap; rw [ht]; exact hH.1⟩, hH.2.F ht⟩) hH.2.2.2 hdg hlocks
theorem g_vret (hexec : p.tables.exec = Jvm.exec) (hb : c.code = cc) (hr : meth.sig.returnType = none) (hH : gH D G s H locs σ μ) (hlocks : meth.locks = false) (hdg : decode cc pc = .ok (.return_, 1)) : W p l e R s m args below meth c H locs cells slots (MQ below (gQv D G σ μ) args s cells slots (gA G)) (F0 m pc ls []) :=
  W.vret hexec hb hr (fun t ht hW => ⟨⟨(), rfl, trivial, by show va_P D vwCl (gW G σ μ) t.heap; rw [ht]; exact hH.1⟩, hH.2.F ht⟩) hH.2.2.2 hdg hlocks
theorem g_aret (hexec : p.tables.exec = Jvm.exec) (hb : c.code = cc) {n : String} (hr : meth.sig.returnType = some (.object n)) (hH : gH D G s H locs σ μ) (hlocks : meth.locks = false) {v : Value} {o : Option Nat} (hv : v = va_rf (o.map G.1)) (hdg : decode cc pc = .ok (.areturn, 1)) : W p l e R s m args below meth c H locs cells slots (MQ below (gQq D G o σ μ) args s cells slots (gA G)) (F0 m pc ls [v]) :=
  W.aret hexec hb hr (Or.inl ⟨n, rfl⟩) (by rw [hv]; cases o <;> first | exact Or.inl rfl | exact Or.inr ⟨_, rfl⟩) (fun t ht hW => ⟨⟨_, (), by rw [hv], rfl, by show va_P D vwCl (gW G σ μ) t.heap; rw [ht]; exact hH.1⟩, hH.2.F ht⟩) hH.2.2.2 hdg hlocks
theorem g_iretP (hexec : p.tables.exec = Jvm.exec) (hb : c.code = cc) (hr : meth.sig.returnType = some .int) (hH : gH D G s H locs σ μ) (hlocks : meth.locks = false) {v r : Int} (hdg : decode cc pc = .ok (.ireturn, 1)) (h : some v = some r) : W p l e R s m args below meth c H locs cells slots (MQ below (gQi D G r σ μ) args s cells slots (gA G)) (F0 m pc ls [.int (gI v)]) := by
  cases h
  exact g_iret hexec hb hr hH hlocks hdg
theorem g_iretS (hexec : p.tables.exec = Jvm.exec) (hb : c.code = cc) (hr : meth.sig.returnType = some .int) {σ' : gSt} (hH : gH D G s H locs σ μ) (hlocks : meth.locks = false) {v r : Int} (hdg : decode cc pc = .ok (.ireturn, 1)) (h : some (v, σ) = some (r, σ')) : W p l e R s m args below meth c H locs cells slots (MQ below (gQi D G r σ' μ) args s cells slots (gA G)) (F0 m pc ls [.int (gI v)]) := by
  cases h
  exact g_iret hexec hb hr hH hlocks hdg
theorem g_zretP (hexec : p.tables.exec = Jvm.exec) (hb : c.code = cc) (hr : meth.sig.returnType = some .boolean) (hH : gH D G s H locs σ μ) (hlocks : meth.locks = false) {v r : Int} (hdg : decode cc pc = .ok (.ireturn, 1)) (h : gBo v (some v) = some r) : W p l e R s m args below meth c H locs cells slots (MQ below (gQi D G r σ μ) args s cells slots (gA G)) (F0 m pc ls [.int (gI v)]) := by
  obtain ⟨h1, h2⟩ := gBo_some h
  cases h2
  exact g_zret hexec hb hr hH hlocks h1 hdg
theorem g_zretS (hexec : p.tables.exec = Jvm.exec) (hb : c.code = cc) (hr : meth.sig.returnType = some .boolean) {σ' : gSt} (hH : gH D G s H locs σ μ) (hlocks : meth.locks = false) {v r : Int} (hdg : decode cc pc = .ok (.ireturn, 1)) (h : gBo v (some (v, σ)) = some (r, σ')) : W p l e R s m args below meth c H locs cells slots (MQ below (gQi D G r σ' μ) args s cells slots (gA G)) (F0 m pc ls [.int (gI v)]) := by
  obtain ⟨h1, h2⟩ := gBo_some h
  cases h2
  exact g_zret hexec hb hr hH hlocks h1 hdg
theorem g_vretS (hexec : p.tables.exec = Jvm.exec) (hb : c.code = cc) (hr : meth.sig.returnType = none) {σ' : gSt} (hH : gH D G s H locs σ μ) (hlocks : meth.locks = false) (hdg : decode cc pc = .ok (.return_, 1)) (h : some σ = some σ') : W p l e R s m args below meth c H locs cells slots (MQ below (gQv D G σ' μ) args s cells slots (gA G)) (F0 m pc ls []) := by
  cases h
  exact g_vret hexec hb hr hH hlocks hdg
theorem g_vretM (hexec : p.tables.exec = Jvm.exec) (hb : c.code = cc) (hr : meth.sig.returnType = none) {μ' : gLg} (hH : gH D G s H locs σ μ) (hlocks : meth.locks = false) (hdg : decode cc pc = .ok (.return_, 1)) (h : some μ = some μ') : W p l e R s m args below meth c H locs cells slots (MQ below (gQv D G σ μ') args s cells slots (gA G)) (F0 m pc ls []) := by
  cases h
  exact g_vret hexec hb hr hH hlocks hdg
theorem g_lretP (hexec : p.tables.exec = Jvm.exec) (hb : c.code = cc) (hr : meth.sig.returnType = some .long) (hH : gH D G s H locs σ μ) (hlocks : meth.locks = false) {v r : Int64} (hdg : decode cc pc = .ok (.lreturn, 1)) (h : some v = some r) : W p l e R s m args below meth c H locs cells slots (MQ below (gQl D G r σ μ) args s cells slots (gA G)) (F0 m pc ls [.long v]) := by
  cases h
  exact g_lret hexec hb hr hH hlocks hdg
theorem g_lretSM (hexec : p.tables.exec = Jvm.exec) (hb : c.code = cc) (hr : meth.sig.returnType = some .long) {σ' : gSt} {μ' : gLg} (hH : gH D G s H locs σ μ) (hlocks : meth.locks = false) {v r : Int64} (hdg : decode cc pc = .ok (.lreturn, 1)) (h : some (v, σ, μ) = some (r, σ', μ')) : W p l e R s m args below meth c H locs cells slots (MQ below (gQl D G r σ' μ') args s cells slots (gA G)) (F0 m pc ls [.long v]) := by
  cases h
  exact g_lret hexec hb hr hH hlocks hdg
theorem g_mmax {α : Type} {a : Option α} {r : α} (hexec : p.tables.exec = Jvm.exec) (hb : c.code = cc) (hml : c.maxLocals = ls.size) {own : String} {index : Nat} (hts : ∀ w ∈ gLW, w.before args s = true) (hown : s.vm.findClass own = some m.cls) (hlink : Cond.methodLink own index Lib.Math.max.name ∈ gLW) (hR : (1 ≤ R.frames ∧ (rest.map fun v => v.category).sum + 13 ≤ R.locals) ∧ cells ≤ R.cells ∧ slots ≤ R.slots) {x y : Int} (hdg : decode cc pc = .ok (.invokestatic index, 3)) (h : gRr x y a = some r)
    (kk : a = some r → W p l e R s m args below meth c H locs cells slots Q (F0 m (pc + 3) ls (.int (gI (max x y)) :: rest))) : W p l e R s m args below meth c H locs cells slots Q (F0 m pc ls (.int (gI y) :: .int (gI x) :: rest)) := by
  obtain ⟨h1, h2⟩ := gRr_some h
  refine va_mmax hexec hb hml hown (hts _ hlink) (hts _ q_st_mmax) (hts _ q_in_java_lang_Math) (hts _ q_co_mmax) hR.1.1 hR.1.2 hR.2.1 hR.2.2 hdg ?_
  have e1 : (if gI x < gI y then gI y else gI x) = gI (max x y) := by
    by_cases hc : x < y
    · rw [if_pos ((gI_lt h1.1 h1.2).mpr hc), Int.max_eq_right (by omega)]
    · rw [if_neg (fun q => hc ((gI_lt h1.1 h1.2).mp q)), Int.max_eq_left (by omega)]
  rw [e1]
  exact kk h2
theorem g_mmin {α : Type} {a : Option α} {r : α} (hexec : p.tables.exec = Jvm.exec) (hb : c.code = cc) (hml : c.maxLocals = ls.size) {own : String} {index : Nat} (hts : ∀ w ∈ gLW, w.before args s = true) (hown : s.vm.findClass own = some m.cls) (hlink : Cond.methodLink own index Lib.Math.min.name ∈ gLW) (hR : (1 ≤ R.frames ∧ (rest.map fun v => v.category).sum + 13 ≤ R.locals) ∧ cells ≤ R.cells ∧ slots ≤ R.slots) {x y : Int} (hdg : decode cc pc = .ok (.invokestatic index, 3)) (h : gRr x y a = some r)
    (kk : a = some r → W p l e R s m args below meth c H locs cells slots Q (F0 m (pc + 3) ls (.int (gI (min x y)) :: rest))) : W p l e R s m args below meth c H locs cells slots Q (F0 m pc ls (.int (gI y) :: .int (gI x) :: rest)) := by
  obtain ⟨h1, h2⟩ := gRr_some h
  refine va_mmin hexec hb hml hown (hts _ hlink) (hts _ q_st_mmin) (hts _ q_in_java_lang_Math) (hts _ q_co_mmin) hR.1.1 hR.1.2 hR.2.1 hR.2.2 hdg ?_
  have e1 : (if gI y < gI x then gI y else gI x) = gI (min x y) := by
    by_cases hc : y < x
    · rw [if_pos ((gI_lt h1.2 h1.1).mpr hc), Int.min_eq_right (by omega)]
    · rw [if_neg (fun q => hc ((gI_lt h1.2 h1.1).mp q)), Int.min_eq_left (by omega)]
  rw [e1]
  exact kk h2
theorem g_callVi {y : MethodName} {bytes : ByteArray} {maxL nL n index : Nat} {ret : Option FieldType} {rm : Room} {Ts : List Cond} {own C : String} {As st0 : List Value} {σ' : gSt} {μ' : gLg} {k ci : Nat} {sl : List (Nat ⊕ Bool)} {T : u_T} {N : Nat} {r : Int} (S : CallFix p m c cc nL s args Ts own) (hM : Met l y (gWs y bytes maxL ret) rm (gPc D G (.ref (G.1 k) :: As) σ μ) (gQi D G r σ' μ') 0 0 (gA G)) (cw : CallW R s args own C index y bytes maxL ret (gWs y bytes maxL ret) rm 0 0 n) (hX : gX D G s) (hH : gH D G s H locs σ μ) (hk : gKinds[k]? = some (.inr (.inl (ci, sl)))) (hc : vwCl[ci]? = some (C, T, N)) (hn : As.length = n) (hsize : ls.size = nL) (hst : st0 = As.reverse ++ .ref (G.1 k) :: rest) (hW : (rest.map fun v => v.category).sum ≤ 8) (hdg : decode cc pc = .ok (.invokevirtual index, 3)) (hf : cells ≤ R.cells ∧ slots ≤ R.slots)
    (kk : ∀ (H1 : Heap) (locs1 : List Loc), gH D G s H1 locs1 σ' μ' → W p l e R s m args below meth c H1 locs1 cells slots Q (F0 m (pc + 3) ls (.int (gI r) :: rest))) : W p l e R s m args below meth c H locs cells slots Q (F0 m pc ls st0) := by
  refine va_calli (mc := 0) (ms := 0) (free := gA G) (A0 := gA G) (A1 := gA G) (va_runV (As := As) (rest := rest) S hM cw ⟨gPc_blind, va_recv hX.1 hH.1 hc (gW_get hk), fun U hU hW2 => ⟨rfl, by rw [hU]; exact hH.1, hX.go hH.2 hU hW2⟩⟩ rfl hn hsize hst (lv_room hW) hdg hf) hH.2 (fun q _ h => h) (fun q h => h) (fun r0 u t H1 locs1 ht hvm hp hB hz hq hS => ?_)
  have hB2 : va_P D vwCl (gW G σ' μ') t.heap := hB
  rw [ht] at hB2
  subst hp
  exact kk H1 locs1 ⟨hB2, hS⟩
theorem g_callVv {y : MethodName} {bytes : ByteArray} {maxL nL n index : Nat} {ret : Option FieldType} {rm : Room} {Ts : List Cond} {own C : String} {As st0 : List Value} {σ' : gSt} {μ' : gLg} {k ci : Nat} {sl : List (Nat ⊕ Bool)} {T : u_T} {N : Nat} (S : CallFix p m c cc nL s args Ts own) (hM : Met l y (gWs y bytes maxL ret) rm (gPc D G (.ref (G.1 k) :: As) σ μ) (gQv D G σ' μ') 0 0 (gA G)) (cw : CallW R s args own C index y bytes maxL ret (gWs y bytes maxL ret) rm 0 0 n) (hX : gX D G s) (hH : gH D G s H locs σ μ) (hk : gKinds[k]? = some (.inr (.inl (ci, sl)))) (hc : vwCl[ci]? = some (C, T, N)) (hn : As.length = n) (hsize : ls.size = nL) (hst : st0 = As.reverse ++ .ref (G.1 k) :: rest) (hW : (rest.map fun v => v.category).sum ≤ 8) (hdg : decode cc pc = .ok (.invokevirtual index, 3)) (hf : cells ≤ R.cells ∧ slots ≤ R.slots)
    (kk : ∀ (H1 : Heap) (locs1 : List Loc), gH D G s H1 locs1 σ' μ' → W p l e R s m args below meth c H1 locs1 cells slots Q (F0 m (pc + 3) ls (rest))) : W p l e R s m args below meth c H locs cells slots Q (F0 m pc ls st0) := by
  refine va_callv (mc := 0) (ms := 0) (free := gA G) (A0 := gA G) (A1 := gA G) (va_runV (As := As) (rest := rest) S hM cw ⟨gPc_blind, va_recv hX.1 hH.1 hc (gW_get hk), fun U hU hW2 => ⟨rfl, by rw [hU]; exact hH.1, hX.go hH.2 hU hW2⟩⟩ rfl hn hsize hst (lv_room hW) hdg hf) hH.2 (fun q _ h => h) (fun q h => h) (fun u t H1 locs1 ht hvm hp hB hz hq hS => ?_)
  have hB2 : va_P D vwCl (gW G σ' μ') t.heap := hB
  rw [ht] at hB2
  exact kk H1 locs1 ⟨hB2, hS⟩
theorem g_callVl {y : MethodName} {bytes : ByteArray} {maxL nL n index : Nat} {ret : Option FieldType} {rm : Room} {Ts : List Cond} {own C : String} {As st0 : List Value} {σ' : gSt} {μ' : gLg} {k ci : Nat} {sl : List (Nat ⊕ Bool)} {T : u_T} {N : Nat} {r : Int64} (S : CallFix p m c cc nL s args Ts own) (hM : Met l y (gWs y bytes maxL ret) rm (gPc D G (.ref (G.1 k) :: As) σ μ) (gQl D G r σ' μ') 0 0 (gA G)) (cw : CallW R s args own C index y bytes maxL ret (gWs y bytes maxL ret) rm 0 0 n) (hX : gX D G s) (hH : gH D G s H locs σ μ) (hk : gKinds[k]? = some (.inr (.inl (ci, sl)))) (hc : vwCl[ci]? = some (C, T, N)) (hn : As.length = n) (hsize : ls.size = nL) (hst : st0 = As.reverse ++ .ref (G.1 k) :: rest) (hW : (rest.map fun v => v.category).sum ≤ 8) (hdg : decode cc pc = .ok (.invokevirtual index, 3)) (hf : cells ≤ R.cells ∧ slots ≤ R.slots)
    (kk : ∀ (H1 : Heap) (locs1 : List Loc), gH D G s H1 locs1 σ' μ' → W p l e R s m args below meth c H1 locs1 cells slots Q (F0 m (pc + 3) ls (.long r :: rest))) : W p l e R s m args below meth c H locs cells slots Q (F0 m pc ls st0) := by
  refine va_calll (mc := 0) (ms := 0) (free := gA G) (A0 := gA G) (A1 := gA G) (va_runV (As := As) (rest := rest) S hM cw ⟨gPc_blind, va_recv hX.1 hH.1 hc (gW_get hk), fun U hU hW2 => ⟨rfl, by rw [hU]; exact hH.1, hX.go hH.2 hU hW2⟩⟩ rfl hn hsize hst (lv_room hW) hdg hf) hH.2 (fun q _ h => h) (fun q h => h) (fun r0 u t H1 locs1 ht hvm hp hB hz hq hS => ?_)
  have hB2 : va_P D vwCl (gW G σ' μ') t.heap := hB
  rw [ht] at hB2
  subst hp
  exact kk H1 locs1 ⟨hB2, hS⟩
theorem g_callVq {y : MethodName} {bytes : ByteArray} {maxL nL n index : Nat} {ret : Option FieldType} {rm : Room} {Ts : List Cond} {own C : String} {As st0 : List Value} {σ' : gSt} {μ' : gLg} {k ci : Nat} {sl : List (Nat ⊕ Bool)} {T : u_T} {N : Nat} {r : Option Nat} (S : CallFix p m c cc nL s args Ts own) (hM : Met l y (gWs y bytes maxL ret) rm (gPc D G (.ref (G.1 k) :: As) σ μ) (gQq D G r σ' μ') 0 0 (gA G)) (cw : CallW R s args own C index y bytes maxL ret (gWs y bytes maxL ret) rm 0 0 n) (hX : gX D G s) (hH : gH D G s H locs σ μ) (hk : gKinds[k]? = some (.inr (.inl (ci, sl)))) (hc : vwCl[ci]? = some (C, T, N)) (hn : As.length = n) (hsize : ls.size = nL) (hst : st0 = As.reverse ++ .ref (G.1 k) :: rest) (hW : (rest.map fun v => v.category).sum ≤ 8) (hdg : decode cc pc = .ok (.invokevirtual index, 3)) (hf : cells ≤ R.cells ∧ slots ≤ R.slots)
    (kk : ∀ (H1 : Heap) (locs1 : List Loc), gH D G s H1 locs1 σ' μ' → W p l e R s m args below meth c H1 locs1 cells slots Q (F0 m (pc + 3) ls (va_rf (r.map G.1) :: rest))) : W p l e R s m args below meth c H locs cells slots Q (F0 m pc ls st0) := by
  refine va_callq (mc := 0) (ms := 0) (free := gA G) (A0 := gA G) (A1 := gA G) (va_runV (As := As) (rest := rest) S hM cw ⟨gPc_blind, va_recv hX.1 hH.1 hc (gW_get hk), fun U hU hW2 => ⟨rfl, by rw [hU]; exact hH.1, hX.go hH.2 hU hW2⟩⟩ rfl hn hsize hst (lv_room hW) hdg hf) hH.2 (fun q _ h => h) (fun q h => h) (fun r0 u t H1 locs1 ht hvm hp hB hz hq hS => ?_)
  have hB2 : va_P D vwCl (gW G σ' μ') t.heap := hB
  rw [ht] at hB2
  subst hp
  exact kk H1 locs1 ⟨hB2, hS⟩
theorem g_callSi {y : MethodName} {bytes : ByteArray} {maxL nL n index : Nat} {ret : Option FieldType} {rm : Room} {Ts : List Cond} {own : String} {As st0 : List Value} {σ' : gSt} {μ' : gLg} {r : Int} (S : CallFix p m c cc nL s args Ts own) (hM : Met l y (gWs y bytes maxL ret) rm (gPc D G (As) σ μ) (gQi D G r σ' μ') 0 0 (gA G)) (cw : CallB R s args own index y bytes maxL ret (gWs y bytes maxL ret) rm 0 0 n ∧ (Cond.static y).before args s = true) (hX : gX D G s) (hH : gH D G s H locs σ μ) (hn : As.length = n) (hsize : ls.size = nL) (hst : st0 = As.reverse ++ rest) (hW : (rest.map fun v => v.category).sum ≤ 8) (hdg : decode cc pc = .ok (.invokestatic index, 3)) (hf : cells ≤ R.cells ∧ slots ≤ R.slots)
    (kk : ∀ (H1 : Heap) (locs1 : List Loc), gH D G s H1 locs1 σ' μ' → W p l e R s m args below meth c H1 locs1 cells slots Q (F0 m (pc + 3) ls (.int (gI r) :: rest))) : W p l e R s m args below meth c H locs cells slots Q (F0 m pc ls st0) := by
  refine va_calli (mc := 0) (ms := 0) (free := gA G) (A0 := gA G) (A1 := gA G) (va_runS (As := As) (rest := rest) S hM cw ⟨gPc_blind, fun U hU hW2 => ⟨rfl, by rw [hU]; exact hH.1, hX.go hH.2 hU hW2⟩⟩ rfl hn hsize hst (lv_room hW) hdg hf) hH.2 (fun q _ h => h) (fun q h => h) (fun r0 u t H1 locs1 ht hvm hp hB hz hq hS => ?_)
  have hB2 : va_P D vwCl (gW G σ' μ') t.heap := hB
  rw [ht] at hB2
  subst hp
  exact kk H1 locs1 ⟨hB2, hS⟩
theorem g_callSv {y : MethodName} {bytes : ByteArray} {maxL nL n index : Nat} {ret : Option FieldType} {rm : Room} {Ts : List Cond} {own : String} {As st0 : List Value} {σ' : gSt} {μ' : gLg} (S : CallFix p m c cc nL s args Ts own) (hM : Met l y (gWs y bytes maxL ret) rm (gPc D G (As) σ μ) (gQv D G σ' μ') 0 0 (gA G)) (cw : CallB R s args own index y bytes maxL ret (gWs y bytes maxL ret) rm 0 0 n ∧ (Cond.static y).before args s = true) (hX : gX D G s) (hH : gH D G s H locs σ μ) (hn : As.length = n) (hsize : ls.size = nL) (hst : st0 = As.reverse ++ rest) (hW : (rest.map fun v => v.category).sum ≤ 8) (hdg : decode cc pc = .ok (.invokestatic index, 3)) (hf : cells ≤ R.cells ∧ slots ≤ R.slots)
    (kk : ∀ (H1 : Heap) (locs1 : List Loc), gH D G s H1 locs1 σ' μ' → W p l e R s m args below meth c H1 locs1 cells slots Q (F0 m (pc + 3) ls (rest))) : W p l e R s m args below meth c H locs cells slots Q (F0 m pc ls st0) := by
  refine va_callv (mc := 0) (ms := 0) (free := gA G) (A0 := gA G) (A1 := gA G) (va_runS (As := As) (rest := rest) S hM cw ⟨gPc_blind, fun U hU hW2 => ⟨rfl, by rw [hU]; exact hH.1, hX.go hH.2 hU hW2⟩⟩ rfl hn hsize hst (lv_room hW) hdg hf) hH.2 (fun q _ h => h) (fun q h => h) (fun u t H1 locs1 ht hvm hp hB hz hq hS => ?_)
  have hB2 : va_P D vwCl (gW G σ' μ') t.heap := hB
  rw [ht] at hB2
  exact kk H1 locs1 ⟨hB2, hS⟩
theorem g_callNi {y : MethodName} {bytes : ByteArray} {maxL nL n index : Nat} {ret : Option FieldType} {rm : Room} {Ts : List Cond} {own host : String} {As st0 : List Value} {σ' : gSt} {μ' : gLg} {r : Int} (S : CallFix p m c cc nL s args Ts own) (hM : Met l y (gWs y bytes maxL ret) rm (gPc D G (As) σ μ) (gQi D G r σ' μ') 0 0 (gA G)) (cw : va_CN R s args own index y host bytes maxL ret (gWs y bytes maxL ret) rm 0 0 n ∧ (Cond.static y).before args s = true ∧ True) (hX : gX D G s) (hH : gH D G s H locs σ μ) (hn : As.length = n) (hsize : ls.size = nL) (hst : st0 = As.reverse ++ rest) (hW : (rest.map fun v => v.category).sum ≤ 8) (hdg : decode cc pc = .ok (.invokestatic index, 3)) (hf : cells ≤ R.cells ∧ slots ≤ R.slots)
    (kk : ∀ (H1 : Heap) (locs1 : List Loc), gH D G s H1 locs1 σ' μ' → W p l e R s m args below meth c H1 locs1 cells slots Q (F0 m (pc + 3) ls (.int (gI r) :: rest))) : W p l e R s m args below meth c H locs cells slots Q (F0 m pc ls st0) := by
  refine va_calli (mc := 0) (ms := 0) (free := gA G) (A0 := gA G) (A1 := gA G) (va_runSN (As := As) (rest := rest) S hM cw ⟨gPc_blind, fun U hU hW2 => ⟨rfl, by rw [hU]; exact hH.1, hX.go hH.2 hU hW2⟩⟩ rfl hn hsize hst (lv_room hW) hdg hf) hH.2 (fun q _ h => h) (fun q h => h) (fun r0 u t H1 locs1 ht hvm hp hB hz hq hS => ?_)
  have hB2 : va_P D vwCl (gW G σ' μ') t.heap := hB
  rw [ht] at hB2
  subst hp
  exact kk H1 locs1 ⟨hB2, hS⟩
end GW1
theorem g_cwV {R : Room} {s : State} {args : Array Value} {own C : String} {idx maxL : Nat} {y : MethodName} {bytes : ByteArray} {ret : Option FieldType} {rm : Room} (n : Nat) (hts : ∀ w ∈ gLW, w.before args s = true) (h1 : Cond.methodLink own idx y ∈ gLW) (h2 : Cond.instanceMethod y ∈ gLW) (h3 : Cond.selects C y y ∈ gLW) (h4 : Cond.initialized C ∈ gLW) (h5 : Cond.code y bytes maxL ret ∈ gLW) (hz : rm.cells = 0 ∧ rm.slots = 0) (hd : y.cls = C ∧ y.cls ≠ "java/lang/invoke/MethodHandle" ∧ y.cls ≠ "java/lang/invoke/VarHandle" ∧ (parseMethodDescriptor y.desc).map (fun d => d.parameters.length) = some n) (hR : rm.frames + 1 ≤ R.frames ∧ 8 + (maxL + 11) + rm.locals ≤ R.locals) : CallW R s args own C idx y bytes maxL ret (gWs y bytes maxL ret) rm 0 0 n := by
  have ht2 : ∀ w ∈ gWs y bytes maxL ret, w.before args s = true := fun w hw => by
    rcases List.mem_cons.mp hw with rfl | hw
    · exact hts _ h5
    · exact hts _ hw
  exact cwV n ht2 (gGoodV (n := maxL) (r := ret) h1 h2 h3 h4 h5) rfl hz.1 hz.2 hd hR
theorem g_cwS {R : Room} {s : State} {args : Array Value} {own : String} {idx maxL : Nat} {y : MethodName} {bytes : ByteArray} {ret : Option FieldType} {rm : Room} (n : Nat) (hts : ∀ w ∈ gLW, w.before args s = true) (h1 : Cond.methodLink own idx y ∈ gLW) (h2 : Cond.static y ∈ gLW) (h4 : Cond.initialized y.cls ∈ gLW) (h5 : Cond.code y bytes maxL ret ∈ gLW) (hz : rm.cells = 0 ∧ rm.slots = 0) (hd : y.cls ≠ "java/lang/invoke/MethodHandle" ∧ y.cls ≠ "java/lang/invoke/VarHandle" ∧ (parseMethodDescriptor y.desc).map (fun d => d.parameters.length) = some n) (hR : rm.frames + 1 ≤ R.frames ∧ 8 + (maxL + 11) + rm.locals ≤ R.locals) : CallB R s args own idx y bytes maxL ret (gWs y bytes maxL ret) rm 0 0 n ∧ (Cond.static y).before args s = true := by
  have ht2 : ∀ w ∈ gWs y bytes maxL ret, w.before args s = true := fun w hw => by
    rcases List.mem_cons.mp hw with rfl | hw
    · exact hts _ h5
    · exact hts _ hw
  exact va_cwS n ht2 (gGoodS (n := maxL) (r := ret) h1 h2 h4 h5) rfl hz.1 hz.2 hd hR
theorem g_cwN {R : Room} {s : State} {args : Array Value} {own host : String} {idx maxL : Nat} {y : MethodName} {bytes : ByteArray} {ret : Option FieldType} {rm : Room} {D : va_G} {G : gAd} (n : Nat) (hts : ∀ w ∈ gLW, w.before args s = true) (hX : gX D G s) (h1 : (own, idx, y, host) ∈ gNestM) (h2 : Cond.static y ∈ gLW) (h4 : Cond.initialized y.cls ∈ gLW) (h5 : Cond.code y bytes maxL ret ∈ gLW) (hz : rm.cells = 0 ∧ rm.slots = 0) (hd : y.cls ≠ "java/lang/invoke/MethodHandle" ∧ y.cls ≠ "java/lang/invoke/VarHandle" ∧ (parseMethodDescriptor y.desc).map (fun d => d.parameters.length) = some n) (hR : rm.frames + 1 ≤ R.frames ∧ 8 + (maxL + 11) + rm.locals ≤ R.locals) : va_CN R s args own idx y host bytes maxL ret (gWs y bytes maxL ret) rm 0 0 n ∧ (Cond.static y).before args s = true ∧ True := by
  have ht2 : ∀ w ∈ gWs y bytes maxL ret, w.before args s = true := fun w hw => by
    rcases List.mem_cons.mp hw with rfl | hw
    · exact hts _ h5
    · exact hts _ hw
  exact ⟨va_cnB n ht2 (gGood (n := maxL) (r := ret) h5) rfl hz.1 hz.2 (hX.2.2.2.2.2.2.1 _ h1) (hts _ h4) hd hR, hts _ h2, trivial⟩
end
section
def gQs {α : Type} (o : Option Nat) (f : Nat → Option α) : Option α := match o with
  | none => none
  | some j => if j = 29 ∨ j = 42 ∨ j = 55 ∨ j = 68 then f j else none
theorem gQs_some {α : Type} {o : Option Nat} {f : Nat → Option α} {r : α} (h : gQs o f = some r) : ∃ j, gPlan j ∧ o = some j ∧ f j = some r := by
  cases o with
  | none => cases h
  | some j =>
    unfold gQs at h
    dsimp only at h
    split at h
    · rename_i hj
      refine ⟨j, ?_, rfl, h⟩
      rcases hj with rfl | rfl | rfl | rfl
      · exact gPlan_29
      · exact gPlan_42
      · exact gPlan_55
      · exact gPlan_68
    · cases h
section GM1
variable {p : Program} {l : Launch} {e : Env} {R : Room} {s : State} {m : MethodId} {args : Array Value} {below : List Frame} {meth : Method} {c : Code} {H : Heap} {locs : List Loc} {cells slots : Nat} {Q : State → Prop}
variable {cc : ByteArray} {pc : Nat} {ls : Array Slot} {rest : List Value} {D : va_G} {G : gAd} {σ : gSt} {μ : gLg}
theorem g_lookIn (hexec : p.tables.exec = Jvm.exec) (hb : c.code = cc) {dflt : Int} {ps : Array (Int × Int)} {len : Nat} {x i : Int} {off : Int} {tgt : Nat} (hdg : decode cc pc = .ok (.lookupswitch dflt ps, len)) (hp : (ps.toList.zip (ps.toList.drop 1)).all (fun (a, next) => a.1 < next.1) = true) (hxi : x = i) (hR : gR i) (ho : Op.lookupswitch.offset ps.toList dflt i = off) (ht : (pc : Int) + off = (tgt : Int))
    (k : W p l e R s m args below meth c H locs cells slots Q (F0 m tgt ls rest)) : W p l e R s m args below meth c H locs cells slots Q (F0 m pc ls (.int (gI x) :: rest)) := by
  subst hxi
  exact lv_lookup hexec hb hdg hp (by rw [gI_t hR]; exact ho) ht k
theorem g_lookOut2 (hexec : p.tables.exec = Jvm.exec) (hb : c.code = cc) {dflt : Int} {ps : Array (Int × Int)} {len : Nat} {x a b oa ob : Int} {tgt : Nat} (hdg : decode cc pc = .ok (.lookupswitch dflt ps, len)) (hp : (ps.toList.zip (ps.toList.drop 1)).all (fun (a, next) => a.1 < next.1) = true) (hps : ps.toList = [(a, oa), (b, ob)]) (hR : gR x) (ha : ¬ x = a) (hb2 : ¬ x = b) (ht : (pc : Int) + dflt = (tgt : Int))
    (k : W p l e R s m args below meth c H locs cells slots Q (F0 m tgt ls rest)) : W p l e R s m args below meth c H locs cells slots Q (F0 m pc ls (.int (gI x) :: rest)) := by
  refine lv_lookup hexec hb hdg hp (off := dflt) ?_ ht k
  rw [gI_t hR, hps, Op.lookupswitch.offset_cons, if_neg (fun h => ha h.symm), Op.lookupswitch.offset_cons, if_neg (fun h => hb2 h.symm)]
  rfl
/-- the tables -/
theorem g_gets (hexec : p.tables.exec = Jvm.exec) (hb : c.code = cc) {own : String} {index : Nat} (q : String × List Int) (hown : s.vm.findClass own = some m.cls) (hX : gX D G s) (hH : gH D G s H locs σ μ) (hq : q ∈ gTab) (hlink : (Cond.fieldLink own index "TaskSheets" q.1 "[I").before args s = true) (hdg : decode cc pc = .ok (.getstatic index, 3))
    (kk : ∀ t : Nat, va_T .int t q.2.length (fun j => .int (gI (q.2.getD j 0))) (gA G) s s.heap → W p l e R s m args below meth c H locs cells slots Q (F0 m (pc + 3) ls (.ref t :: rest))) : W p l e R s m args below meth c H locs cells slots Q (F0 m pc ls rest) := by
  obtain ⟨t, hZ, hT⟩ := hX.2.2.1 q hq
  exact va_gets hexec hb hZ hH.2 hown hlink (fun x h => h) hdg (kk t hT)
theorem g_tlen (hexec : p.tables.exec = Jvm.exec) (hb : c.code = cc) {t n : Nat} {f : Nat → Value} (hT : va_T .int t n f (gA G) s s.heap) (hH : gH D G s H locs σ μ) (hdg : decode cc pc = .ok (.arraylength, 1))
    (kk : W p l e R s m args below meth c H locs cells slots Q (F0 m (pc + 1) ls (.int (gI n) :: rest))) : W p l e R s m args below meth c H locs cells slots Q (F0 m pc ls (.ref t :: rest)) :=
  va_tlen hexec hb hT hH.2 (gI_nat n) hdg kk
theorem g_tald {α : Type} {a : Option α} {r : α} (hexec : p.tables.exec = Jvm.exec) (hb : c.code = cc) {t n : Nat} {L : List Int} {i : Int} (hT : va_T .int t n (fun j => .int (gI (L.getD j 0))) (gA G) s s.heap) (hn : n ≤ 2147483647) (hH : gH D G s H locs σ μ) (hdg : decode cc pc = .ok (.iaload, 1)) (h : gAt i n a = some r)
    (kk : a = some r → W p l e R s m args below meth c H locs cells slots Q (F0 m (pc + 1) ls (.int (gI (L.getD (Int.toNat i) 0)) :: rest))) : W p l e R s m args below meth c H locs cells slots Q (F0 m pc ls (.int (gI i) :: .ref t :: rest)) := by
  obtain ⟨h1, h2⟩ := gAt_some h
  refine va_ti hexec hb hT hH.2 (gI_in h1.1 h1.2 hn) (v := .int (gI (L.getD (Int.toNat i) 0))) ?_ hdg (kk h2)
  rw [gI_c h1.1 ⟨by omega, by omega⟩]
theorem g_alenq2 (hexec : p.tables.exec = Jvm.exec) (hb : c.code = cc) (hX : gX D G s) (hH : gH D G s H locs σ μ) {k n : Nat} {rs : List Nat} (hk : gKinds[k]? = some (.inr (.inr (.inl rs)))) (hn : rs.length = n) (hdg : decode cc pc = .ok (.arraylength, 1))
    (kk : W p l e R s m args below meth c H locs cells slots Q (F0 m (pc + 1) ls (.int (gI n) :: rest))) : W p l e R s m args below meth c H locs cells slots Q (F0 m pc ls (.ref (G.1 k) :: rest)) := by
  subst hn
  exact g_alenq hexec hb hX hH hk hdg kk
theorem g_aretP (hexec : p.tables.exec = Jvm.exec) (hb : c.code = cc) {n : String} (hr : meth.sig.returnType = some (.object n)) (hH : gH D G s H locs σ μ) (hlocks : meth.locks = false) {v : Value} {o r : Option Nat} (hv : v = va_rf (o.map G.1)) (hdg : decode cc pc = .ok (.areturn, 1)) (h : some o = some r) : W p l e R s m args below meth c H locs cells slots (MQ below (gQq D G r σ μ) args s cells slots (gA G)) (F0 m pc ls [v]) := by
  cases h
  exact g_aret hexec hb hr hH hlocks hv hdg
theorem g_callVqs {y : MethodName} {bytes : ByteArray} {maxL nL n index : Nat} {ret : Option FieldType} {rm : Room} {Ts : List Cond} {own C : String} {As st0 : List Value} {σ' : gSt} {μ' : gLg} {k ci j : Nat} {sl : List (Nat ⊕ Bool)} {T : u_T} {N : Nat} (S : CallFix p m c cc nL s args Ts own) (hM : Met l y (gWs y bytes maxL ret) rm (gPc D G (.ref (G.1 k) :: As) σ μ) (gQq D G (some j) σ' μ') 0 0 (gA G)) (cw : CallW R s args own C index y bytes maxL ret (gWs y bytes maxL ret) rm 0 0 n) (hX : gX D G s) (hH : gH D G s H locs σ μ) (hk : gKinds[k]? = some (.inr (.inl (ci, sl)))) (hc : vwCl[ci]? = some (C, T, N)) (hn : As.length = n) (hsize : ls.size = nL) (hst : st0 = As.reverse ++ .ref (G.1 k) :: rest) (hW : (rest.map fun v => v.category).sum ≤ 8) (hdg : decode cc pc = .ok (.invokevirtual index, 3)) (hf : cells ≤ R.cells ∧ slots ≤ R.slots)
    (kk : ∀ (H1 : Heap) (locs1 : List Loc), gH D G s H1 locs1 σ' μ' → W p l e R s m args below meth c H1 locs1 cells slots Q (F0 m (pc + 3) ls (.ref (G.1 j) :: rest))) : W p l e R s m args below meth c H locs cells slots Q (F0 m pc ls st0) :=
  g_callVq S hM cw hX hH hk hc hn hsize hst hW hdg hf kk
/-! methods that may throw: the answer is the exception's number, or what comes back -/
def gExc (k : Nat) : String := if k = 1 then "java/lang/IllegalArgumentException" else if k = 2 then "java/lang/IllegalStateException" else "java/lang/IndexOutOfBoundsException"
def gXC {ρ : Type} (D : va_G) (G : gAd) (x : Nat ⊕ ρ) (σ : gSt) (μ : gLg) : String → State → State → Prop := vx_X (fun k : Nat => x = .inl k) (fun E k t => E = gExc k ∧ va_P D vwCl (gW G σ μ) t.heap) (gA G)
def gXv (D : va_G) (G : gAd) (x : Nat ⊕ Unit) (σ : gSt) (μ : gLg) : Array Value → State → Outcome → State → Prop := va_Qv (fun (_ : Unit) => x = .inr ()) (fun _ t => va_P D vwCl (gW G σ μ) t.heap) (gA G)
def gXp (D : va_G) (G : gAd) (x : Nat ⊕ Int) (σ : gSt) (μ : gLg) : Array Value → State → Outcome → State → Prop := va_Qi (fun (r : Int32) (u : Int) => x = .inr u ∧ r = gI u) (fun _ t => va_P D vwCl (gW G σ μ) t.heap) (gA G)
def gXs (D : va_G) (G : gAd) (x : Nat ⊕ (Int × gSt)) (μ : gLg) : Array Value → State → Outcome → State → Prop := va_Qi (fun (r : Int32) (u : Int × gSt) => x = .inr u ∧ r = gI u.1) (fun u t => va_P D vwCl (gW G u.2 μ) t.heap) (gA G)
theorem g_xvret (hexec : p.tables.exec = Jvm.exec) (hb : c.code = cc) (hr : meth.sig.returnType = none) (hH : gH D G s H locs σ μ) (hlocks : meth.locks = false) {x : Nat ⊕ Unit} {mc ms : Nat} (hc : cells ≤ mc) (hs : slots ≤ ms) (hdg : decode cc pc = .ok (.return_, 1)) (h : some (.inr ()) = some x) : W p l e R s m args below meth c H locs cells slots (vx_MQ below (gXv D G x σ μ) (gXC D G x σ μ) args s mc ms (gA G)) (F0 m pc ls []) := by
  cases h
  exact W.widen hc hs (vx_ret (W.vret hexec hb hr (fun t ht hW => ⟨⟨(), rfl, rfl, by dsimp only; rw [ht]; exact hH.1⟩, hH.2.F ht⟩) hH.2.2.2 hdg hlocks))
theorem g_xpret (hexec : p.tables.exec = Jvm.exec) (hb : c.code = cc) (hr : meth.sig.returnType = some .int) (hH : gH D G s H locs σ μ) (hlocks : meth.locks = false) {x : Nat ⊕ Int} {v : Int} {mc ms : Nat} (hc : cells ≤ mc) (hs : slots ≤ ms) (hdg : decode cc pc = .ok (.ireturn, 1)) (h : some (.inr v) = some x) : W p l e R s m args below meth c H locs cells slots (vx_MQ below (gXp D G x σ μ) (gXC D G x σ μ) args s mc ms (gA G)) (F0 m pc ls [.int (gI v)]) := by
  cases h
  exact W.widen hc hs (vx_ret (W.iret hexec hb hr (fun t ht hW => ⟨⟨_, v, rfl, ⟨rfl, rfl⟩, by dsimp only; rw [ht]; exact hH.1⟩, hH.2.F ht⟩) hH.2.2.2 hdg hlocks))
theorem g_xsret (hexec : p.tables.exec = Jvm.exec) (hb : c.code = cc) (hr : meth.sig.returnType = some .int) {σ1 : gSt} (hH : gH D G s H locs σ1 μ) (hlocks : meth.locks = false) {x : Nat ⊕ (Int × gSt)} {v : Int} {mc ms : Nat} (hc : cells ≤ mc) (hs : slots ≤ ms) (hdg : decode cc pc = .ok (.ireturn, 1)) (h : some (.inr (v, σ1)) = some x) : W p l e R s m args below meth c H locs cells slots (vx_MQ below (gXs D G x μ) (gXC D G x σ μ) args s mc ms (gA G)) (F0 m pc ls [.int (gI v)]) := by
  cases h
  exact W.widen hc hs (vx_ret (W.iret hexec hb hr (fun t ht hW => ⟨⟨_, (v, σ1), rfl, ⟨rfl, rfl⟩, by dsimp only; rw [ht]; exact hH.1⟩, hH.2.F ht⟩) hH.2.2.2 hdg hlocks))
end GM1
theorem g_fit (k : Nat) : Bundle.fit (gExc k) = true := by
  unfold gExc
  split
  · decide +kernel
  · split <;> decide +kernel
theorem g_names : ∀ n ∈ ["java/lang/RuntimeException", "java/lang/Exception"], Bundle.fit n = true := by decide +kernel
theorem g_ok1 : ∀ w ∈ (vx_atS RX8 75 "java/lang/IllegalArgumentException" ["java/lang/RuntimeException", "java/lang/Exception"]).filter goodWord, w ∈ lw_tbl := by decide +kernel
theorem g_ok2 : ∀ w ∈ (vx_atS RX8 111 "java/lang/IllegalStateException" ["java/lang/RuntimeException", "java/lang/Exception"]).filter goodWord, w ∈ lw_tbl := by decide +kernel
theorem g_ok3 : ∀ w ∈ (vx_atS RX8 190 "java/lang/IndexOutOfBoundsException" ["java/lang/RuntimeException", "java/lang/Exception"]).filter goodWord, w ∈ lw_tbl := by decide +kernel
theorem g_ot1 : ∀ w ∈ Cond.classLink RX8 71 "java/lang/IllegalArgumentException" :: Cond.initialized "java/lang/IllegalArgumentException" :: vx_atS RX8 75 "java/lang/IllegalArgumentException" ["java/lang/RuntimeException", "java/lang/Exception"], vx_ot w = true := by decide +kernel
theorem g_ot2 : ∀ w ∈ Cond.classLink RX8 107 "java/lang/IllegalStateException" :: Cond.initialized "java/lang/IllegalStateException" :: vx_atS RX8 111 "java/lang/IllegalStateException" ["java/lang/RuntimeException", "java/lang/Exception"], vx_ot w = true := by decide +kernel
theorem g_ot3 : ∀ w ∈ Cond.classLink RX8 186 "java/lang/IndexOutOfBoundsException" :: Cond.initialized "java/lang/IndexOutOfBoundsException" :: vx_atS RX8 190 "java/lang/IndexOutOfBoundsException" ["java/lang/RuntimeException", "java/lang/Exception"], vx_ot w = true := by decide +kernel
theorem g_bad1 : ∀ w ∈ (vx_atS RX8 75 "java/lang/IllegalArgumentException" ["java/lang/RuntimeException", "java/lang/Exception"]).filter (fun w => !goodWord w), w ∈ Cond.castable "java/lang/IllegalArgumentException" "java/lang/IllegalArgumentException" :: gDecl.map Cond.declares := by decide +kernel
theorem g_bad2 : ∀ w ∈ (vx_atS RX8 111 "java/lang/IllegalStateException" ["java/lang/RuntimeException", "java/lang/Exception"]).filter (fun w => !goodWord w), w ∈ Cond.castable "java/lang/IllegalStateException" "java/lang/IllegalStateException" :: gDecl.map Cond.declares := by decide +kernel
theorem g_bad3 : ∀ w ∈ (vx_atS RX8 190 "java/lang/IndexOutOfBoundsException" ["java/lang/RuntimeException", "java/lang/Exception"]).filter (fun w => !goodWord w), w ∈ Cond.castable "java/lang/IndexOutOfBoundsException" "java/lang/IndexOutOfBoundsException" :: gDecl.map Cond.declares := by decide +kernel
theorem g_hat {args : Array Value} {s : State} {L : List Cond} {E : String} {D : va_G} {G : gAd} (hX : gX D G s) (hts : ∀ w ∈ gLW, w.before args s = true) (hbad : ∀ w ∈ L.filter (fun w => !goodWord w), w ∈ Cond.castable E E :: gDecl.map Cond.declares) (hok : ∀ w ∈ L.filter goodWord, w ∈ lw_tbl) (hE : (E, E) ∈ gCast) : ∀ w ∈ L, w.before args s = true := by
  refine vx_hat (B := Cond.castable E E :: gDecl.map Cond.declares) (fun w hw => hts w (List.mem_filter.mpr ⟨hok w hw, (List.mem_filter.mp hw).2⟩)) hbad (fun w hw => ?_)
  rcases List.mem_cons.mp hw with rfl | hw
  · exact va_Nw.use rfl (hX.2.2.2.2.2.2.2.2.1 _ hE)
  · obtain ⟨y, hy, rfl⟩ := List.mem_map.mp hw
    exact va_Nw.use rfl (hX.2.2.2.2.2.2.2.2.2.2 y hy)
def gXb {α β : Type} (x : Option (Nat ⊕ α)) (f : α → Option (Nat ⊕ β)) : Option (Nat ⊕ β) := match x with
  | none => none
  | some (.inl k) => some (.inl k)
  | some (.inr a) => f a
theorem gXb_some {α β : Type} {x : Option (Nat ⊕ α)} {f : α → Option (Nat ⊕ β)} {r : Nat ⊕ β} (h : gXb x f = some r) : ∃ y, x = some y ∧ ((∃ k, y = .inl k ∧ r = .inl k) ∨ (∃ a, y = .inr a ∧ f a = some r)) := by
  cases x with
  | none => cases h
  | some y =>
    rcases y with k | a
    · exact ⟨_, rfl, Or.inl ⟨k, rfl, by cases h; rfl⟩⟩
    · exact ⟨_, rfl, Or.inr ⟨a, rfl, h⟩⟩
theorem gH_kept {D : va_G} {G : gAd} {s t : State} {H : Heap} {locs : List Loc} {σ : gSt} {μ : gLg} (hH : gH D G s H locs σ μ) (hz : H.size ≤ t.heap.size) (hq : ∀ q : Nat, q < H.size → t.heap[q]? = H[q]?) : va_P D vwCl (gW G σ μ) t.heap ∧ va_F (gA G) s t := by
  refine ⟨hH.1.kept (fun k q hk => hq _ (hH.1 k q hk).lt), Nat.le_trans hH.2.1 hz, fun q h1 h2 => ?_⟩
  rw [hq q (Nat.lt_of_lt_of_le h1 hH.2.1)]
  exact hH.2.2.1 q h1 h2
section GM2
variable {p : Program} {l : Launch} {e : Env} {R : Room} {s : State} {m : MethodId} {args : Array Value} {below : List Frame} {meth : Method} {c : Code} {H : Heap} {locs : List Loc} {cells slots : Nat} {Q : State → Prop}
variable {cc : ByteArray} {pc : Nat} {ls : Array Slot} {rest : List Value} {D : va_G} {G : gAd} {σ : gSt} {μ : gLg}
theorem g_throwS {ρ : Type} {Qc : Array Value → State → Outcome → State → Prop} (hexec : p.tables.exec = Jvm.exec) (hb : c.code = cc) (hlt : l.stackTraces = false) (hown : s.vm.findClass RX8 = some m.cls) (hts : ∀ w ∈ gLW, w.before args s = true) (hX : gX D G s) (hH : gH D G s H locs σ μ) {E text : String} {ik is ic k mc ms : Nat} {x : Nat ⊕ ρ} (hE : E = gExc k) (hkl : Cond.classLink RX8 ik E ∈ gLW) (hin : Cond.initialized E ∈ gLW) (hbad : ∀ w ∈ (vx_atS RX8 ic E ["java/lang/RuntimeException", "java/lang/Exception"]).filter (fun w => !goodWord w), w ∈ Cond.castable E E :: gDecl.map Cond.declares) (hok : ∀ w ∈ (vx_atS RX8 ic E ["java/lang/RuntimeException", "java/lang/Exception"]).filter goodWord, w ∈ lw_tbl) (hot : ∀ w ∈ Cond.classLink RX8 ik E :: Cond.initialized E :: vx_atS RX8 ic E ["java/lang/RuntimeException", "java/lang/Exception"], vx_ot w = true) (hc : (E, E) ∈ gCast) (hstr : (is, text) ∈ gStrs) (hsize : ls.size = c.maxLocals)
    (d0 : decode cc pc = .ok (.new ik, 3)) (d3 : decode cc (pc + 3) = .ok (.dup, 1)) (d4 : decode cc (pc + 4) = .ok (.ldc is, 2)) (d6 : decode cc (pc + 6) = .ok (.invokespecial ic, 3)) (d9 : decode cc (pc + 9) = .ok (.athrow, 1)) (hout : ∀ x ∈ c.exceptionTable.toList, False) (hR : (5 < R.frames ∧ (rest.map fun v => v.category).sum + 82 ≤ R.locals) ∧ cells + 1 ≤ R.cells ∧ slots + 6 ≤ R.slots) (hlocks : meth.locks = false) (hmc : cells + 1 ≤ mc ∧ slots + 6 ≤ ms) (h : some (.inl k) = some x) : W p l e R s m args below meth c H locs cells slots (vx_MQ below Qc (gXC D G x σ μ) args s mc ms (gA G)) (F0 m pc ls rest) := by
  cases h
  obtain ⟨sa, hsa⟩ := hX.2.2.2.2.2.1 _ hstr
  refine vx_throwS (A := gA G) (sa := sa) hexec hb hlt hown (by rw [hE]; exact g_fit k) g_names (hts _ hkl) (hts _ hin) hsa (g_hat hX hts hbad hok hc) hot hX.2.2.2.1 hX.2.2.2.2.1 hH.2 hsize d0 d3 d4 d6 d9 (fun x hx => (hout x hx).elim) hR.1.1 hR.1.2 hR.2.1 hR.2.2 hlocks (fun t _ hz hq => ?_) hH.2.2.2 hmc.1 hmc.2
  exact ⟨k, rfl, ⟨hE, (gH_kept hH hz hq).1⟩, (gH_kept hH hz hq).2⟩
theorem g_throwSW {ρ : Type} {Qc : Array Value → State → Outcome → State → Prop} (hexec : p.tables.exec = Jvm.exec) (hb : c.code = cc) (hlt : l.stackTraces = false) (hown : s.vm.findClass RX8 = some m.cls) (hts : ∀ w ∈ gLW, w.before args s = true) (hX : gX D G s) (hH : gH D G s H locs σ μ) {E text : String} {ik is ic k mc ms : Nat} {x : Nat ⊕ ρ} (hE : E = gExc k) (hkl : Cond.classLink RX8 ik E ∈ gLW) (hin : Cond.initialized E ∈ gLW) (hbad : ∀ w ∈ (vx_atS RX8 ic E ["java/lang/RuntimeException", "java/lang/Exception"]).filter (fun w => !goodWord w), w ∈ Cond.castable E E :: gDecl.map Cond.declares) (hok : ∀ w ∈ (vx_atS RX8 ic E ["java/lang/RuntimeException", "java/lang/Exception"]).filter goodWord, w ∈ lw_tbl) (hot : ∀ w ∈ Cond.classLink RX8 ik E :: Cond.initialized E :: vx_atS RX8 ic E ["java/lang/RuntimeException", "java/lang/Exception"], vx_ot w = true) (hc : (E, E) ∈ gCast) (hstr : (is, text) ∈ gStrs) (hsize : ls.size = c.maxLocals)
    (d0 : decode cc pc = .ok (.new ik, 3)) (d3 : decode cc (pc + 3) = .ok (.dup, 1)) (d4 : decode cc (pc + 4) = .ok (.ldc_w is, 3)) (d6 : decode cc (pc + 7) = .ok (.invokespecial ic, 3)) (d9 : decode cc (pc + 10) = .ok (.athrow, 1)) (hout : ∀ x ∈ c.exceptionTable.toList, False) (hR : (5 < R.frames ∧ (rest.map fun v => v.category).sum + 82 ≤ R.locals) ∧ cells + 1 ≤ R.cells ∧ slots + 6 ≤ R.slots) (hlocks : meth.locks = false) (hmc : cells + 1 ≤ mc ∧ slots + 6 ≤ ms) (h : some (.inl k) = some x) : W p l e R s m args below meth c H locs cells slots (vx_MQ below Qc (gXC D G x σ μ) args s mc ms (gA G)) (F0 m pc ls rest) := by
  cases h
  obtain ⟨sa, hsa⟩ := hX.2.2.2.2.2.1 _ hstr
  refine vx_throwSW (A := gA G) (sa := sa) hexec hb hlt hown (by rw [hE]; exact g_fit k) g_names (hts _ hkl) (hts _ hin) hsa (g_hat hX hts hbad hok hc) hot hX.2.2.2.1 hX.2.2.2.2.1 hH.2 hsize d0 d3 d4 d6 d9 (fun x hx => (hout x hx).elim) hR.1.1 hR.1.2 hR.2.1 hR.2.2 hlocks (fun t _ hz hq => ?_) hH.2.2.2 hmc.1 hmc.2
  exact ⟨k, rfl, ⟨hE, (gH_kept hH hz hq).1⟩, (gH_kept hH hz hq).2⟩
theorem g_xout {ρ : Type} {Qc : Array Value → State → Outcome → State → Prop} {x : Nat ⊕ ρ} {k mc ms : Nat} {E : String} {ce : Cell} {q : Addr} (hout : ∀ x ∈ c.exceptionTable.toList, False) (hlocks : meth.locks = false) (hE : E = gExc k) (hH : gH D G s H locs σ μ) (hce : H[q]? = some ce) (hv : ce.vm = .none) (hcl : s.vm.findClass E = some ce.cls) (hc : cells ≤ mc) (hs : slots ≤ ms) (hxk : x = .inl k) : vx_W p l e R s m args below meth c H locs cells slots (vx_MQ below Qc (gXC D G x σ μ) args s mc ms (gA G)) (F0 m pc ls rest) q :=
  vx_out (fun y hy => (hout y hy).elim) hlocks hce hv hcl (fun t ht _ => ⟨k, hxk, ⟨hE, by rw [ht]; exact hH.1⟩, hH.2.F ht⟩) hH.2.2.2 hc hs
theorem g_xcallVv {y : MethodName} {bytes : ByteArray} {maxL nL n index : Nat} {ret : Option FieldType} {rm : Room} {Ts : List Cond} {own C : String} {As st0 : List Value} {k ci : Nat} {sl : List (Nat ⊕ Bool)} {T : u_T} {N : Nat} {x : Nat ⊕ Unit} (S : CallFix p m c cc nL s args Ts own) (hM : vx_Met l y (gWs y bytes maxL ret) rm (gPc D G (.ref (G.1 k) :: As) σ μ) (gXv D G x σ μ) (gXC D G x σ μ) 1 6 (gA G)) (cw : CallW R s args own C index y bytes maxL ret (gWs y bytes maxL ret) rm 1 6 n) (hX : gX D G s) (hH : gH D G s H locs σ μ) (hk : gKinds[k]? = some (.inr (.inl (ci, sl)))) (hc : vwCl[ci]? = some (C, T, N)) (hn : As.length = n) (hsize : ls.size = nL) (hst : st0 = As.reverse ++ .ref (G.1 k) :: rest) (hW : (rest.map fun v => v.category).sum ≤ 8) (hdg : decode cc pc = .ok (.invokevirtual index, 3)) (hf : cells + 1 ≤ R.cells ∧ slots + 6 ≤ R.slots)
    (kx : ∀ (k : Nat) (E : String) (ce : Cell) (q : Addr) (H1 : Heap) (locs1 : List Loc), x = .inl k → E = gExc k → gH D G s H1 locs1 σ μ → H1[q]? = some ce → ce.vm = .none → s.vm.findClass E = some ce.cls → vx_W p l e R s m args below meth c H1 locs1 (cells + 1) (slots + 6) Q (F0 m pc ls rest) q)
    (kk : x = .inr () → ∀ (H1 : Heap) (locs1 : List Loc), gH D G s H1 locs1 σ μ → W p l e R s m args below meth c H1 locs1 (cells + 1) (slots + 6) Q (F0 m (pc + 3) ls rest)) : W p l e R s m args below meth c H locs cells slots Q (F0 m pc ls st0) := by
  refine vx_callv (A0 := gA G) (A1 := gA G) (AX := gA G) (vx_runV (As := As) (rest := rest) S hM cw ⟨gPc_blind, va_recv hX.1 hH.1 hc (gW_get hk), fun U hU hW2 => ⟨rfl, by rw [hU]; exact hH.1, hX.go hH.2 hU hW2⟩⟩ rfl hn hsize hst (lv_room hW) hdg hf) hH.2 (fun q _ h => h) (fun q h => h) (fun q _ h => h) (fun E ce q u t H1 locs1 ht hvm hp hB hz hq hS h1 h2 h3 => ?_) (fun u t H1 locs1 ht hvm hp hB hz hq hS => ?_)
  · have hB2 : va_P D vwCl (gW G σ μ) t.heap := hB.2
    rw [ht] at hB2
    exact kx u E ce q H1 locs1 hp hB.1 ⟨hB2, hS⟩ h1 h2 h3
  · have hB2 : va_P D vwCl (gW G σ μ) t.heap := hB
    rw [ht] at hB2
    exact kk hp H1 locs1 ⟨hB2, hS⟩
end GM2
theorem g_cwX {R : Room} {s : State} {args : Array Value} {own C : String} {idx maxL mc ms : Nat} {y : MethodName} {bytes : ByteArray} {ret : Option FieldType} {rm : Room} (n : Nat) (hts : ∀ w ∈ gLW, w.before args s = true) (h1 : Cond.methodLink own idx y ∈ gLW) (h2 : Cond.instanceMethod y ∈ gLW) (h3 : Cond.selects C y y ∈ gLW) (h4 : Cond.initialized C ∈ gLW) (h5 : Cond.code y bytes maxL ret ∈ gLW) (hz : rm.cells = mc ∧ rm.slots = ms) (hd : y.cls = C ∧ y.cls ≠ "java/lang/invoke/MethodHandle" ∧ y.cls ≠ "java/lang/invoke/VarHandle" ∧ (parseMethodDescriptor y.desc).map (fun d => d.parameters.length) = some n) (hR : rm.frames + 1 ≤ R.frames ∧ 8 + (maxL + 11) + rm.locals ≤ R.locals) : CallW R s args own C idx y bytes maxL ret (gWs y bytes maxL ret) rm mc ms n := by
  have ht2 : ∀ w ∈ gWs y bytes maxL ret, w.before args s = true := fun w hw => by
    rcases List.mem_cons.mp hw with rfl | hw
    · exact hts _ h5
    · exact hts _ hw
  exact cwV n ht2 (gGoodV (n := maxL) (r := ret) h1 h2 h3 h4 h5) rfl hz.1 hz.2 hd hR
theorem g_lretS {p : Program} {l : Launch} {e : Env} {R : Room} {s : State} {m : MethodId} {args : Array Value} {below : List Frame} {meth : Method} {c : Code} {H : Heap} {locs : List Loc} {cells slots : Nat} {cc : ByteArray} {pc : Nat} {ls : Array Slot} {D : va_G} {G : gAd} {σ : gSt} {μ : gLg} (hexec : p.tables.exec = Jvm.exec) (hb : c.code = cc) (hr : meth.sig.returnType = some .long) {σ' : gSt} (hH : gH D G s H locs σ μ) (hlocks : meth.locks = false) {v r : Int64} (hdg : decode cc pc = .ok (.lreturn, 1)) (h : some (v, σ) = some (r, σ')) : W p l e R s m args below meth c H locs cells slots (MQ below (gQl D G r σ' μ) args s cells slots (gA G)) (F0 m pc ls [.long v]) := by
  cases h
  exact g_lret hexec hb hr hH hlocks hdg
end
section
/-! rows of this law: bits and shifts as numbers; passing arrays; calls that make cells -/
theorem q_ki_L_7 : Cond.constant RL 7 (gI (40503 : Int)) ∈ gLW := List.mem_filter.mpr ⟨List.mem_of_getElem? (i := 269) (by decide +kernel), by decide +kernel⟩
theorem q_ki_L_8 : Cond.constant RL 8 (gI (2147483647 : Int)) ∈ gLW := List.mem_filter.mpr ⟨List.mem_of_getElem? (i := 273) (by decide +kernel), by decide +kernel⟩
theorem q_ki_L_25 : Cond.constant RL 25 (gI (100000 : Int)) ∈ gLW := List.mem_filter.mpr ⟨List.mem_of_getElem? (i := 277) (by decide +kernel), by decide +kernel⟩
theorem q_ki_L_61 : Cond.constant RL 61 (gI (-100002 : Int)) ∈ gLW := List.mem_filter.mpr ⟨List.mem_of_getElem? (i := 544) (by decide +kernel), by decide +kernel⟩
theorem q_ki_L_34 : Cond.constant RL 34 (gI (-100003 : Int)) ∈ gLW := List.mem_filter.mpr ⟨List.mem_of_getElem? (i := 545) (by decide +kernel), by decide +kernel⟩
theorem q_ki_L_46 : Cond.constant RL 46 (gI (-100001 : Int)) ∈ gLW := List.mem_filter.mpr ⟨List.mem_of_getElem? (i := 600) (by decide +kernel), by decide +kernel⟩
def gShr (x n : Int) : Int := ((gI x) >>> ((gI n) &&& 31)).toInt
def gAnd (x y : Int) : Int := ((gI x) &&& (gI y)).toInt
theorem gAnd_in (x : Int) : 0 ≤ gAnd x 2147483647 ∧ gAnd x 2147483647 ≤ 2147483647 := by
  have e : (gI x &&& gI 2147483647).toBitVec.toNat ≤ 2147483647 := by
    rw [Int32.toBitVec_and, BitVec.toNat_and]
    exact Nat.le_trans Nat.and_le_right (by decide +kernel)
  have c := BitVec.toInt_eq_toNat_cond (gI x &&& gI 2147483647).toBitVec
  have e2 : gAnd x 2147483647 = (gI x &&& gI 2147483647).toBitVec.toInt := rfl
  rw [if_pos (by omega)] at c
  rw [e2, c]
  omega
/-- one cell's content is another -/
def gPut (σ : gSt) (k : Nat) (f : Nat → Int) : gSt := fun k' => if k' = k then f else σ k'
theorem gPut_e {σ : gSt} {k : Nat} {f : Nat → Int} : gPut σ k f k = f := if_pos rfl
theorem gPut_n {σ : gSt} {k k' : Nat} {f : Nat → Int} (h : k' ≠ k) : gPut σ k f k' = σ k' := if_neg h
/-- one cell's address is another -/
def gMv (G : gAd) (k q : Nat) : gAd := (fun j => if j = k then q else G.1 j, G.2)
theorem gMv_e {G : gAd} {k q : Nat} : (gMv G k q).1 k = q := if_pos rfl
theorem gMv_n {G : gAd} {k q j : Nat} (h : j ≠ k) : (gMv G k q).1 j = G.1 j := if_neg h
/-- no slot refers to the cell k -/
def gNoK (k : Nat) : gKd → Bool
  | .inr (.inl o) => o.2.all (fun s => match s with | .inl i => i != k | _ => true)
  | .inr (.inr (.inl rs)) => rs.all (fun i => i != k)
  | _ => true
theorem gNoK_122 : gKinds.all (gNoK 122) = true := by decide +kernel
theorem gNoK_124 : gKinds.all (gNoK 124) = true := by decide +kernel
theorem gE_mv {G : gAd} {σ : gSt} {μ : gLg} {k q j : Nat} {f : Nat → Int} {t : gKd} (h : gNoK k t = true) (hj : j ≠ k) : gE (gMv G k q) σ μ j t = gE G (gPut σ k f) μ j t := by
  have hσ : gPut σ k f j = σ j := gPut_n hj
  rcases t with n | o | rs | n
  · simp only [gE, hσ]
    rfl
  · show Sum.inr _ = Sum.inr _
    congr 2
    apply List.ext_getElem?
    intro i
    rw [List.getElem?_mapIdx, List.getElem?_mapIdx]
    cases hi : o.2[i]? with
    | none => rfl
    | some x =>
      have hx := List.all_eq_true.mp h x (List.mem_of_getElem? hi)
      show some (gSl _ _ _ _ _ x) = some (gSl _ _ _ _ _ x)
      rcases x with a | b
      · have ha : a ≠ k := by simpa using hx
        show some (Value.ref ((gMv G k q).1 a)) = some (Value.ref (G.1 a))
        rw [gMv_n ha]
      · cases b
        · show some (Value.int (gI (σ j i))) = some (Value.int (gI (gPut σ k f j i)))
          rw [hσ]
        · rfl
  · show (Sum.inl (_, _, Sum.inr (Sum.inr (Sum.inr (Sum.inr (fun i => (rs[i]?).map (gMv G k q).1))))) : va_E) = Sum.inl (_, _, Sum.inr (Sum.inr (Sum.inr (Sum.inr (fun i => (rs[i]?).map G.1)))))
    have hf : (fun i : Nat => (rs[i]?).map (gMv G k q).1) = (fun i : Nat => (rs[i]?).map G.1) := by
      funext i
      cases hi : rs[i]? with
      | none => rfl
      | some x =>
        have hx := List.all_eq_true.mp h x (List.mem_of_getElem? hi)
        have ha : x ≠ k := by simpa using hx
        show some ((gMv G k q).1 x) = some (G.1 x)
        rw [gMv_n ha]
    rw [hf]
    rfl
  · rfl
theorem gA_mv {G : gAd} {k q a : Nat} (h : ¬ gA G a) (hq : a < q) : ¬ gA (gMv G k q) a := by
  rintro ⟨j, hj, e⟩
  by_cases hk : j = k
  · rw [hk, gMv_e] at e
    omega
  · rw [gMv_n hk] at e
    exact h ⟨j, hj, e⟩
theorem gA_back {G : gAd} {k q a : Nat} (h : gA (gMv G k q) a) (hq : a < q) : gA G a := by
  obtain ⟨j, hj, e⟩ := h
  by_cases hk : j = k
  · rw [hk, gMv_e] at e
    omega
  · rw [gMv_n hk] at e
    exact ⟨j, hj, e⟩
theorem gZs_mv {G : gAd} {s : State} {k q : Nat} (hq : s.heap.size ≤ q) (h : gZs (gA G) s s.heap) : gZs (gA (gMv G k q)) s s.heap := by
  have hz : ∀ {C n d : String} {v : Value}, va_Z C n d v (gA G) s s.heap → va_Z C n d v (gA (gMv G k q)) s s.heap := by
    rintro C n d v ⟨cf, kf, fi, f, a, cell, h1, h2, h3, h4, h5, h6, h7, h8⟩
    have ha : a < s.heap.size := (Array.getElem?_eq_some_iff.mp h5).1
    exact ⟨cf, kf, fi, f, a, cell, h1, h2, h3, h4, h5, h6, h7, gA_mv h8 (by omega)⟩
  have hx : ∀ {C n d : String}, vx_Zq C n d (gA G) s s.heap → vx_Zq C n d (gA (gMv G k q)) s s.heap := by
    rintro C n d ⟨g1, cf, kf, fi, f, a, cell, h1, h2, h3, h4, h5, h6, h7, h8, h9, h10⟩
    have ha : a < s.heap.size := (Array.getElem?_eq_some_iff.mp h5).1
    refine ⟨?_, cf, kf, fi, f, a, cell, h1, h2, h3, h4, h5, h6, h7, h8, h9, gA_mv h10 (by omega)⟩
    rcases g1 with g1 | ⟨t, g1⟩
    · exact Or.inl (hz g1)
    · exact Or.inr ⟨t, hz g1⟩
  obtain ⟨h1, h2, h3, h4⟩ := h
  refine ⟨fun p hp => ?_, hx h2, hx h3, h4⟩
  obtain ⟨t, g1, g2⟩ := h1 p hp
  obtain ⟨cell, e1, e2, e3, e4, e5, e6, e7⟩ := g2
  have ha : t < s.heap.size := (Array.getElem?_eq_some_iff.mp e1).1
  exact ⟨t, hz g1, cell, e1, e2, e3, e4, e5, e6, gA_mv e7 (Nat.lt_of_lt_of_le ha hq)⟩
theorem g_same2 {D : va_G} {tys : List (ClassId × FieldType)} {s : State} (hK : va_K D vwCl tys s) {cA cB : ClassId} (i j : Nat) (hi : tys[i]? = some (cA, .int)) (hj : tys[j]? = some (cB, .int)) : cB = cA := by
  have h1 : s.vm.findClass ("[" ++ FieldType.int.toString) = some cA := (hK.2 i _ hi).2
  have h2 : s.vm.findClass ("[" ++ FieldType.int.toString) = some cB := (hK.2 j _ hj).2
  exact Option.some.inj (h2.symm.trans h1)
section GR1
variable {p : Program} {l : Launch} {e : Env} {R : Room} {s : State} {m : MethodId} {args : Array Value} {below : List Frame} {meth : Method} {c : Code} {H : Heap} {locs : List Loc} {cells slots : Nat} {Q : State → Prop}
variable {cc : ByteArray} {pc : Nat} {ls : Array Slot} {rest : List Value} {D : va_G} {G : gAd} {σ : gSt} {μ : gLg}
theorem g_ishr (hexec : p.tables.exec = Jvm.exec) (hb : c.code = cc) {x n : Int} (hdg : decode cc pc = .ok (.ishr, 1)) (k : W p l e R s m args below meth c H locs cells slots Q (F0 m (pc + 1) ls (.int (gI (gShr x n)) :: rest))) : W p l e R s m args below meth c H locs cells slots Q (F0 m pc ls (.int (gI n) :: .int (gI x) :: rest)) :=
  lv_ishr hexec hb hdg (by rw [gI_x (gI x >>> (gI n &&& 31))]; exact k)
theorem g_iand (hexec : p.tables.exec = Jvm.exec) (hb : c.code = cc) {x y : Int} (hdg : decode cc pc = .ok (.iand, 1)) (k : W p l e R s m args below meth c H locs cells slots Q (F0 m (pc + 1) ls (.int (gI (gAnd x y)) :: rest))) : W p l e R s m args below meth c H locs cells slots Q (F0 m pc ls (.int (gI y) :: .int (gI x) :: rest)) :=
  lv_iand hexec hb hdg (by rw [gI_x (gI x &&& gI y)]; exact k)
/-- a passing array: the cell k is made anew -/
theorem g_newB {k : Nat} (hk : gKinds[k]? = some (.inl 24)) (hno : gKinds.all (gNoK k) = true) (hexec : p.tables.exec = Jvm.exec) (hb : c.code = cc) (hts : ∀ w ∈ gLW, w.before args s = true) (hX : gX D G s) (hP : va_P D vwCl (gW G σ μ) s.heap) (hR : 0 + 1 ≤ R.cells ∧ 0 + 24 ≤ R.slots) (hdg : decode cc pc = .ok (.newarray .int, 2))
    (kk : ∀ (q : Nat) (H1 : Heap), s.heap.size ≤ q → gX D (gMv G k q) s → gH D (gMv G k q) s H1 [] (gPut σ k (fun _ => 0)) μ → W p l e R s m args below meth c H1 [] (0 + 1) (0 + 24) Q (F0 m (pc + 2) ls (.ref q :: rest))) : W p l e R s m args below meth c s.heap [] 0 0 Q (F0 m pc ls (.int (gI 24) :: rest)) := by
  have hold : ∀ j, j < gN → G.1 j < s.heap.size := fun j hj => by
    have hj2 : j < gKinds.length := by rw [gN_len]; exact hj
    exact (hP j _ (gW_get (List.getElem?_eq_getElem hj2))).lt
  have hne : ∀ j, j < gN → s.heap.size ≠ G.1 j := fun j hj e0 => by
    have := hold j hj
    omega
  refine va_newaK (atype := .int) (g := F0 m pc ls (.int (gI 24) :: rest)) (N := 24) hexec hb (hts _ q_ac_int) rfl hdg rfl (by decide) (by decide +kernel) (by decide) hR.1 hR.2 rfl (fun H1 cA n1 z1 o1 hAr hNm => ?_)
  have hcA : cA = G.2.1 := by
    have h1 : s.vm.findClass ("[" ++ FieldType.int.toString) = some G.2.1 := (hX.1.2 0 (G.2.1, .int) rfl).2
    have h2 : s.vm.findClass ("[" ++ FieldType.int.toString) = some cA := hNm
    exact Option.some.inj (h2.symm.trans h1)
  subst hcA
  refine kk s.heap.size H1 (Nat.le_refl _) ⟨hX.1, fun i j hi hj h => ?_, gZs_mv (Nat.le_refl _) hX.2.2⟩ ⟨fun j x hx => ?_, by rw [z1]; omega, fun a h1 h2 => o1 a h1, fun x h => by cases h⟩
  · by_cases e1 : i = k
    · by_cases e2 : j = k
      · rw [e1, e2]
      · rw [e1, gMv_e, gMv_n e2] at h
        exact absurd h (hne j hj)
    · by_cases e2 : j = k
      · rw [e2, gMv_e, gMv_n e1] at h
        exact absurd h.symm (hne i hi)
      · rw [gMv_n e1, gMv_n e2] at h
        exact hX.2.1 i j hi hj h
  · obtain ⟨t, ht, rfl⟩ := gW_inv hx
    by_cases e1 : j = k
    · subst e1
      rw [hk] at ht
      cases ht
      rw [gMv_e]
      show va_at D vwCl (s.heap.size, .inl (G.2.1, 24, .inl (fun i => gI (gPut σ j (fun _ => 0) j i)))) H1
      rw [gPut_e]
      exact n1
    · rw [gMv_n e1, gE_mv (f := σ k) (List.all_eq_true.mp hno t (List.mem_of_getElem? ht)) e1]
      have e2 : gPut (gPut σ k (fun _ => 0)) k (σ k) = σ := by
        funext k'
        by_cases e3 : k' = k
        · rw [e3, gPut_e]
        · rw [gPut_n e3, gPut_n e3]
      rw [e2]
      have h0 := hP j _ (gW_get ht)
      exact h0.kept (o1 _ h0.lt)
/-- what was written in new cells is forgotten -/
theorem g_old {g : JFrame} (kk : W p l e R s m args below meth c H (locs.filter (fun z => decide (z.base < s.heap.size))) cells slots Q g) : W p l e R s m args below meth c H locs cells slots Q g := fun T hT X => kk T hT { X with same := X.same.weaken (fun y hy hlt => List.mem_filter.mpr ⟨hy, decide_eq_true hlt⟩) (Nat.le_refl _) (Nat.le_refl _) }
theorem g_backP {k q : Nat} {σ' : gSt} (hk : gKinds[k]? = some (.inl 24)) (hno : gKinds.all (gNoK k) = true) (hX : gX D G s) (hP : va_P D vwCl (gW G σ μ) s.heap) (hq : s.heap.size ≤ q) (hH : gH D (gMv G k q) s H locs σ' μ) : va_P D vwCl (gW G (gPut σ' k (σ k)) μ) H := by
  intro j x hx
  obtain ⟨t, ht, rfl⟩ := gW_inv hx
  by_cases e1 : j = k
  · subst e1
    have h0 := hP j _ (gW_get ht)
    have hl := h0.lt
    have e2 : gE G (gPut σ' j (σ j)) μ j t = gE G σ μ j t := by
      rw [hk] at ht
      cases ht
      simp only [gE, gPut_e]
    rw [e2]
    refine h0.kept (hH.2.2.1 _ hl (fun z => ?_))
    obtain ⟨i, hi, e0⟩ := z
    by_cases e3 : i = j
    · rw [e3, gMv_e] at e0
      have hl : G.1 j < s.heap.size := hl
      omega
    · rw [gMv_n e3] at e0
      exact e3 (hX.2.1 i j hi (gN_of ht) e0.symm)
  · have h0 := hH.1 j _ (gW_get ht)
    rw [gMv_n e1, gE_mv (f := σ k) (List.all_eq_true.mp hno t (List.mem_of_getElem? ht)) e1] at h0
    exact h0
theorem g_retM {k q : Nat} {σ' : gSt} {v : Int} (hk : gKinds[k]? = some (.inl 24)) (hno : gKinds.all (gNoK k) = true) (hexec : p.tables.exec = Jvm.exec) (hb : c.code = cc) (hr : meth.sig.returnType = some .int) (hX : gX D G s) (hP : va_P D vwCl (gW G σ μ) s.heap) (hq : s.heap.size ≤ q) (hH : gH D (gMv G k q) s H locs σ' μ) (hlocks : meth.locks = false) (hdg : decode cc pc = .ok (.ireturn, 1)) : W p l e R s m args below meth c H locs cells slots (MQ below (gQi D G v (gPut σ' k (σ k)) μ) args s cells slots (gA G)) (F0 m pc ls [.int (gI v)]) := by
  have hB := g_backP hk hno hX hP hq hH
  refine g_old (W.iret hexec hb hr (fun t ht hW => ⟨⟨_, (), rfl, rfl, by show va_P D vwCl (gW G _ μ) t.heap; rw [ht]; exact hB⟩, by rw [ht]; exact hH.2.1, fun a h1 h2 => by rw [ht]; exact hH.2.2.1 a h1 (gA_mv h2 (by omega))⟩) (fun z hz => ?_) hdg hlocks)
  obtain ⟨z1, z2⟩ := List.mem_filter.mp hz
  exact gA_back (hH.2.2.2 z z1) (Nat.lt_of_lt_of_le (of_decide_eq_true z2) hq)
theorem g_retMz {k q : Nat} {σ' : gSt} {v : Int} (hv : v = 0 ∨ v = 1) (hk : gKinds[k]? = some (.inl 24)) (hno : gKinds.all (gNoK k) = true) (hexec : p.tables.exec = Jvm.exec) (hb : c.code = cc) (hr : meth.sig.returnType = some .boolean) (hX : gX D G s) (hP : va_P D vwCl (gW G σ μ) s.heap) (hq : s.heap.size ≤ q) (hH : gH D (gMv G k q) s H locs σ' μ) (hlocks : meth.locks = false) (hdg : decode cc pc = .ok (.ireturn, 1)) : W p l e R s m args below meth c H locs cells slots (MQ below (gQi D G v (gPut σ' k (σ k)) μ) args s cells slots (gA G)) (F0 m pc ls [.int (gI v)]) := by
  have hB := g_backP hk hno hX hP hq hH
  refine g_old (W.zret hexec hb hr (by rcases hv with rfl | rfl <;> rfl) (fun t ht hW => ⟨⟨_, (), rfl, rfl, by show va_P D vwCl (gW G _ μ) t.heap; rw [ht]; exact hB⟩, by rw [ht]; exact hH.2.1, fun a h1 h2 => by rw [ht]; exact hH.2.2.1 a h1 (gA_mv h2 (by omega))⟩) (fun z hz => ?_) hdg hlocks)
  obtain ⟨z1, z2⟩ := List.mem_filter.mp hz
  exact gA_back (hH.2.2.2 z z1) (Nat.lt_of_lt_of_le (of_decide_eq_true z2) hq)
/-- a static call that makes cells -/
theorem g_callAi {y : MethodName} {bytes : ByteArray} {maxL nL n index mc ms : Nat} {ret : Option FieldType} {rm : Room} {Ts : List Cond} {own : String} {As st0 : List Value} {σ' : gSt} {μ' : gLg} {r : Int} (S : CallFix p m c cc nL s args Ts own) (hM : Met l y (gWs y bytes maxL ret) rm (gPc D G (As) σ μ) (gQi D G r σ' μ') mc ms (gA G)) (cw : CallB R s args own index y bytes maxL ret (gWs y bytes maxL ret) rm mc ms n ∧ (Cond.static y).before args s = true) (hX : gX D G s) (hH : gH D G s H locs σ μ) (hn : As.length = n) (hsize : ls.size = nL) (hst : st0 = As.reverse ++ rest) (hW : (rest.map fun v => v.category).sum ≤ 8) (hdg : decode cc pc = .ok (.invokestatic index, 3)) (hf : cells + mc ≤ R.cells ∧ slots + ms ≤ R.slots)
    (kk : ∀ (H1 : Heap) (locs1 : List Loc), gH D G s H1 locs1 σ' μ' → W p l e R s m args below meth c H1 locs1 (cells + mc) (slots + ms) Q (F0 m (pc + 3) ls (.int (gI r) :: rest))) : W p l e R s m args below meth c H locs cells slots Q (F0 m pc ls st0) := by
  refine va_calli (mc := mc) (ms := ms) (free := gA G) (A0 := gA G) (A1 := gA G) (va_runS (As := As) (rest := rest) S hM cw ⟨gPc_blind, fun U hU hW2 => ⟨rfl, by rw [hU]; exact hH.1, hX.go hH.2 hU hW2⟩⟩ rfl hn hsize hst (lv_room hW) hdg hf) hH.2 (fun q _ h => h) (fun q h => h) (fun r0 u t H1 locs1 ht hvm hp hB hz hq hS => ?_)
  have hB2 : va_P D vwCl (gW G σ' μ') t.heap := hB
  rw [ht] at hB2
  subst hp
  exact kk H1 locs1 ⟨hB2, hS⟩
end GR1
theorem g_cwA {R : Room} {s : State} {args : Array Value} {own : String} {idx maxL mc ms : Nat} {y : MethodName} {bytes : ByteArray} {ret : Option FieldType} {rm : Room} (n : Nat) (hts : ∀ w ∈ gLW, w.before args s = true) (h1 : Cond.methodLink own idx y ∈ gLW) (h2 : Cond.static y ∈ gLW) (h4 : Cond.initialized y.cls ∈ gLW) (h5 : Cond.code y bytes maxL ret ∈ gLW) (hz : rm.cells = mc ∧ rm.slots = ms) (hd : y.cls ≠ "java/lang/invoke/MethodHandle" ∧ y.cls ≠ "java/lang/invoke/VarHandle" ∧ (parseMethodDescriptor y.desc).map (fun d => d.parameters.length) = some n) (hR : rm.frames + 1 ≤ R.frames ∧ 8 + (maxL + 11) + rm.locals ≤ R.locals) : CallB R s args own idx y bytes maxL ret (gWs y bytes maxL ret) rm mc ms n ∧ (Cond.static y).before args s = true := by
  have ht2 : ∀ w ∈ gWs y bytes maxL ret, w.before args s = true := fun w hw => by
    rcases List.mem_cons.mp hw with rfl | hw
    · exact hts _ h5
    · exact hts _ hw
  exact va_cwS n ht2 (gGoodS (n := maxL) (r := ret) h1 h2 h4 h5) rfl hz.1 hz.2 hd hR
end
