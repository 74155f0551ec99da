/-! ===== BEGIN words of one list among another's, by their places ===== -/
theorem goodIn_r {big : List Cond} (ws : List Cond) (ps : List Nat) (hp : ws = ps.filterMap (fun i => big[i]?)) (h : ws.all goodWord = true) : GoodIn big ws := by
  intro w hw
  have h1 := List.all_eq_true.mp h w hw
  rw [hp] at hw
  obtain ⟨i, -, hi⟩ := List.mem_filterMap.mp hw
  have hm : w ∈ big := by first | exact List.mem_of_getElem? hi | exact List.getElem?_mem hi
  exact ⟨hm, good_of_word h1⟩
theorem goodIn_app {big a b : List Cond} (ha : GoodIn big a) (hb : GoodIn big b) : GoodIn big (a ++ b) := fun w h => (List.mem_append.mp h).elim (ha w) (hb w)
theorem goodIn_ca {big a b : List Cond} {c : Cond} (ha : GoodIn big (c :: a)) (hb : GoodIn big b) : GoodIn big (c :: (a ++ b)) := fun w h => (List.mem_cons.mp h).elim (fun e => ha w (List.mem_cons.mpr (Or.inl e))) (fun h => (List.mem_append.mp h).elim (fun h => ha w (List.mem_cons.mpr (Or.inr h))) (hb w))
theorem goodIn_sub {big ws : List Cond} (hm : ∀ w ∈ ws, w ∈ big) (h : ws.all goodWord = true) : GoodIn big ws := fun w hw => ⟨hm w hw, good_of_word (List.all_eq_true.mp h w hw)⟩
/-! ===== END ===== -/

/-! ===== BEGIN exceptions that leave a method, and their catching by the caller (launches without stack traces) ===== -/
section VXA
/-! The laws vx_back, vx_callV, vx_callS, vx_callSW, vx_throw0, vx_throwS follow proofs of the library, with one case more: JvmDerived/Free/Laws.lean (Back.of_free), Shelf42/LK1.lean (callV, callS), Shelf/KitTraced.lean (throwNew0V, throwNewS). -/
/-- where a method has thrown q: the class by its name, the cell, what was written, the world -/
def vx_T (XC : String → State → State → Prop) (st : State) (q : Addr) (t : State) (mc ms : Nat) (free : Addr → Prop) : Prop :=
  ∃ (E : String) (ce : Cell) (L : List Loc), XC E st t ∧ t.heap[q]? = some ce ∧ ce.vm = .none ∧ st.vm.findClass E = some ce.cls ∧ st.WarmedH t.vm ∧ st.sameButNew ({ t with vm := st.vm } : State) L mc ms ∧ ∀ z ∈ L, free z.base
def vx_Q (Qc : Array Value → State → Outcome → State → Prop) (XC : String → State → State → Prop) (mc ms : Nat) (free : Addr → Prop) : Array Value → State → Outcome → State → Prop := fun a st o t =>
  (Qc a st o t ∧ ∃ L, FrameEnd st o t L mc ms ∧ ∀ q ∈ L, free q.base) ∨ ∃ q, o = .threw q ∧ vx_T XC st q t mc ms free
/-- a callee that returns or throws -/
def vx_Met (l : Launch) (y : MethodName) (ws : List Cond) (rm : Room) (Pc : Array Value → State → Prop) (Qc : Array Value → State → Outcome → State → Prop) (XC : String → State → State → Prop) (mc ms : Nat) (free : Addr → Prop) : Prop :=
  MetFree l y (headSpec ws rm) Pc (fun _ _ _ _ _ => True) (vx_Q Qc XC mc ms free)
def vx_Post (XC : String → State → State → Prop) (mc ms : Nat) (free : Addr → Prop) : Pt → Array Value → Addr → Pt → Prop := fun A a q B =>
  ∃ (g : JFrame) (mk : MethodId) (t : State) (L : List Loc) (E : String) (ce : Cell), B.U.heap = t.heap ∧ B.U.vm = t.vm ∧ XC E (A.U.calling g mk a) t ∧ t.heap[q]? = some ce ∧ ce.vm = .none ∧ A.U.vm.findClass E = some ce.cls ∧ B.locs = A.locs ++ L ∧ (∀ z ∈ L, free z.base) ∧ B.cells = A.cells + mc ∧ B.slots = A.slots + ms
def vx_Back (l : Launch) (R : Room) (p : Program) (e : Env) (below : List Frame) (s : State) (sargs : Array Value) (y : MethodName) (len W9 : Nat)
    (Pre : Pt → Array Value → Prop) (Post : Pt → Array Value → Option Value → Pt → Prop) (PostX : Pt → Array Value → Addr → Pt → Prop) : Prop :=
  ∀ (m : MethodId) (meth : Method) (c : Code) (A : Pt) (g : JFrame) (ig : Instr) (mk : MethodId) (a : Array Value),
    Stand p l e R s m sargs below meth c A.U A.locs A.cells A.slots → g.method = m → g.locals.size = c.maxLocals → decode c.code g.pc = .ok (ig, len) →
    2 * g.monitorRoom + (g.stack.map fun v => v.category).sum ≤ W9 → A.U.methodNamed? y = some mk → Pre A a →
    (∃ (v : Option Value) (B : Pt), Stand p l e R s m sargs below meth c B.U B.locs B.cells B.slots ∧ Post A a v B ∧
      Steps p.tables e below (doInvoke e (A.U.setTop g) [] mk a).1 (B.U.setTop { g with pc := g.pc + len, stack := v.toList ++ g.stack })) ∨
    (∃ (q : Addr) (B : Pt), Stand p l e R s m sargs below meth c B.U B.locs B.cells B.slots ∧ PostX A a q B ∧
      Steps p.tables e below (doInvoke e (A.U.setTop g) [] mk a).1 ((B.U.setTop g).pushFrame (.throwing q)))
section Payer
variable {l : Launch} {R : Room} {p : Program} {e : Env} {below : List Frame} {s : State} {sargs : Array Value} {y : MethodName} {len W9 : Nat}
theorem vx_back {ws : List Cond} {rm : Room} {Pc : Array Value → State → Prop} {Qc : Array Value → State → Outcome → State → Prop} {XC : String → State → State → Prop} {mc ms : Nat} {free : Addr → Prop} {bytes : ByteArray} {maxL : Nat} {ret : Option FieldType}
    (hM : vx_Met l y ws rm Pc Qc XC mc ms free) (hblind : FrameBlind Pc) (hrc : rm.cells = mc) (hrs : rm.slots = ms)
    (hframes : rm.frames + 1 ≤ R.frames) (hlocals : W9 + (maxL + 11) + rm.locals ≤ R.locals)
    (hws : ∀ w ∈ ws, ∀ a' U, s.WarmedH U.vm → w.before a' U = true) (hcode : Cond.code y bytes maxL ret ∈ ws) (hinit : ∀ a' U, s.WarmedH U.vm → (Cond.initialized y.cls).before a' U = true) :
    vx_Back l R p e below s sargs y len W9 (PreOf R mc ms Pc) (PostOf Qc mc ms free) (vx_Post XC mc ms free) := by
  intro m meth c A g ig mk a X hg hsize hdg hW hn hp
  have h1 : (headSpec ws rm).pre.before a A.U = true := atoms_intro fun w hw => hws w hw _ _ X.warmed
  have h2 : (Cond.code y bytes maxL ret).before a A.U = true := hws _ hcode _ _ X.warmed
  have h3 : (Cond.initialized y.cls).before a A.U = true := hinit _ _ X.warmed
  have h4 : A.cells + (headSpec ws rm).room.cells ≤ R.cells := by rw [show (headSpec ws rm).room.cells = mc from hrc]; exact hp.1
  have h5 : A.slots + (headSpec ws rm).room.slots ≤ R.slots := by rw [show (headSpec ws rm).room.slots = ms from hrs]; exact hp.2.1
  have hPc : Pc a (A.U.calling g mk a) := hblind _ _ _ _ hp.2.2
  obtain ⟨U, Ls, c0, s0⟩ := A
  dsimp only [Pt.U, Pt.locs, Pt.cells, Pt.slots] at h1 h2 h3 h4 h5 X hn hPc ⊢
  obtain ⟨methY, cY, hmY, hcY, -, hlY, -, -, -, -⟩ := Cond.code_spec hn h2
  obtain ⟨kY, hkY, -⟩ := className_of_methodNamed hn
  have hinitY : kY.init = .initialized := Cond.initialized_spec (findClass_of_methodNamed hn) hkY h3
  have h : At U g.method c below := by rw [hg]; exact X.here
  have hlocals9 : W9 + (maxL + 11) + (headSpec ws rm).room.locals ≤ R.locals := hlocals
  have happ : (headSpec ws rm).appliesLoose y e.platform (U.calling g mk a) = true :=
    Spec.appliesLoose_calling (g := g) h hdg hn hkY hinitY
      (X.room_calling (g := g) (R' := (headSpec ws rm).room) hsize hmY hcY hframes (by rw [hlY]; omega) h4 h5) h1
  obtain ⟨mid, hmid⟩ := h.above
  have hfr : (U.setTop g).frames = (.java g :: mid) ++ below := by rw [State.frames_setTop' g h.top, hmid]; rfl
  obtain ⟨o, s₂, hsteps, -, hend, hq⟩ := Steps.callFree hM p X.admits X.cas X.clock (acts := []) hfr happ hPc trivial
  have hq' : vx_Q Qc XC mc ms free a (U.calling g mk a) o s₂ := hq
  rw [State.frames_setTop' g h.top] at hend
  obtain ⟨g₀, hg0⟩ := Option.isSome_iff_exists.mp h.top
  obtain ⟨r, hr⟩ := State.topJava?_eq_some.mp hg0
  have hr' : (({ U with heap := s₂.heap, slotsUsed := s₂.slotsUsed } : State).setVm s₂.vm).frames = .java g₀ :: r := hr
  rcases hq' with ⟨hqc, L, hfe, hL⟩ | ⟨q, rfl, E, ce, L, hx, hce, hcv, hcl, hW₂, hsm, hL⟩
  · obtain ⟨⟨v, rfl⟩, hW₂, e2, q2, q3, q4, q5, q6⟩ := id hfe
    have e3 : s₂ = ({ (U.calling g mk a).setFrames s₂.frames with heap := s₂.heap, slotsUsed := s₂.slotsUsed } : State).setVm s₂.vm := by
      have : s₂ = ({ s₂ with vm := (U.calling g mk a).vm } : State).setVm s₂.vm := rfl
      rw [e2] at this
      exact this
    obtain ⟨c₂, i₂, len₂, hc₂, hd₂, hf₂⟩ := hend
    have hW' : U.WarmedH s₂.vm := hW₂
    have hcc : c₂ = c := by
      have h1 : s₂.code? g.method = U.code? g.method := by
        rw [State.code?_eq, State.code?_eq, hW'.alike.method?]
      exact Option.some.inj (hc₂.symm.trans (h1.trans h.code))
    subst hcc
    have hlen : len₂ = len := by rw [hdg] at hd₂; cases hd₂; rfl
    subst hlen
    have hs₂ : s₂ = (({ U with heap := s₂.heap, slotsUsed := s₂.slotsUsed } : State).setVm s₂.vm).setTop { g with pc := g.pc + len₂, stack := v.toList ++ g.stack } := by
      refine e3.trans ?_
      rw [hf₂, State.calling_eq h.top, State.setFrames_setFrames, State.setTop_of_frames _ hr', hr]
      rfl
    have hsame : U.sameButNew ({ U with heap := s₂.heap, slotsUsed := s₂.slotsUsed } : State) L mc ms := by
      refine ⟨?_, q2, q3, q4, q5, q6⟩
      obtain ⟨t, ht, -⟩ := State.frames_cons hr
      show ({ U with heap := s₂.heap, slotsUsed := s₂.slotsUsed } : State) = { U.setFrames U.frames with heap := s₂.heap, slotsUsed := s₂.slotsUsed }
      rw [State.setFrames_self ht]
    subst hg
    refine Or.inl ⟨v, ⟨(({ U with heap := s₂.heap, slotsUsed := s₂.slotsUsed } : State).setVm s₂.vm), Ls ++ L, c0 + mc, s0 + ms⟩,
      ⟨X.admits, X.cas, X.clock, X.frames, X.room, X.hears, X.method, X.code, (X.here.setHeapUsed s₂.heap s₂.slotsUsed).setVm hW'.alike, X.tail, State.WarmedH.trans X.warmed hW', X.limits, X.bytes, X.same.trans (hsame.setVm s.vm)⟩,
      ⟨g, mk, s₂, L, rfl, rfl, hqc, rfl, hL, rfl, rfl⟩, ?_⟩
    show Steps p.tables e below _ ((({ U with heap := s₂.heap, slotsUsed := s₂.slotsUsed } : State).setVm s₂.vm).setTop { g with pc := g.pc + len₂, stack := v.toList ++ g.stack })
    rw [← hs₂]
    exact hsteps
  · obtain ⟨e2, q2, q3, q4, q5, q6⟩ := id hsm
    have e3 : s₂ = ({ (U.calling g mk a).setFrames s₂.frames with heap := s₂.heap, slotsUsed := s₂.slotsUsed } : State).setVm s₂.vm := by
      have : s₂ = ({ s₂ with vm := (U.calling g mk a).vm } : State).setVm s₂.vm := rfl
      rw [e2] at this
      exact this
    have hf₂ : s₂.frames = .throwing q :: .java g :: U.frames.tail := hend
    have hW' : U.WarmedH s₂.vm := hW₂
    have hs₂ : s₂ = ((({ U with heap := s₂.heap, slotsUsed := s₂.slotsUsed } : State).setVm s₂.vm).setTop g).pushFrame (.throwing q) := by
      refine e3.trans ?_
      rw [hf₂, State.calling_eq h.top, State.setFrames_setFrames, State.pushFrame, State.frames_setTop _ hr', State.setTop_of_frames _ hr', State.setFrames_setFrames, hr]
      rfl
    have hsame : U.sameButNew ({ U with heap := s₂.heap, slotsUsed := s₂.slotsUsed } : State) L mc ms := by
      refine ⟨?_, q2, q3, q4, q5, q6⟩
      obtain ⟨t, ht, -⟩ := State.frames_cons hr
      show ({ U with heap := s₂.heap, slotsUsed := s₂.slotsUsed } : State) = { U.setFrames U.frames with heap := s₂.heap, slotsUsed := s₂.slotsUsed }
      rw [State.setFrames_self ht]
    subst hg
    refine Or.inr ⟨q, ⟨(({ U with heap := s₂.heap, slotsUsed := s₂.slotsUsed } : State).setVm s₂.vm), Ls ++ L, c0 + mc, s0 + ms⟩,
      ⟨X.admits, X.cas, X.clock, X.frames, X.room, X.hears, X.method, X.code, (X.here.setHeapUsed s₂.heap s₂.slotsUsed).setVm hW'.alike, X.tail, State.WarmedH.trans X.warmed hW', X.limits, X.bytes, X.same.trans (hsame.setVm s.vm)⟩,
      ⟨g, mk, s₂, L, E, ce, rfl, rfl, hx, hce, hcv, hcl, rfl, hL, rfl, rfl⟩, ?_⟩
    show Steps p.tables e below _ (((({ U with heap := s₂.heap, slotsUsed := s₂.slotsUsed } : State).setVm s₂.vm).setTop g).pushFrame (.throwing q))
    rw [← hs₂]
    exact hsteps
end Payer
section Calls
variable {p : Program} {l : Launch} {e : Env} {R : Room} {s : State} {m : MethodId} {args : Array Value} {below : List Frame} {meth : Method} {c : Code} {T : State} {locs : List Loc} {cells slots : Nat}
theorem vx_callV (X : Stand p l e R s m args below meth c T locs cells slots) (hexec : p.tables.exec = Jvm.exec) {own C : String} {index : Nat} {y : MethodName} {bytes : ByteArray} {maxL : Nat} {ret : Option FieldType}
    (hown : s.vm.findClass own = some m.cls) (hlink : (Cond.methodLink own index y).before args s = true) (hinst : (Cond.instanceMethod y).before args s = true) (hsel : (Cond.selects C y y).before args s = true)
    (hcode : (Cond.code y bytes maxL ret).before args s = true) (hy : y.cls ≠ "java/lang/invoke/MethodHandle" ∧ y.cls ≠ "java/lang/invoke/VarHandle")
    {W9 : Nat} {Pre : Pt → Array Value → Prop} {Post : Pt → Array Value → Option Value → Pt → Prop} {PostX : Pt → Array Value → Addr → Pt → Prop} (hK : vx_Back l R p e below s args y 3 W9 Pre Post PostX)
    {b : Addr} {cellB : Cell} (hcell : T.heap[b]? = some cellB) (hobj : cellB.vm.isStatics = false) (hcls : s.vm.findClass C = some cellB.cls)
    {g : JFrame} (hg : g.method = m) (hsize : g.locals.size = c.maxLocals) {argsL rest : List Value} (hlen : ∀ sig, parseMethodDescriptor y.desc = some sig → argsL.length = sig.parameters.length)
    (hstack : g.stack = argsL.reverse ++ .ref b :: rest) (hW : 2 * g.monitorRoom + (rest.map fun v => v.category).sum ≤ W9) (hdg : decode c.code g.pc = .ok (.invokevirtual index, 3))
    (hpre : ∀ vm₁, s.WarmedH vm₁ → Pre ⟨T.setVm vm₁, locs, cells, slots⟩ (Value.ref b :: argsL).toArray) :
    (∃ (v : Option Value) (vm₁ : Vm) (B : Pt), s.WarmedH vm₁ ∧ Stand p l e R s m args below meth c B.U B.locs B.cells B.slots ∧ Post ⟨T.setVm vm₁, locs, cells, slots⟩ (Value.ref b :: argsL).toArray v B ∧
      ∀ target, Steps p.tables e below (B.U.setTop { g with pc := g.pc + 3, stack := v.toList ++ rest }) target → Steps p.tables e below (T.setTop g) target) ∨
    (∃ (q : Addr) (vm₁ : Vm) (B : Pt), s.WarmedH vm₁ ∧ Stand p l e R s m args below meth c B.U B.locs B.cells B.slots ∧ PostX ⟨T.setVm vm₁, locs, cells, slots⟩ (Value.ref b :: argsL).toArray q B ∧
      Steps p.tables e below (T.setTop g) ((B.U.setTop { g with stack := rest }).pushFrame (.throwing q))) := by
  obtain ⟨mk, methM, hnamed, hmethM, hstM, habM⟩ := Cond.instanceMethod_spec hinst
  obtain ⟨methM', cM, hmethM', -, -, -, -, -, -, hsigM⟩ := Cond.code_spec hnamed hcode
  cases hmethM.symm.trans hmethM'
  obtain ⟨c2, r2, m2, q1, q2, q3, q4, kP, hkP, hkPi⟩ := Cond.selects_spec hsel
  cases hcls.symm.trans q1
  cases (State.methodFound?_of_named hnamed hy).symm.trans q2
  cases hnamed.symm.trans q3
  have hselP : selectMethod e.platform s.vm cellB.cls mk = .method mk := by rw [Launch.admits_selectMethod X.admits]; exact q4
  obtain ⟨vm₁, X₁, hstep₁⟩ := X.invokevirtual hexec hown hlink hnamed hmethM hstM hkP hkPi hy (a := b) (cell := cellB) hcell
    (fun z h => by rw [h] at hobj; cases hobj) hselP hmethM habM hkP hkPi (g := g) hg (argsL := argsL) (rest := rest) (hlen _ hsigM) hstack hdg
  rcases hK m meth c ⟨T.setVm vm₁, locs, cells, slots⟩ { g with stack := rest } (.invokevirtual index) mk (Value.ref b :: argsL).toArray X₁ hg hsize hdg hW (X₁.named hnamed) (hpre vm₁ X₁.warmed) with ⟨v, B, X', hpost, hsteps⟩ | ⟨q, B, X', hpost, hsteps⟩
  · exact Or.inl ⟨v, vm₁, B, X₁.warmed, X', hpost, fun target h => hstep₁ _ fun acts => by rw [doInvoke_state]; exact hsteps.trans h⟩
  · exact Or.inr ⟨q, vm₁, B, X₁.warmed, X', hpost, hstep₁ _ fun acts => by rw [doInvoke_state]; exact hsteps⟩
theorem vx_callS (X : Stand p l e R s m args below meth c T locs cells slots) (hexec : p.tables.exec = Jvm.exec) {own : String} {index : Nat} {y : MethodName} {bytes : ByteArray} {maxL : Nat} {ret : Option FieldType}
    (hown : s.vm.findClass own = some m.cls) (hlink : (Cond.methodLink own index y).before args s = true) (hstat : (Cond.static y).before args s = true) (hinit : (Cond.initialized y.cls).before args s = true)
    (hcode : (Cond.code y bytes maxL ret).before args s = true) (hy : y.cls ≠ "java/lang/invoke/MethodHandle" ∧ y.cls ≠ "java/lang/invoke/VarHandle")
    {W9 : Nat} {Pre : Pt → Array Value → Prop} {Post : Pt → Array Value → Option Value → Pt → Prop} {PostX : Pt → Array Value → Addr → Pt → Prop} (hK : vx_Back l R p e below s args y 3 W9 Pre Post PostX)
    {g : JFrame} (hg : g.method = m) (hsize : g.locals.size = c.maxLocals) {argsL rest : List Value} (hlen : ∀ sig, parseMethodDescriptor y.desc = some sig → argsL.length = sig.parameters.length)
    (hstack : g.stack = argsL.reverse ++ rest) (hW : 2 * g.monitorRoom + (rest.map fun v => v.category).sum ≤ W9) (hdg : decode c.code g.pc = .ok (.invokestatic index, 3))
    (hpre : ∀ vm₁, s.WarmedH vm₁ → Pre ⟨T.setVm vm₁, locs, cells, slots⟩ argsL.toArray) :
    (∃ (v : Option Value) (vm₁ : Vm) (B : Pt), s.WarmedH vm₁ ∧ Stand p l e R s m args below meth c B.U B.locs B.cells B.slots ∧ Post ⟨T.setVm vm₁, locs, cells, slots⟩ argsL.toArray v B ∧
      ∀ target, Steps p.tables e below (B.U.setTop { g with pc := g.pc + 3, stack := v.toList ++ rest }) target → Steps p.tables e below (T.setTop g) target) ∨
    (∃ (q : Addr) (vm₁ : Vm) (B : Pt), s.WarmedH vm₁ ∧ Stand p l e R s m args below meth c B.U B.locs B.cells B.slots ∧ PostX ⟨T.setVm vm₁, locs, cells, slots⟩ argsL.toArray q B ∧
      Steps p.tables e below (T.setTop g) ((B.U.setTop { g with stack := rest }).pushFrame (.throwing q))) := by
  obtain ⟨mk, hnamed⟩ := Cond.code_named hcode
  obtain ⟨methM, cM, hmethM, -, -, -, -, -, -, hsigM⟩ := Cond.code_spec hnamed hcode
  have hstatic : methM.isStatic = true := Cond.static_spec hnamed hmethM hstat
  obtain ⟨kP, hkP, -⟩ := className_of_methodNamed hnamed
  have hinitP : kP.init = .initialized := Cond.initialized_spec (findClass_of_methodNamed hnamed) hkP hinit
  obtain ⟨vm₁, X₁, hstep₁⟩ := X.invokestatic hexec hown hlink hnamed hmethM hstatic hkP hinitP hy (g := g) hg (argsL := argsL) (rest := rest) (hlen _ hsigM) hstack hdg
  rcases hK m meth c ⟨T.setVm vm₁, locs, cells, slots⟩ { g with stack := rest } (.invokestatic index) mk argsL.toArray X₁ hg hsize hdg hW (X₁.named hnamed) (hpre vm₁ X₁.warmed) with ⟨v, B, X', hpost, hsteps⟩ | ⟨q, B, X', hpost, hsteps⟩
  · exact Or.inl ⟨v, vm₁, B, X₁.warmed, X', hpost, fun target h => hstep₁ _ fun acts => by rw [doInvoke_state]; exact hsteps.trans h⟩
  · exact Or.inr ⟨q, vm₁, B, X₁.warmed, X', hpost, hstep₁ _ fun acts => by rw [doInvoke_state]; exact hsteps⟩
end Calls
theorem vx_cls {s : State} {T : State} {vm₁ : Vm} {E : String} {k : ClassId} (hW : s.WarmedH vm₁) (h : (T.setVm vm₁).vm.findClass E = some k) : s.vm.findClass E = some k := by
  have h1 : vm₁.findClass E = some k := h
  rw [hW.alike.findClass] at h1
  exact h1
/-- the method's frame g, with q thrown over it -/
def vx_W (p : Program) (l : Launch) (e : Env) (R : Room) (s : State) (m : MethodId) (args : Array Value) (below : List Frame) (meth : Method) (c : Code) (H : Heap) (locs : List Loc) (cells slots : Nat) (Q : State → Prop) (g : JFrame) (q : Addr) : Prop :=
  ∀ T : State, T.heap = H → Stand p l e R s m args below meth c T locs cells slots → ∃ t, Steps p.tables e below ((T.setTop g).pushFrame (.throwing q)) t ∧ Q t
def vx_Run (p : Program) (l : Launch) (e : Env) (R : Room) (s : State) (m : MethodId) (args : Array Value) (below : List Frame) (meth : Method) (c : Code) (H : Heap) (locs : List Loc) (cells slots mc ms : Nat) (g : JFrame) (rest : List Value) (Qa : State → Outcome → State → Prop) (XC : String → State → State → Prop) (free : Addr → Prop) : Prop :=
  ∀ T : State, T.heap = H → Stand p l e R s m args below meth c T locs cells slots →
    (∃ (v : Option Value) (st₀ t T' : State) (L : List Loc), st₀.heap = H ∧ Stand p l e R s m args below meth c T' (locs ++ L) (cells + mc) (slots + ms) ∧ (∀ q ∈ L, free q.base) ∧ T'.heap = t.heap ∧ T'.vm = t.vm ∧ Qa st₀ (.returned v) t ∧
      Goes p e below T g T' { g with pc := g.pc + 3, stack := v.toList ++ rest }) ∨
    (∃ (q : Addr) (st₀ t T' : State) (L : List Loc) (E : String) (ce : Cell), st₀.heap = H ∧ Stand p l e R s m args below meth c T' (locs ++ L) (cells + mc) (slots + ms) ∧ (∀ z ∈ L, free z.base) ∧ T'.heap = t.heap ∧ T'.vm = t.vm ∧ XC E st₀ t ∧ t.heap[q]? = some ce ∧ ce.vm = .none ∧ s.vm.findClass E = some ce.cls ∧
      Steps p.tables e below (T.setTop g) ((T'.setTop { g with stack := rest }).pushFrame (.throwing q)))
def vx_X {S : Type} (px : S → Prop) (B : String → S → State → Prop) (A : Nat → Prop) : String → State → State → Prop := fun E st t => ∃ u : S, px u ∧ B E u t ∧ va_F A st t
section Runs
variable {p : Program} {l : Launch} {e : Env} {R : Room} {s : State} {m : MethodId} {args : Array Value} {below : List Frame} {meth : Method} {c : Code} {H : Heap} {locs : List Loc} {cells slots : Nat}
variable {y : MethodName} {bytes cc : ByteArray} {maxL nL mc ms n index : Nat} {ret : Option FieldType} {ws : List Cond} {rm : Room} {Pc : Array Value → State → Prop} {Qc : Array Value → State → Outcome → State → Prop} {XC : String → State → State → Prop} {free : Addr → Prop} {Ts : List Cond} {own C : String} {b : Addr} {As rest : List Value} {g : JFrame}
theorem vx_callBack (cb : CallB R s args own index y bytes maxL ret ws rm mc ms n) (hM : vx_Met l y ws rm Pc Qc XC mc ms free) (hbl : FrameBlind Pc) : vx_Back l R p e below s args y 3 8 (PreOf R mc ms Pc) (PostOf Qc mc ms free) (vx_Post XC mc ms free) := by
  obtain ⟨hrc, hrs, hfr, hlo, hws, hcw, -, hini, -⟩ := cb
  exact vx_back (bytes := bytes) (maxL := maxL) (ret := ret) hM hbl hrc hrs hfr hlo hws hcw (fun a' U hW => word_at hW (Or.inl (by first | rfl | simp [Cond.onTables, Cond.keeps, Cond.steady])) hini)
theorem vx_runV (S : CallFix p m c cc nL s args Ts own) (hM : vx_Met l y ws rm Pc Qc XC mc ms free) (cw : CallW R s args own C index y bytes maxL ret ws rm mc ms n) (hp : PreV s H C b Pc As)
    (hg : g.method = m) (hn : As.length = n) (hsize : g.locals.size = nL) (hstack : g.stack = As.reverse ++ .ref b :: rest) (hW : 2 * g.monitorRoom + (rest.map fun v => v.category).sum ≤ 8) (hdg : decode cc g.pc = .ok (.invokevirtual index, 3)) (hf : cells + mc ≤ R.cells ∧ slots + ms ≤ R.slots) :
    vx_Run p l e R s m args below meth c H locs cells slots mc ms g rest (Qc (Value.ref b :: As).toArray) XC free := by
  have hK : vx_Back l R p e below s args y 3 8 (PreOf R mc ms Pc) (PostOf Qc mc ms free) (vx_Post XC mc ms free) := vx_callBack cw.1 hM hp.1
  obtain ⟨⟨-, -, -, -, -, -, hcode, -, hy, hlen, hl⟩, hin, hse⟩ := cw
  obtain ⟨hx, hb, hml, ho, -⟩ := S
  obtain ⟨-, ⟨cellB, hcB, hoB, hclB⟩, hPc⟩ := hp
  intro T hT X
  rcases vx_callV X hx (C := C) (bytes := bytes) (maxL := maxL) (ret := ret) ho hl hin hse hcode hy hK (by rw [hT]; exact hcB) hoB hclB hg (hsize.trans hml.symm) (argsL := As) (rest := rest) (fun sig h => hn.trans (hlen sig h)) hstack hW (by rw [hb]; exact hdg)
    (fun vm₁ hW₁ => ⟨hf.1, hf.2, hPc (T.setVm vm₁) hT hW₁⟩) with ⟨v, vm₁, ⟨U', l2, c2, s2⟩, hW₁, X', ⟨g', mk, t, L, e1, e2, hq, h1, hL, h2, h3⟩, st⟩ | ⟨q, vm₁, ⟨U', l2, c2, s2⟩, hW₁, X', ⟨g', mk, t, L, E, ce, e1, e2, hq, hce, hcv, hcl, h1, hL, h2, h3⟩, st⟩
  · dsimp only [Pt.U, Pt.locs, Pt.cells, Pt.slots] at X' e1 e2 h1 h2 h3 st
    subst h1; subst h2; subst h3
    exact Or.inl ⟨v, (T.setVm vm₁).calling g' mk (Value.ref b :: As).toArray, t, U', L, hT, X', hL, e1, e2, hq, st⟩
  · dsimp only [Pt.U, Pt.locs, Pt.cells, Pt.slots] at X' e1 e2 h1 h2 h3 st hcl
    subst h1; subst h2; subst h3
    exact Or.inr ⟨q, (T.setVm vm₁).calling g' mk (Value.ref b :: As).toArray, t, U', L, E, ce, hT, X', hL, e1, e2, hq, hce, hcv, vx_cls hW₁ hcl, st⟩
theorem vx_runS (S : CallFix p m c cc nL s args Ts own) (hM : vx_Met l y ws rm Pc Qc XC mc ms free) (cw : CallB R s args own index y bytes maxL ret ws rm mc ms n ∧ (Cond.static y).before args s = true) (hp : PreS s H Pc As)
    (hg : g.method = m) (hn : As.length = n) (hsize : g.locals.size = nL) (hstack : g.stack = As.reverse ++ rest) (hW : 2 * g.monitorRoom + (rest.map fun v => v.category).sum ≤ 8) (hdg : decode cc g.pc = .ok (.invokestatic index, 3)) (hf : cells + mc ≤ R.cells ∧ slots + ms ≤ R.slots) :
    vx_Run p l e R s m args below meth c H locs cells slots mc ms g rest (Qc As.toArray) XC free := by
  have hK : vx_Back l R p e below s args y 3 8 (PreOf R mc ms Pc) (PostOf Qc mc ms free) (vx_Post XC mc ms free) := vx_callBack cw.1 hM hp.1
  obtain ⟨⟨-, -, -, -, -, -, hcode, hini, hy, hlen, hl⟩, hstt⟩ := cw
  obtain ⟨hx, hb, hml, ho, -⟩ := S
  intro T hT X
  rcases vx_callS X hx (bytes := bytes) (maxL := maxL) (ret := ret) ho hl hstt hini hcode hy hK hg (hsize.trans hml.symm) (argsL := As) (rest := rest) (fun sig h => hn.trans (hlen sig h)) hstack hW (by rw [hb]; exact hdg)
    (fun vm₁ hW₁ => ⟨hf.1, hf.2, hp.2 (T.setVm vm₁) hT hW₁⟩) with ⟨v, vm₁, ⟨U', l2, c2, s2⟩, hW₁, X', ⟨g', mk, t, L, e1, e2, hq, h1, hL, h2, h3⟩, st⟩ | ⟨q, vm₁, ⟨U', l2, c2, s2⟩, hW₁, X', ⟨g', mk, t, L, E, ce, e1, e2, hq, hce, hcv, hcl, h1, hL, h2, h3⟩, st⟩
  · dsimp only [Pt.U, Pt.locs, Pt.cells, Pt.slots] at X' e1 e2 h1 h2 h3 st
    subst h1; subst h2; subst h3
    exact Or.inl ⟨v, (T.setVm vm₁).calling g' mk As.toArray, t, U', L, hT, X', hL, e1, e2, hq, st⟩
  · dsimp only [Pt.U, Pt.locs, Pt.cells, Pt.slots] at X' e1 e2 h1 h2 h3 st hcl
    subst h1; subst h2; subst h3
    exact Or.inr ⟨q, (T.setVm vm₁).calling g' mk As.toArray, t, U', L, E, ce, hT, X', hL, e1, e2, hq, hce, hcv, vx_cls hW₁ hcl, st⟩
end Runs
section Rows
variable {p : Program} {l : Launch} {e : Env} {R : Room} {s : State} {m : MethodId} {args : Array Value} {below : List Frame} {meth : Method} {c : Code} {H : Heap} {locs : List Loc} {cells slots : Nat} {Q : State → Prop}
variable {mc ms : Nat} {free : Addr → Prop} {A0 A1 : Nat → Prop} {H0 : Heap} {a : Array Value} {pc : Nat} {ls : Array Slot} {st0 rest : List Value}
theorem vx_keep {st₀ t T' : State} {L : List Loc} (h0 : st₀.heap = H) (e1 : T'.heap = t.heap) (hS : va_S A0 H0 H locs) (hA : ∀ q, q < H.size → A1 q → A0 q) (hf : ∀ q, free q → A0 q) (hL : ∀ q ∈ L, free q.base) (hF : va_F A1 st₀ t) :
    H.size ≤ T'.heap.size ∧ (∀ q : Nat, q < H.size → ¬ A1 q → T'.heap[q]? = H[q]?) ∧ va_S A0 H0 T'.heap (locs ++ L) := by
  obtain ⟨hz, hk⟩ := hF
  rw [h0] at hz hk
  exact ⟨by rw [e1]; exact hz, fun q h1 h2 => by rw [e1]; exact hk q h1 h2,
    ⟨Nat.le_trans hS.1 (by rw [e1]; exact hz), fun q h1 h2 => by rw [e1, hk q (Nat.lt_of_lt_of_le h1 hS.1) (fun z => h2 (hA q (Nat.lt_of_lt_of_le h1 hS.1) z))]; exact hS.2.1 q h1 h2, fun q hq => by
      rcases List.mem_append.mp hq with h | h
      · exact hS.2.2 q h
      · exact hf _ (hL q h)⟩⟩
theorem vx_calli {S SX : Type} {post : Int32 → S → Prop} {px : SX → Prop} {B : S → State → Prop} {BX : String → SX → State → Prop} {AX : Nat → Prop} (hr : vx_Run p l e R s m args below meth c H locs cells slots mc ms (F0 m pc ls st0) rest (va_Qi post B A1 a) (vx_X px BX AX) free) (hS : va_S A0 H0 H locs) (hA : ∀ q, q < H.size → A1 q → A0 q) (hf : ∀ q, free q → A0 q) (hAX : ∀ q, q < H.size → AX q → A0 q)
    (kx : ∀ (E : String) (ce : Cell) (q9 : Addr) (u : SX) (t : State) (H1 : Heap) (locs1 : List Loc), t.heap = H1 → s.vm.Alike t.vm → px u → BX E u t → H.size ≤ H1.size → (∀ q : Nat, q < H.size → ¬ AX q → H1[q]? = H[q]?) → va_S A0 H0 H1 locs1 → H1[q9]? = some ce → ce.vm = .none → s.vm.findClass E = some ce.cls → vx_W p l e R s m args below meth c H1 locs1 (cells + mc) (slots + ms) Q (F0 m pc ls rest) q9)
    (kk : ∀ (r : Int32) (u : S) (t : State) (H1 : Heap) (locs1 : List Loc), t.heap = H1 → s.vm.Alike t.vm → post r u → B u t → H.size ≤ H1.size → (∀ q : Nat, q < H.size → ¬ A1 q → H1[q]? = H[q]?) → va_S A0 H0 H1 locs1 → W p l e R s m args below meth c H1 locs1 (cells + mc) (slots + ms) Q (F0 m (pc + 3) ls (.int r :: rest))) : W p l e R s m args below meth c H locs cells slots Q (F0 m pc ls st0) := by
  intro T hT X
  rcases hr T hT X with ⟨v, st₀, t, T', L, h0, X', hL, e1, e2, ⟨⟨r, u, hv, hp, hb⟩, hF⟩, st⟩ | ⟨q, st₀, t, T', L, E, ce, h0, X', hL, e1, e2, ⟨u, hp, hb, hF⟩, hce, hcv, hcl, st⟩
  · cases hv
    obtain ⟨k1, k2, k3⟩ := vx_keep h0 e1 hS hA hf hL hF
    obtain ⟨t2, a1, b1⟩ := kk r u t T'.heap (locs ++ L) e1.symm (by rw [← e2]; exact X'.warmed.alike) hp hb k1 k2 k3 T' rfl X'
    exact ⟨t2, st t2 a1, b1⟩
  · obtain ⟨k1, k2, k3⟩ := vx_keep h0 e1 hS hAX hf hL hF
    obtain ⟨t2, a1, b1⟩ := kx E ce q u t T'.heap (locs ++ L) e1.symm (by rw [← e2]; exact X'.warmed.alike) hp hb k1 k2 k3 (by rw [e1]; exact hce) hcv hcl T' rfl X'
    exact ⟨t2, st.trans a1, b1⟩
theorem vx_calll {S SX : Type} {post : Int64 → S → Prop} {px : SX → Prop} {B : S → State → Prop} {BX : String → SX → State → Prop} {AX : Nat → Prop} (hr : vx_Run p l e R s m args below meth c H locs cells slots mc ms (F0 m pc ls st0) rest (va_Ql post B A1 a) (vx_X px BX AX) free) (hS : va_S A0 H0 H locs) (hA : ∀ q, q < H.size → A1 q → A0 q) (hf : ∀ q, free q → A0 q) (hAX : ∀ q, q < H.size → AX q → A0 q)
    (kx : ∀ (E : String) (ce : Cell) (q9 : Addr) (u : SX) (t : State) (H1 : Heap) (locs1 : List Loc), t.heap = H1 → s.vm.Alike t.vm → px u → BX E u t → H.size ≤ H1.size → (∀ q : Nat, q < H.size → ¬ AX q → H1[q]? = H[q]?) → va_S A0 H0 H1 locs1 → H1[q9]? = some ce → ce.vm = .none → s.vm.findClass E = some ce.cls → vx_W p l e R s m args below meth c H1 locs1 (cells + mc) (slots + ms) Q (F0 m pc ls rest) q9)
    (kk : ∀ (r : Int64) (u : S) (t : State) (H1 : Heap) (locs1 : List Loc), t.heap = H1 → s.vm.Alike t.vm → post r u → B u t → H.size ≤ H1.size → (∀ q : Nat, q < H.size → ¬ A1 q → H1[q]? = H[q]?) → va_S A0 H0 H1 locs1 → W p l e R s m args below meth c H1 locs1 (cells + mc) (slots + ms) Q (F0 m (pc + 3) ls (.long r :: rest))) : W p l e R s m args below meth c H locs cells slots Q (F0 m pc ls st0) := by
  intro T hT X
  rcases hr T hT X with ⟨v, st₀, t, T', L, h0, X', hL, e1, e2, ⟨⟨r, u, hv, hp, hb⟩, hF⟩, st⟩ | ⟨q, st₀, t, T', L, E, ce, h0, X', hL, e1, e2, ⟨u, hp, hb, hF⟩, hce, hcv, hcl, st⟩
  · cases hv
    obtain ⟨k1, k2, k3⟩ := vx_keep h0 e1 hS hA hf hL hF
    obtain ⟨t2, a1, b1⟩ := kk r u t T'.heap (locs ++ L) e1.symm (by rw [← e2]; exact X'.warmed.alike) hp hb k1 k2 k3 T' rfl X'
    exact ⟨t2, st t2 a1, b1⟩
  · obtain ⟨k1, k2, k3⟩ := vx_keep h0 e1 hS hAX hf hL hF
    obtain ⟨t2, a1, b1⟩ := kx E ce q u t T'.heap (locs ++ L) e1.symm (by rw [← e2]; exact X'.warmed.alike) hp hb k1 k2 k3 (by rw [e1]; exact hce) hcv hcl T' rfl X'
    exact ⟨t2, st.trans a1, b1⟩
theorem vx_callf {S SX : Type} {post : UInt32 → S → Prop} {px : SX → Prop} {B : S → State → Prop} {BX : String → SX → State → Prop} {AX : Nat → Prop} (hr : vx_Run p l e R s m args below meth c H locs cells slots mc ms (F0 m pc ls st0) rest (va_Qf post B A1 a) (vx_X px BX AX) free) (hS : va_S A0 H0 H locs) (hA : ∀ q, q < H.size → A1 q → A0 q) (hf : ∀ q, free q → A0 q) (hAX : ∀ q, q < H.size → AX q → A0 q)
    (kx : ∀ (E : String) (ce : Cell) (q9 : Addr) (u : SX) (t : State) (H1 : Heap) (locs1 : List Loc), t.heap = H1 → s.vm.Alike t.vm → px u → BX E u t → H.size ≤ H1.size → (∀ q : Nat, q < H.size → ¬ AX q → H1[q]? = H[q]?) → va_S A0 H0 H1 locs1 → H1[q9]? = some ce → ce.vm = .none → s.vm.findClass E = some ce.cls → vx_W p l e R s m args below meth c H1 locs1 (cells + mc) (slots + ms) Q (F0 m pc ls rest) q9)
    (kk : ∀ (r : UInt32) (u : S) (t : State) (H1 : Heap) (locs1 : List Loc), t.heap = H1 → s.vm.Alike t.vm → post r u → B u t → H.size ≤ H1.size → (∀ q : Nat, q < H.size → ¬ A1 q → H1[q]? = H[q]?) → va_S A0 H0 H1 locs1 → W p l e R s m args below meth c H1 locs1 (cells + mc) (slots + ms) Q (F0 m (pc + 3) ls (.float r :: rest))) : W p l e R s m args below meth c H locs cells slots Q (F0 m pc ls st0) := by
  intro T hT X
  rcases hr T hT X with ⟨v, st₀, t, T', L, h0, X', hL, e1, e2, ⟨⟨r, u, hv, hp, hb⟩, hF⟩, st⟩ | ⟨q, st₀, t, T', L, E, ce, h0, X', hL, e1, e2, ⟨u, hp, hb, hF⟩, hce, hcv, hcl, st⟩
  · cases hv
    obtain ⟨k1, k2, k3⟩ := vx_keep h0 e1 hS hA hf hL hF
    obtain ⟨t2, a1, b1⟩ := kk r u t T'.heap (locs ++ L) e1.symm (by rw [← e2]; exact X'.warmed.alike) hp hb k1 k2 k3 T' rfl X'
    exact ⟨t2, st t2 a1, b1⟩
  · obtain ⟨k1, k2, k3⟩ := vx_keep h0 e1 hS hAX hf hL hF
    obtain ⟨t2, a1, b1⟩ := kx E ce q u t T'.heap (locs ++ L) e1.symm (by rw [← e2]; exact X'.warmed.alike) hp hb k1 k2 k3 (by rw [e1]; exact hce) hcv hcl T' rfl X'
    exact ⟨t2, st.trans a1, b1⟩
theorem vx_calld {S SX : Type} {post : UInt64 → S → Prop} {px : SX → Prop} {B : S → State → Prop} {BX : String → SX → State → Prop} {AX : Nat → Prop} (hr : vx_Run p l e R s m args below meth c H locs cells slots mc ms (F0 m pc ls st0) rest (va_Qd post B A1 a) (vx_X px BX AX) free) (hS : va_S A0 H0 H locs) (hA : ∀ q, q < H.size → A1 q → A0 q) (hf : ∀ q, free q → A0 q) (hAX : ∀ q, q < H.size → AX q → A0 q)
    (kx : ∀ (E : String) (ce : Cell) (q9 : Addr) (u : SX) (t : State) (H1 : Heap) (locs1 : List Loc), t.heap = H1 → s.vm.Alike t.vm → px u → BX E u t → H.size ≤ H1.size → (∀ q : Nat, q < H.size → ¬ AX q → H1[q]? = H[q]?) → va_S A0 H0 H1 locs1 → H1[q9]? = some ce → ce.vm = .none → s.vm.findClass E = some ce.cls → vx_W p l e R s m args below meth c H1 locs1 (cells + mc) (slots + ms) Q (F0 m pc ls rest) q9)
    (kk : ∀ (r : UInt64) (u : S) (t : State) (H1 : Heap) (locs1 : List Loc), t.heap = H1 → s.vm.Alike t.vm → post r u → B u t → H.size ≤ H1.size → (∀ q : Nat, q < H.size → ¬ A1 q → H1[q]? = H[q]?) → va_S A0 H0 H1 locs1 → W p l e R s m args below meth c H1 locs1 (cells + mc) (slots + ms) Q (F0 m (pc + 3) ls (.double r :: rest))) : W p l e R s m args below meth c H locs cells slots Q (F0 m pc ls st0) := by
  intro T hT X
  rcases hr T hT X with ⟨v, st₀, t, T', L, h0, X', hL, e1, e2, ⟨⟨r, u, hv, hp, hb⟩, hF⟩, st⟩ | ⟨q, st₀, t, T', L, E, ce, h0, X', hL, e1, e2, ⟨u, hp, hb, hF⟩, hce, hcv, hcl, st⟩
  · cases hv
    obtain ⟨k1, k2, k3⟩ := vx_keep h0 e1 hS hA hf hL hF
    obtain ⟨t2, a1, b1⟩ := kk r u t T'.heap (locs ++ L) e1.symm (by rw [← e2]; exact X'.warmed.alike) hp hb k1 k2 k3 T' rfl X'
    exact ⟨t2, st t2 a1, b1⟩
  · obtain ⟨k1, k2, k3⟩ := vx_keep h0 e1 hS hAX hf hL hF
    obtain ⟨t2, a1, b1⟩ := kx E ce q u t T'.heap (locs ++ L) e1.symm (by rw [← e2]; exact X'.warmed.alike) hp hb k1 k2 k3 (by rw [e1]; exact hce) hcv hcl T' rfl X'
    exact ⟨t2, st.trans a1, b1⟩
theorem vx_callv {S SX : Type} {post : S → Prop} {px : SX → Prop} {B : S → State → Prop} {BX : String → SX → State → Prop} {AX : Nat → Prop} (hr : vx_Run p l e R s m args below meth c H locs cells slots mc ms (F0 m pc ls st0) rest (va_Qv post B A1 a) (vx_X px BX AX) free) (hS : va_S A0 H0 H locs) (hA : ∀ q, q < H.size → A1 q → A0 q) (hf : ∀ q, free q → A0 q) (hAX : ∀ q, q < H.size → AX q → A0 q)
    (kx : ∀ (E : String) (ce : Cell) (q9 : Addr) (u : SX) (t : State) (H1 : Heap) (locs1 : List Loc), t.heap = H1 → s.vm.Alike t.vm → px u → BX E u t → H.size ≤ H1.size → (∀ q : Nat, q < H.size → ¬ AX q → H1[q]? = H[q]?) → va_S A0 H0 H1 locs1 → H1[q9]? = some ce → ce.vm = .none → s.vm.findClass E = some ce.cls → vx_W p l e R s m args below meth c H1 locs1 (cells + mc) (slots + ms) Q (F0 m pc ls rest) q9)
    (kk : ∀ (u : S) (t : State) (H1 : Heap) (locs1 : List Loc), t.heap = H1 → s.vm.Alike t.vm → post u → B u t → H.size ≤ H1.size → (∀ q : Nat, q < H.size → ¬ A1 q → H1[q]? = H[q]?) → va_S A0 H0 H1 locs1 → W p l e R s m args below meth c H1 locs1 (cells + mc) (slots + ms) Q (F0 m (pc + 3) ls (rest))) : W p l e R s m args below meth c H locs cells slots Q (F0 m pc ls st0) := by
  intro T hT X
  rcases hr T hT X with ⟨v, st₀, t, T', L, h0, X', hL, e1, e2, ⟨⟨u, hv, hp, hb⟩, hF⟩, st⟩ | ⟨q, st₀, t, T', L, E, ce, h0, X', hL, e1, e2, ⟨u, hp, hb, hF⟩, hce, hcv, hcl, st⟩
  · cases hv
    obtain ⟨k1, k2, k3⟩ := vx_keep h0 e1 hS hA hf hL hF
    obtain ⟨t2, a1, b1⟩ := kk u t T'.heap (locs ++ L) e1.symm (by rw [← e2]; exact X'.warmed.alike) hp hb k1 k2 k3 T' rfl X'
    exact ⟨t2, st t2 a1, b1⟩
  · obtain ⟨k1, k2, k3⟩ := vx_keep h0 e1 hS hAX hf hL hF
    obtain ⟨t2, a1, b1⟩ := kx E ce q u t T'.heap (locs ++ L) e1.symm (by rw [← e2]; exact X'.warmed.alike) hp hb k1 k2 k3 (by rw [e1]; exact hce) hcv hcl T' rfl X'
    exact ⟨t2, st.trans a1, b1⟩
/-- caught by the row x of this method's table; the rows ahead don't take it -/
theorem vx_catch {own name : String} {E : String} {ce : Cell} {q : Addr} (hown : s.vm.findClass own = some m.cls) (pre : List ExceptionTableEntry) (x : ExceptionTableEntry) (suf : List ExceptionTableEntry) (hsplit : c.exceptionTable.toList = pre ++ x :: suf)
    (hpass : ∀ z ∈ pre, covers z pc = false ∨ (z.catchType ≠ 0 ∧ ∃ nm : String, (Cond.classLink own z.catchType nm).before args s = true ∧ va_Nc E nm s)) (hx : covers x pc = true) (h0 : x.catchType ≠ 0)
    (hlink : (Cond.classLink own x.catchType name).before args s = true) (hcast : (Cond.castable E name).before args s = true) (hcell : H[q]? = some ce) (hv : ce.vm = .none) (hcl : s.vm.findClass E = some ce.cls)
    (kk : W p l e R s m args below meth c H locs cells slots Q (F0 m x.handlerPc ls [.ref q])) : vx_W p l e R s m args below meth c H locs cells slots Q (F0 m pc ls rest) q := by
  intro T hT X
  have hpl : e.platform.magicAccessors = ({} : Platform).magicAccessors := by rw [X.admits.platform]
  obtain ⟨c3, c4, hc3, hc4, hasg⟩ := Cond.castable_spec hcast
  cases Option.some.inj (hc3.symm.trans hcl)
  obtain ⟨c5, hc5, hcl5⟩ := Cond.classLink_spec hown hlink e.platform hpl
  cases Option.some.inj (hc4.symm.trans hc5)
  obtain ⟨vm', X', st⟩ := X.thenCaughtThrough q (g := F0 m pc ls rest) rfl (Steps.refl _) (by rw [hT]; exact hcell) (by rw [hv]; rfl) (by obtain ⟨k9, h9, -⟩ := Vm.findClass_spec hcl; exact ⟨k9, h9⟩) pre x suf hsplit
    (fun z hz => by
      rcases hpass z hz with h | ⟨hz0, nm, hl1, hn1⟩
      · exact Or.inl h
      · obtain ⟨c6, hc6, hcl6⟩ := Cond.classLink_spec hown hl1 e.platform hpl
        obtain ⟨a8, b8, h1, h2, h3⟩ := hn1
        cases Option.some.inj (h1.symm.trans hcl)
        cases Option.some.inj (h2.symm.trans hc6)
        exact Or.inr ⟨hz0, _, hcl6, h3⟩) hx (Or.inr ⟨h0, c4, hcl5, hasg⟩)
  obtain ⟨t, a1, b1⟩ := kk (T.setVm vm') hT X'
  exact ⟨t, st.trans a1, b1⟩
end Rows
section Ends
variable {p : Program} {l : Launch} {e : Env} {R : Room} {s : State} {m : MethodId} {args : Array Value} {below : List Frame} {meth : Method} {c : Code} {H : Heap} {locs : List Loc} {cells slots : Nat} {Q : State → Prop}
variable {mc ms : Nat} {free : Addr → Prop} {A0 A1 : Nat → Prop} {H0 : Heap} {a : Array Value} {ls : Array Slot} {st0 rest : List Value}
variable {Qc : Array Value → State → Outcome → State → Prop} {XC : String → State → State → Prop}
/-- what a body that may throw owes at its end -/
def vx_MQ (below : List Frame) (Qc : Array Value → State → Outcome → State → Prop) (XC : String → State → State → Prop) (a : Array Value) (s : State) (mc ms : Nat) (free : Addr → Prop) : State → Prop := fun t =>
  ∃ o, t.status = .running ∧ Ended t below o ∧ vx_Q Qc XC mc ms free a s o t
theorem vx_ret {g : JFrame} {mc ms : Nat} (k : W p l e R s m args below meth c H locs cells slots (MQ below Qc args s mc ms free) g) : W p l e R s m args below meth c H locs cells slots (vx_MQ below Qc XC args s mc ms free) g := by
  intro T hT X
  obtain ⟨t, a1, o, b1, b2, b3, b4⟩ := k T hT X
  exact ⟨t, a1, o, b1, b2, Or.inl ⟨b3, b4⟩⟩
/-- not caught here: it goes on to the caller -/
theorem vx_widen {g : JFrame} {q : Addr} {k n : Nat} (h1 : cells ≤ k) (h2 : slots ≤ n) (kk : vx_W p l e R s m args below meth c H locs k n Q g q) : vx_W p l e R s m args below meth c H locs cells slots Q g q := fun T hT X => kk T hT (stand_widen X h1 h2)
theorem vx_out {pc : Nat} {E : String} {ce : Cell} {q : Addr} {mc ms : Nat} (hout : ∀ x ∈ c.exceptionTable.toList, covers x pc = false) (hlocks : meth.locks = false) (hcell : H[q]? = some ce) (hv : ce.vm = .none) (hcl : s.vm.findClass E = some ce.cls)
    (hx : ∀ t : State, t.heap = H → s.vm.Alike t.vm → XC E s t) (hf : ∀ z ∈ locs, free z.base) (hc : cells ≤ mc) (hs : slots ≤ ms) :
    vx_W p l e R s m args below meth c H locs cells slots (vx_MQ below Qc XC args s mc ms free) (F0 m pc ls rest) q := by
  intro T hT X
  obtain ⟨st1, hrun, hend, hW, hsm⟩ := X.leaveThrown q (g := F0 m pc ls rest) rfl rfl rfl hout hlocks
  have hcell9 : (T.setFrames (.throwing q :: below)).heap[q]? = some ce := by
    show T.heap[q]? = some ce
    rw [hT]; exact hcell
  exact ⟨_, st1, .threw q, hrun, hend, Or.inr ⟨q, rfl, E, ce, locs, hx _ hT hW.alike, hcell9, hv, hcl, hW, hsm.mono hc hs, hf⟩⟩
theorem vx_frame {U : State} {k n : Nat} (h : s.sameButNew ({ U with vm := s.vm } : State) locs k n) : s.heap.size ≤ U.heap.size ∧ ∀ q : Nat, q < s.heap.size → (∀ z ∈ locs, z.base ≠ q) → U.heap[q]? = s.heap[q]? := by
  obtain ⟨-, h2, -, -, -, h6⟩ := h
  refine ⟨h2, fun q hq hz => ?_⟩
  obtain ⟨c9, e1, e2, e3, e4⟩ := h6 q _ (Array.getElem?_eq_getElem hq)
  have hs : c9.slots = (s.heap[q]).slots := Array.ext_getElem? fun i => e4 i fun hm => hz _ hm rfl
  have h9 : c9 = s.heap[q] := by
    rw [hs] at e2
    exact e2
  have e5 : U.heap[q]? = some c9 := e1
  rw [e5, h9, Array.getElem?_eq_getElem hq]
/-- the words of a throw but the four that speak of the heap -/
def vx_no (w : Cond) : Bool := decide (w ≠ .isRef (.static Bundle.tN "UNASSIGNED_STACK" Bundle.steD)) && decide (w ≠ .isRef (.static Bundle.tN "SUPPRESSED_SENTINEL" Bundle.listD)) && decide (w ≠ .laysStatic Bundle.tN "UNASSIGNED_STACK" Bundle.steD) && decide (w ≠ .laysStatic Bundle.tN "SUPPRESSED_SENTINEL" Bundle.listD)
def vx_at0 (own : String) (ic : Nat) (X : String) (names : List String) : List Cond := (Bundle.ownAtoms0 own ic X names).filter vx_no
def vx_atS (own : String) (ic : Nat) (X : String) (names : List String) : List Cond := (Bundle.ownAtoms own ic X names).filter vx_no
/-- a word that the tables alone decide, or a good one -/
def vx_ot (w : Cond) : Bool := w.onTables || goodWord w
theorem vx_ot_at {args a' : Array Value} {s U : State} {w : Cond} (hW : s.WarmedH U.vm) (hvm : s.vm = U.vm) (hg : vx_ot w = true) (h : w.before args s = true) : w.before a' U = true := by
  simp only [vx_ot, Bool.or_eq_true] at hg
  rcases hg with hg | hg
  · exact va_tabs hg hvm h
  · exact word_at hW (good_of_word hg) h
/-- a list's words: the good ones out of the method's own list, the others by premises of their own -/
theorem vx_hat {args : Array Value} {s : State} {L B : List Cond} (h1 : ∀ w ∈ L.filter goodWord, w.before args s = true) (h2 : ∀ w ∈ L.filter (fun w => !goodWord w), w ∈ B) (h3 : ∀ w ∈ B, w.before args s = true) : ∀ w ∈ L, w.before args s = true := by
  intro w hw
  by_cases g : goodWord w = true
  · exact h1 w (List.mem_filter.mpr ⟨hw, g⟩)
  · refine h3 w (h2 w (List.mem_filter.mpr ⟨hw, ?_⟩))
    show (!goodWord w) = true
    cases hgw : goodWord w
    · rfl
    · exact absurd hgw g
theorem vx_c {args : Array Value} {s : State} {w : Cond} {B : List Cond} (h : w.before args s = true) (t : ∀ w ∈ B, w.before args s = true) : ∀ w' ∈ w :: B, w'.before args s = true := fun w' h' => (List.mem_cons.mp h').elim (fun e => by rw [e]; exact h) (t w')
theorem vx_n {args : Array Value} {s : State} : ∀ w ∈ ([] : List Cond), w.before args s = true := fun _ h => nomatch h
theorem vx_own {args : Array Value} {s : State} {L : List Cond} (h1 : ∀ w ∈ L.filter vx_no, w.before args s = true)
    (hU : (Cond.isRef (.static Bundle.tN "UNASSIGNED_STACK" Bundle.steD)).before args s = true) (hN : (Cond.isRef (.static Bundle.tN "SUPPRESSED_SENTINEL" Bundle.listD)).before args s = true)
    (lU : (Cond.laysStatic Bundle.tN "UNASSIGNED_STACK" Bundle.steD).before args s = true) (lN : (Cond.laysStatic Bundle.tN "SUPPRESSED_SENTINEL" Bundle.listD).before args s = true) : ∀ w ∈ L, w.before args s = true := by
  intro w hw
  by_cases e1 : w = .isRef (.static Bundle.tN "UNASSIGNED_STACK" Bundle.steD)
  · rw [e1]; exact hU
  · by_cases e2 : w = .isRef (.static Bundle.tN "SUPPRESSED_SENTINEL" Bundle.listD)
    · rw [e2]; exact hN
    · by_cases e3 : w = .laysStatic Bundle.tN "UNASSIGNED_STACK" Bundle.steD
      · rw [e3]; exact lU
      · by_cases e4 : w = .laysStatic Bundle.tN "SUPPRESSED_SENTINEL" Bundle.listD
        · rw [e4]; exact lN
        · exact h1 w (List.mem_filter.mpr ⟨hw, by unfold vx_no; rw [decide_eq_true e1, decide_eq_true e2, decide_eq_true e3, decide_eq_true e4]; rfl⟩)
/-- where a static field lies, its class's statics cell in H -/
def vx_L (C n d : String) (A : Nat → Prop) (U : State) (H : Heap) : Prop := ∃ (c : ClassId) (k : Class) (i : Nat) (f : Field) (a : Nat) (cell : Cell), U.vm.findClass C = some c ∧ U.fieldFound? C n d = some (c, k, i, f) ∧ f.isStatic = true ∧ k.statics = some a ∧ H[a]? = some cell ∧ cell.vm.isStatics = true ∧ cell.cls = c ∧ f.slot < cell.slots.size ∧ k.staticTypes[f.slot]? = some f.type ∧ ¬ A a
theorem vx_L.moved {C n d : String} {A : Nat → Prop} {u U : State} {H : Heap} (hvm : u.vm.Alike U.vm) (h : vx_L C n d A u H) : vx_L C n d A U H := by
  obtain ⟨c, k, i, f, a, cell, h1, h2, h3, h4, h5, h6, h7, h8, h9, h10⟩ := h
  obtain ⟨k', hi', he⟩ := State.fieldFound?_setVm hvm h2
  exact ⟨c, k', i, f, a, cell, by rw [hvm.findClass]; exact h1, hi', h3, by rw [he]; exact h4, h5, h6, h7, h8, by rw [he]; exact h9, h10⟩
theorem vx_L.kept {C n d : String} {A : Nat → Prop} {U : State} {H H1 : Heap} (h : vx_L C n d A U H) (hq : ∀ a : Nat, a < H.size → ¬ A a → H1[a]? = H[a]?) : vx_L C n d A U H1 := by
  obtain ⟨c, k, i, f, a, cell, h1, h2, h3, h4, h5, h6, h7, h8, h9, h10⟩ := h
  exact ⟨c, k, i, f, a, cell, h1, h2, h3, h4, by rw [hq a (Array.getElem?_eq_some_iff.mp h5).1 h10]; exact h5, h6, h7, h8, h9, h10⟩
theorem vx_L.narrow {C n d : String} {A B : Nat → Prop} {U : State} {H : Heap} (h : vx_L C n d A U H) (hAB : ∀ q, B q → A q) : vx_L C n d B U H := by
  obtain ⟨c, k, i, f, a, cell, h1, h2, h3, h4, h5, h6, h7, h8, h9, h10⟩ := h
  exact ⟨c, k, i, f, a, cell, h1, h2, h3, h4, h5, h6, h7, h8, h9, fun z => h10 (hAB _ z)⟩
theorem vx_L.word {C n d : String} {A : Nat → Prop} {s : State} {args : Array Value} (h : vx_L C n d A s s.heap) : (Cond.laysStatic C n d).before args s = true := by
  obtain ⟨c, k, i, f, a, cell, h1, h2, h3, h4, h5, h6, h7, h8, h9, -⟩ := h
  show (Cond.laysStatic C n d).holds args s none s [] = true
  exact Cond.laysStatic_of h1 h2 h3 h4 h5 h6 h7 h8 h9
/-- .. and what it holds: null or some reference -/
def vx_Zq (C n d : String) (A : Nat → Prop) (U : State) (H : Heap) : Prop := va_Zq C n d A U H ∧ vx_L C n d A U H
theorem vx_Zq.moved {C n d : String} {A : Nat → Prop} {u U : State} {H : Heap} (hvm : u.vm.Alike U.vm) (h : vx_Zq C n d A u H) : vx_Zq C n d A U H := ⟨va_Zq.moved hvm h.1, vx_L.moved hvm h.2⟩
theorem vx_Zq.kept {C n d : String} {A : Nat → Prop} {U : State} {H H1 : Heap} (h : vx_Zq C n d A U H) (hq : ∀ a : Nat, a < H.size → ¬ A a → H1[a]? = H[a]?) : vx_Zq C n d A U H1 := ⟨va_Zq.kept h.1 hq, vx_L.kept h.2 hq⟩
theorem vx_Zq.narrow {C n d : String} {A B : Nat → Prop} {U : State} {H : Heap} (h : vx_Zq C n d A U H) (hAB : ∀ q, B q → A q) : vx_Zq C n d B U H := ⟨va_Zq.narrow h.1 hAB, vx_L.narrow h.2 hAB⟩
theorem vx_Zqof {args : Array Value} {s : State} {C n d : String} {A : Nat → Prop} (hl : (Cond.laysStatic C n d).before args s = true) (hini : (Cond.initialized C).before args s = true) (h : (Cond.isRef (.static C n d)).before args s = true) (hA : ∀ a : Nat, a < s.heap.size → ¬ A a) : vx_Zq C n d A s s.heap := by
  refine ⟨va_Zqof hl hini h hA, ?_⟩
  obtain ⟨c, k, i, f, a, cell, h1, h2, h3, h4, h5, h6, h7, h8, h9⟩ := Cond.laysStatic_spec hl
  exact ⟨c, k, i, f, a, cell, h1, h2, h3, h4, h5, h6, h7, h8, h9, hA a (Array.getElem?_eq_some_iff.mp h5).1⟩
theorem vx_isRef {C n d : String} {v : Value} {A : Nat → Prop} {s : State} {args : Array Value} (h : va_Z C n d v A s s.heap) (hv : v.isRef = true) : (Cond.isRef (.static C n d)).before args s = true := by
  obtain ⟨cf, kf, fi, f, a, cell, h1, h2, h3, h4, h5, h6, h7, -⟩ := h
  have he : (Term.static C n d).eval args s none [] s = some v := by
    simp [Term.eval, State.fieldNamed?, h1, h2, h4, h5, h6, h7]
  simp only [Cond.before, Cond.holds, Cond.value, he]
  cases v <;> simp_all [Value.isRef]
theorem vx_isRefq {C n d : String} {A : Nat → Prop} {s : State} {args : Array Value} (h : va_Zq C n d A s s.heap) : (Cond.isRef (.static C n d)).before args s = true := by
  rcases h with h | ⟨t, h⟩
  · exact vx_isRef h rfl
  · exact vx_isRef h rfl
/-- the same frame, seen from here: as if the method were called anew in this heap -/
theorem vx_rebase {T : State} (X : Stand p l e R s m args below meth c T locs cells slots) {R' : Room} (hf : R'.frames ≤ R.frames) (hl : R'.locals ≤ R.locals) (hc : cells + R'.cells ≤ R.cells) (hs : slots + R'.slots ≤ R.slots) :
    Stand p l e R' ((T.setVm s.vm).setFrames (.invoking m args :: below)) m args below meth c T [] 0 0 := by
  have htop : (T.setVm s.vm).topJava?.isSome := X.here.top
  have hF : ((T.setVm s.vm).setFrames (.invoking m args :: below)).frames = .invoking m args :: below := State.frames_setFrames _ (State.cur_lt_of_top htop)
  obtain ⟨g₀, hg0⟩ := Option.isSome_iff_exists.mp htop
  obtain ⟨r, hr⟩ := State.topJava?_eq_some.mp hg0
  have hl9 : e.platform.stackLimits (T.setVm s.vm).me = e.platform.stackLimits s.me := X.limits
  have hb9 : (T.setVm s.vm).me.stackBytes = s.me.stackBytes := X.bytes
  refine ⟨X.admits, X.cas, X.clock, hF, ?_, X.hears, X.method, X.code, X.here, X.tail, X.warmed, ?_, ?_, ?_⟩
  · have h := X.room
    have hU : ((T.setVm s.vm).setFrames (.invoking m args :: below)).localsInUse = s.localsInUse := by
      rw [State.localsInUse_invoking hF (meth := meth) (c := c) X.method X.code, State.localsInUse_invoking X.frames X.method X.code]
    simp only [State.hasRoom, Bool.and_eq_true, decide_eq_true_eq] at h ⊢
    obtain ⟨⟨⟨⟨h1, h2, h3, h4, h5, h6⟩, h7⟩, h8⟩, h9⟩ := h
    rw [X.frames, List.length_cons] at h2 h3
    have q1 := X.heapSize
    have q2 := X.used
    simp only [hF, hU, List.length_cons, State.stackLimits_setFrames, State.stackBytes_setFrames, hl9, hb9]
    refine ⟨⟨⟨⟨by omega, by omega, by omega, by omega, by omega, h6⟩, ?_⟩, ?_⟩, X.book⟩
    · show T.heap.size + R'.cells ≤ e.platform.maxCells
      omega
    · show T.slotsUsed + R'.slots ≤ e.platform.maxSlots
      omega
  · rw [State.stackLimits_setFrames]; rfl
  · rw [State.stackBytes_setFrames]; rfl
  · refine ⟨?_, Nat.le_refl _, Nat.le_refl _, ?_, ?_, fun a c9 h9 => ⟨c9, h9, rfl, rfl, fun _ _ => rfl⟩⟩
    · obtain ⟨t, ht, -⟩ := State.frames_cons hr
      show T.setVm s.vm = { ((T.setVm s.vm).setFrames (.invoking m args :: below)).setFrames (T.setVm s.vm).frames with heap := T.heap, slotsUsed := T.slotsUsed }
      rw [State.setFrames_setFrames, State.setFrames_self ht]
      rfl
    · show T.slotsUsed = T.slotsUsed + ((T.heap.toList.drop T.heap.size).map (·.slots.size)).sum
      rw [List.drop_eq_nil_of_le (Nat.le_of_eq Array.length_toList)]
      rfl
    · show ((T.heap.toList.drop T.heap.size).map (·.slots.size)).sum ≤ 0
      rw [List.drop_eq_nil_of_le (Nat.le_of_eq Array.length_toList)]
      exact Nat.le_refl _
/-- 'throw new E()': new; dup; invokespecial; athrow -/
theorem vx_throw0 {cc : ByteArray} {pc : Nat} (hexec : p.tables.exec = Jvm.exec) (hb : c.code = cc) (hl : l.stackTraces = false) {own cls : String} {names : List String} {ik ic mc ms : Nat} {A : Nat → Prop}
    (hown : s.vm.findClass own = some m.cls) (hcls : Bundle.fit cls = true) (hnames : ∀ n ∈ names, Bundle.fit n = true)
    (hk : (Cond.classLink own ik cls).before args s = true) (hini : (Cond.initialized cls).before args s = true) (hat : ∀ w ∈ vx_at0 own ic cls names, w.before args s = true)
    (hgood : ∀ w ∈ Cond.classLink own ik cls :: Cond.initialized cls :: vx_at0 own ic cls names, vx_ot w = true)
    (hU : vx_Zq Bundle.tN "UNASSIGNED_STACK" Bundle.steD A s s.heap) (hN : vx_Zq Bundle.tN "SUPPRESSED_SENTINEL" Bundle.listD A s s.heap) (hS : va_S A s.heap H locs) (hsize : ls.size = c.maxLocals)
    (d0 : decode cc pc = .ok (.new ik, 3)) (d3 : decode cc (pc + 3) = .ok (.dup, 1)) (d4 : decode cc (pc + 4) = .ok (.invokespecial ic, 3)) (d7 : decode cc (pc + 7) = .ok (.athrow, 1))
    (hout : ∀ x ∈ c.exceptionTable.toList, covers x (pc + 7) = false)
    (hRframes : names.length + 3 < R.frames) (hRlocals : (rest.map fun v => v.category).sum + (13 * (names.length + 1) + 42) ≤ R.locals) (hRcells : cells + 1 ≤ R.cells) (hRslots : slots + 6 ≤ R.slots) (hlocks : meth.locks = false)
    (hx : ∀ t : State, s.vm.Alike t.vm → H.size ≤ t.heap.size → (∀ q : Nat, q < H.size → t.heap[q]? = H[q]?) → XC cls s t)
    (hf : ∀ z ∈ locs, free z.base) (hc : cells + 1 ≤ mc) (hs : slots + 6 ≤ ms) :
    W p l e R s m args below meth c H locs cells slots (vx_MQ below Qc XC args s mc ms free) (F0 m pc ls rest) := by
  intro T hT X
  have htr : e.platform.stackTraces = false := (show e.platform.stackTraces = l.stackTraces by rw [X.admits.platform]).trans hl
  have Y := vx_rebase X (R' := { frames := R.frames, locals := R.locals, cells := 1, slots := 6 }) (Nat.le_refl _) (Nat.le_refl _) hRcells hRslots
  obtain ⟨s', hA⟩ : ∃ z, z = (T.setVm s.vm).setFrames (.invoking m args :: below) := ⟨_, rfl⟩
  rw [← hA] at Y
  have hvm : s'.vm = s.vm := by rw [hA]; rfl
  have hhp : s'.heap = H := by rw [hA]; exact hT
  have hW0 : s.WarmedH s'.vm := by rw [hvm]; exact State.WarmedH.refl s
  have hat' : ∀ w ∈ vx_at0 own ic cls names, w.before args s' = true := fun w hw => vx_ot_at hW0 hvm.symm (hgood w (List.mem_cons_of_mem _ (List.mem_cons_of_mem _ hw))) (hat w hw)
  have hk' : (Cond.classLink own ik cls).before args s' = true := vx_ot_at hW0 hvm.symm (hgood _ List.mem_cons_self) hk
  have hini' : (Cond.initialized cls).before args s' = true := vx_ot_at hW0 hvm.symm (hgood _ (List.mem_cons_of_mem _ List.mem_cons_self)) hini
  have hU' : vx_Zq Bundle.tN "UNASSIGNED_STACK" Bundle.steD A s' s'.heap := by rw [hhp]; exact vx_Zq.moved hW0.alike (hU.kept hS.2.1)
  have hN' : vx_Zq Bundle.tN "SUPPRESSED_SENTINEL" Bundle.listD A s' s'.heap := by rw [hhp]; exact vx_Zq.moved hW0.alike (hN.kept hS.2.1)
  have h : ∀ w ∈ Bundle.ownAtoms0 own ic cls names, w.before args s' = true := vx_own hat' (vx_isRefq hU'.1) (vx_isRefq hN'.1) hU'.2.word hN'.2.word
  have hown' : s'.vm.findClass own = some m.cls := by rw [hvm]; exact hown
  have hins : (Cond.instantiable cls 6).before args s' = true := h _ (by simp [Bundle.ownAtoms0])
  obtain ⟨vm₁, cX, kX, hfX, hkX, -, -, X₁, st1⟩ := Y.newCold hexec (own := own) (C := cls) (index := ik) (n := 6) hown' hk' hins hini'
    (g := F0 m pc ls rest) rfl (by rw [hb]; exact d0) (Nat.le_refl _) (Nat.le_refl _)
  generalize hT1 : (T.setVm vm₁).pushCell { cls := cX, slots := kX.instanceTypes.map defaultValue, vm := .none } = T1 at X₁ st1
  have hcat : (Value.ref T.heap.size).category = 1 := rfl
  have hcellA : T1.heap[T.heap.size]? = some (freshCell cX kX) := by rw [← hT1]; exact State.heap_pushCell_size _ _
  have d3' : decode c.code (pc + 3) = .ok (.dup, 1) := by rw [hb]; exact d3
  obtain ⟨U, hsteps, hrun, hend, hW, hsame, ce, hce, hO⟩ := X₁.ctorThrow0 hexec htr (own := own) (cls := cls) (names := names) (ic := ic) hown' hcls hnames h (fun x hx => nomatch hx) hfX hkX hcellA (by rw [hhp, hT]; exact Nat.le_refl _)
    (g := { method := m, pc := pc + 4, locals := ls, stack := .ref T.heap.size :: .ref T.heap.size :: rest, locked := none }) rfl hsize rfl rfl (rest := rest) rfl
    (by rw [hb]; exact d4) (by rw [hb]; exact d7) hout hRframes (by simp only [List.map_cons, List.sum_cons, hcat]; omega) hlocks
  obtain ⟨f1, f2⟩ := vx_frame hsame
  rw [hhp] at f1 f2
  have hWs : s.WarmedH U.vm := State.WarmedH.trans hW0 hW
  have hcl : s.vm.findClass cls = some ce.cls := by
    have h9 := hO.cls
    rw [hvm] at h9
    exact h9
  have hall : s.sameButNew ({ U with vm := s.vm } : State) locs mc ms := by
    subst hA
    obtain ⟨e1, e2⟩ := hsame
    rw [State.setFrames_setFrames] at e1
    have h2 : (T.setVm s.vm).sameButNew ({ U with vm := s.vm } : State) [] (0 + 1) (0 + 6) := ⟨e1, e2⟩
    have h3 := X.same.trans h2
    rw [List.append_nil] at h3
    exact h3.mono hc hs
  refine ⟨U, ?_, .threw T.heap.size, hrun, hend, Or.inr ⟨T.heap.size, rfl, cls, ce, locs, hx U hWs.alike f1 (fun q hq => f2 q hq (fun z hz => nomatch hz)), hce, hO.vm, hcl, hWs, hall, hf⟩⟩
  refine st1 _ ?_
  show Steps p.tables e below (T1.setTop { method := m, pc := pc + 3, locals := ls, stack := .ref T.heap.size :: rest, locked := none }) _
  jvm_step X₁.here [X₁.here.top, hexec, d3', Value.category]
  exact hsteps
/-- 'throw new E("text")': new; dup; ldc; invokespecial; athrow -/
theorem vx_throwS {cc : ByteArray} {pc : Nat} (hexec : p.tables.exec = Jvm.exec) (hb : c.code = cc) (hl : l.stackTraces = false) {own cls text : String} {names : List String} {ik is ic mc ms sa : Nat} {A : Nat → Prop}
    (hown : s.vm.findClass own = some m.cls) (hcls : Bundle.fit cls = true) (hnames : ∀ n ∈ names, Bundle.fit n = true)
    (hk : (Cond.classLink own ik cls).before args s = true) (hini : (Cond.initialized cls).before args s = true) (hstr : vk_R own is text sa s) (hat : ∀ w ∈ vx_atS own ic cls names, w.before args s = true)
    (hgood : ∀ w ∈ Cond.classLink own ik cls :: Cond.initialized cls :: vx_atS own ic cls names, vx_ot w = true)
    (hU : vx_Zq Bundle.tN "UNASSIGNED_STACK" Bundle.steD A s s.heap) (hN : vx_Zq Bundle.tN "SUPPRESSED_SENTINEL" Bundle.listD A s s.heap) (hS : va_S A s.heap H locs) (hsize : ls.size = c.maxLocals)
    (d0 : decode cc pc = .ok (.new ik, 3)) (d3 : decode cc (pc + 3) = .ok (.dup, 1)) (d4 : decode cc (pc + 4) = .ok (.ldc is, 2)) (d6 : decode cc (pc + 6) = .ok (.invokespecial ic, 3)) (d9 : decode cc (pc + 9) = .ok (.athrow, 1))
    (hout : ∀ x ∈ c.exceptionTable.toList, covers x (pc + 9) = false)
    (hRframes : names.length + 3 < R.frames) (hRlocals : (rest.map fun v => v.category).sum + (13 * (names.length + 1) + 43) ≤ R.locals) (hRcells : cells + 1 ≤ R.cells) (hRslots : slots + 6 ≤ R.slots) (hlocks : meth.locks = false)
    (hx : ∀ t : State, s.vm.Alike t.vm → H.size ≤ t.heap.size → (∀ q : Nat, q < H.size → t.heap[q]? = H[q]?) → XC cls s t)
    (hf : ∀ z ∈ locs, free z.base) (hc : cells + 1 ≤ mc) (hs : slots + 6 ≤ ms) :
    W p l e R s m args below meth c H locs cells slots (vx_MQ below Qc XC args s mc ms free) (F0 m pc ls rest) := by
  intro T hT X
  have htr : e.platform.stackTraces = false := (show e.platform.stackTraces = l.stackTraces by rw [X.admits.platform]).trans hl
  have Y := vx_rebase X (R' := { frames := R.frames, locals := R.locals, cells := 1, slots := 6 }) (Nat.le_refl _) (Nat.le_refl _) hRcells hRslots
  obtain ⟨s', hA⟩ : ∃ z, z = (T.setVm s.vm).setFrames (.invoking m args :: below) := ⟨_, rfl⟩
  rw [← hA] at Y
  have hvm : s'.vm = s.vm := by rw [hA]; rfl
  have hhp : s'.heap = H := by rw [hA]; exact hT
  have hW0 : s.WarmedH s'.vm := by rw [hvm]; exact State.WarmedH.refl s
  have hat' : ∀ w ∈ vx_atS own ic cls names, w.before args s' = true := fun w hw => vx_ot_at hW0 hvm.symm (hgood w (List.mem_cons_of_mem _ (List.mem_cons_of_mem _ hw))) (hat w hw)
  have hk' : (Cond.classLink own ik cls).before args s' = true := vx_ot_at hW0 hvm.symm (hgood _ List.mem_cons_self) hk
  have hini' : (Cond.initialized cls).before args s' = true := vx_ot_at hW0 hvm.symm (hgood _ (List.mem_cons_of_mem _ List.mem_cons_self)) hini
  have hU' : vx_Zq Bundle.tN "UNASSIGNED_STACK" Bundle.steD A s' s'.heap := by rw [hhp]; exact vx_Zq.moved hW0.alike (hU.kept hS.2.1)
  have hN' : vx_Zq Bundle.tN "SUPPRESSED_SENTINEL" Bundle.listD A s' s'.heap := by rw [hhp]; exact vx_Zq.moved hW0.alike (hN.kept hS.2.1)
  have h : ∀ w ∈ Bundle.ownAtoms own ic cls names, w.before args s' = true := vx_own hat' (vx_isRefq hU'.1) (vx_isRefq hN'.1) hU'.2.word hN'.2.word
  have hown' : s'.vm.findClass own = some m.cls := by rw [hvm]; exact hown
  have hins : (Cond.instantiable cls 6).before args s' = true := h _ (by simp [Bundle.ownAtoms])
  obtain ⟨vm₁, cX, kX, hfX, hkX, -, -, X₁, st1⟩ := Y.newCold hexec (own := own) (C := cls) (index := ik) (n := 6) hown' hk' hins hini'
    (g := F0 m pc ls rest) rfl (by rw [hb]; exact d0) (Nat.le_refl _) (Nat.le_refl _)
  generalize hT1 : (T.setVm vm₁).pushCell { cls := cX, slots := kX.instanceTypes.map defaultValue, vm := .none } = T1 at X₁ st1
  have hcat : (Value.ref T.heap.size).category = 1 := rfl
  have hcellA : T1.heap[T.heap.size]? = some (freshCell cX kX) := by rw [← hT1]; exact State.heap_pushCell_size _ _
  have d3' : decode c.code (pc + 3) = .ok (.dup, 1) := by rw [hb]; exact d3
  have d4' : decode c.code (pc + 4) = .ok (.ldc is, 2) := by rw [hb]; exact d4
  have hstr' : vk_R own is text sa s' := vk_R.warm hW0 hstr
  obtain ⟨U, hsteps, hrun, hend, hW, hsame, ce, hce, hO⟩ := X₁.ctorThrowS hexec htr (own := own) (cls := cls) (names := names) (ic := ic) hown' hcls hnames h (fun x hx => nomatch hx) hfX hkX hcellA (by rw [hhp, hT]; exact Nat.le_refl _) (msg := .ref sa) rfl
    (g := { method := m, pc := pc + 6, locals := ls, stack := .ref sa :: .ref T.heap.size :: .ref T.heap.size :: rest, locked := none }) rfl hsize rfl rfl (rest := rest) rfl
    (by rw [hb]; exact d6) (by rw [hb]; exact d9) hout hRframes (by simp only [List.map_cons, List.sum_cons, hcat]; omega) hlocks
  obtain ⟨f1, f2⟩ := vx_frame hsame
  rw [hhp] at f1 f2
  have hWs : s.WarmedH U.vm := State.WarmedH.trans hW0 hW
  have hcl : s.vm.findClass cls = some ce.cls := by
    have h9 := hO.cls
    rw [hvm] at h9
    exact h9
  have hall : s.sameButNew ({ U with vm := s.vm } : State) locs mc ms := by
    subst hA
    obtain ⟨e1, e2⟩ := hsame
    rw [State.setFrames_setFrames] at e1
    have h2 : (T.setVm s.vm).sameButNew ({ U with vm := s.vm } : State) [] (0 + 1) (0 + 6) := ⟨e1, e2⟩
    have h3 := X.same.trans h2
    rw [List.append_nil] at h3
    exact h3.mono hc hs
  refine ⟨U, ?_, .threw T.heap.size, hrun, hend, Or.inr ⟨T.heap.size, rfl, cls, ce, locs, hx U hWs.alike f1 (fun q hq => f2 q hq (fun z hz => nomatch hz)), hce, hO.vm, hcl, hWs, hall, hf⟩⟩
  refine st1 _ ?_
  show Steps p.tables e below (T1.setTop { method := m, pc := pc + 3, locals := ls, stack := .ref T.heap.size :: rest, locked := none }) _
  jvm_step X₁.here [X₁.here.top, hexec, d3', Value.category]
  exact X₁.ldcString hexec (own := own) (text := text) (index := is) (a := sa) hown' hstr'.1 hstr'.2
    (g := { method := m, pc := pc + 4, locals := ls, stack := .ref T.heap.size :: .ref T.heap.size :: rest, locked := none }) rfl d4' _ hsteps
/-- 'throw new E("text")', the text by a wide index -/
theorem vx_throwSW {cc : ByteArray} {pc : Nat} (hexec : p.tables.exec = Jvm.exec) (hb : c.code = cc) (hl : l.stackTraces = false) {own cls text : String} {names : List String} {ik is ic mc ms sa : Nat} {A : Nat → Prop}
    (hown : s.vm.findClass own = some m.cls) (hcls : Bundle.fit cls = true) (hnames : ∀ n ∈ names, Bundle.fit n = true)
    (hk : (Cond.classLink own ik cls).before args s = true) (hini : (Cond.initialized cls).before args s = true) (hstr : vk_R own is text sa s) (hat : ∀ w ∈ vx_atS own ic cls names, w.before args s = true)
    (hgood : ∀ w ∈ Cond.classLink own ik cls :: Cond.initialized cls :: vx_atS own ic cls names, vx_ot w = true)
    (hU : vx_Zq Bundle.tN "UNASSIGNED_STACK" Bundle.steD A s s.heap) (hN : vx_Zq Bundle.tN "SUPPRESSED_SENTINEL" Bundle.listD A s s.heap) (hS : va_S A s.heap H locs) (hsize : ls.size = c.maxLocals)
    (d0 : decode cc pc = .ok (.new ik, 3)) (d3 : decode cc (pc + 3) = .ok (.dup, 1)) (d4 : decode cc (pc + 4) = .ok (.ldc_w is, 3)) (d7 : decode cc (pc + 7) = .ok (.invokespecial ic, 3)) (d10 : decode cc (pc + 10) = .ok (.athrow, 1))
    (hout : ∀ x ∈ c.exceptionTable.toList, covers x (pc + 10) = false)
    (hRframes : names.length + 3 < R.frames) (hRlocals : (rest.map fun v => v.category).sum + (13 * (names.length + 1) + 43) ≤ R.locals) (hRcells : cells + 1 ≤ R.cells) (hRslots : slots + 6 ≤ R.slots) (hlocks : meth.locks = false)
    (hx : ∀ t : State, s.vm.Alike t.vm → H.size ≤ t.heap.size → (∀ q : Nat, q < H.size → t.heap[q]? = H[q]?) → XC cls s t)
    (hf : ∀ z ∈ locs, free z.base) (hc : cells + 1 ≤ mc) (hs : slots + 6 ≤ ms) :
    W p l e R s m args below meth c H locs cells slots (vx_MQ below Qc XC args s mc ms free) (F0 m pc ls rest) := by
  intro T hT X
  have htr : e.platform.stackTraces = false := (show e.platform.stackTraces = l.stackTraces by rw [X.admits.platform]).trans hl
  have Y := vx_rebase X (R' := { frames := R.frames, locals := R.locals, cells := 1, slots := 6 }) (Nat.le_refl _) (Nat.le_refl _) hRcells hRslots
  obtain ⟨s', hA⟩ : ∃ z, z = (T.setVm s.vm).setFrames (.invoking m args :: below) := ⟨_, rfl⟩
  rw [← hA] at Y
  have hvm : s'.vm = s.vm := by rw [hA]; rfl
  have hhp : s'.heap = H := by rw [hA]; exact hT
  have hW0 : s.WarmedH s'.vm := by rw [hvm]; exact State.WarmedH.refl s
  have hat' : ∀ w ∈ vx_atS own ic cls names, w.before args s' = true := fun w hw => vx_ot_at hW0 hvm.symm (hgood w (List.mem_cons_of_mem _ (List.mem_cons_of_mem _ hw))) (hat w hw)
  have hk' : (Cond.classLink own ik cls).before args s' = true := vx_ot_at hW0 hvm.symm (hgood _ List.mem_cons_self) hk
  have hini' : (Cond.initialized cls).before args s' = true := vx_ot_at hW0 hvm.symm (hgood _ (List.mem_cons_of_mem _ List.mem_cons_self)) hini
  have hU' : vx_Zq Bundle.tN "UNASSIGNED_STACK" Bundle.steD A s' s'.heap := by rw [hhp]; exact vx_Zq.moved hW0.alike (hU.kept hS.2.1)
  have hN' : vx_Zq Bundle.tN "SUPPRESSED_SENTINEL" Bundle.listD A s' s'.heap := by rw [hhp]; exact vx_Zq.moved hW0.alike (hN.kept hS.2.1)
  have h : ∀ w ∈ Bundle.ownAtoms own ic cls names, w.before args s' = true := vx_own hat' (vx_isRefq hU'.1) (vx_isRefq hN'.1) hU'.2.word hN'.2.word
  have hown' : s'.vm.findClass own = some m.cls := by rw [hvm]; exact hown
  have hins : (Cond.instantiable cls 6).before args s' = true := h _ (by simp [Bundle.ownAtoms])
  obtain ⟨vm₁, cX, kX, hfX, hkX, -, -, X₁, st1⟩ := Y.newCold hexec (own := own) (C := cls) (index := ik) (n := 6) hown' hk' hins hini'
    (g := F0 m pc ls rest) rfl (by rw [hb]; exact d0) (Nat.le_refl _) (Nat.le_refl _)
  generalize hT1 : (T.setVm vm₁).pushCell { cls := cX, slots := kX.instanceTypes.map defaultValue, vm := .none } = T1 at X₁ st1
  have hcat : (Value.ref T.heap.size).category = 1 := rfl
  have hcellA : T1.heap[T.heap.size]? = some (freshCell cX kX) := by rw [← hT1]; exact State.heap_pushCell_size _ _
  have d3' : decode c.code (pc + 3) = .ok (.dup, 1) := by rw [hb]; exact d3
  have d4' : decode c.code (pc + 4) = .ok (.ldc_w is, 3) := by rw [hb]; exact d4
  have hstr' : vk_R own is text sa s' := vk_R.warm hW0 hstr
  obtain ⟨U, hsteps, hrun, hend, hW, hsame, ce, hce, hO⟩ := X₁.ctorThrowS hexec htr (own := own) (cls := cls) (names := names) (ic := ic) hown' hcls hnames h (fun x hx => nomatch hx) hfX hkX hcellA (by rw [hhp, hT]; exact Nat.le_refl _) (msg := .ref sa) rfl
    (g := { method := m, pc := pc + 7, locals := ls, stack := .ref sa :: .ref T.heap.size :: .ref T.heap.size :: rest, locked := none }) rfl hsize rfl rfl (rest := rest) rfl
    (by rw [hb]; exact d7) (by rw [hb]; exact d10) hout hRframes (by simp only [List.map_cons, List.sum_cons, hcat]; omega) hlocks
  obtain ⟨f1, f2⟩ := vx_frame hsame
  rw [hhp] at f1 f2
  have hWs : s.WarmedH U.vm := State.WarmedH.trans hW0 hW
  have hcl : s.vm.findClass cls = some ce.cls := by
    have h9 := hO.cls
    rw [hvm] at h9
    exact h9
  have hall : s.sameButNew ({ U with vm := s.vm } : State) locs mc ms := by
    subst hA
    obtain ⟨e1, e2⟩ := hsame
    rw [State.setFrames_setFrames] at e1
    have h2 : (T.setVm s.vm).sameButNew ({ U with vm := s.vm } : State) [] (0 + 1) (0 + 6) := ⟨e1, e2⟩
    have h3 := X.same.trans h2
    rw [List.append_nil] at h3
    exact h3.mono hc hs
  refine ⟨U, ?_, .threw T.heap.size, hrun, hend, Or.inr ⟨T.heap.size, rfl, cls, ce, locs, hx U hWs.alike f1 (fun q hq => f2 q hq (fun z hz => nomatch hz)), hce, hO.vm, hcl, hWs, hall, hf⟩⟩
  refine st1 _ ?_
  show Steps p.tables e below (T1.setTop { method := m, pc := pc + 3, locals := ls, stack := .ref T.heap.size :: rest, locked := none }) _
  jvm_step X₁.here [X₁.here.top, hexec, d3', Value.category]
  exact X₁.ldcStringW hexec (own := own) (text := text) (index := is) (a := sa) hown' hstr'.1 hstr'.2
    (g := { method := m, pc := pc + 4, locals := ls, stack := .ref T.heap.size :: .ref T.heap.size :: rest, locked := none }) rfl d4' _ hsteps
end Ends
section Bodies
variable {l : Launch}
theorem vx_ofW {y : MethodName} {ws ws' : List Cond} {rm : Room} {Pc : Array Value → State → Prop} {Qc : Array Value → State → Outcome → State → Prop} {XC : String → State → State → Prop} {mc ms : Nat} {free : Addr → Prop} {cc : ByteArray} {maxL : Nat} {ret : Option FieldType}
    (hy : plainName y.cls = true) (hw : ws = Cond.code y cc maxL ret :: ws')
    (body : ∀ p e s m args below meth c s₁, BodyLoose p l y (headSpec ws rm) cc maxL ret e s m args below meth c s₁ → c.maxLocals = maxL → (∀ x ∈ c.exceptionTable.toList, False) → Pc args s →
      W p l e (headSpec ws rm).room s m args below meth c s.heap [] 0 0 (vx_MQ below Qc XC args s mc ms free) (entryFrame m args maxL)) : vx_Met l y ws rm Pc Qc XC mc ms free := by
  refine MetFree.of_bodyS (code := cc) (maxLocals := maxL) (ret := ret) hy ?_ ?_
  · intro args s m h hn
    obtain ⟨meth, c, h1, h2, h3, h4, h5, h6, -, -⟩ := Cond.code_spec hn (atoms_spec (ws := ws) h _ (by rw [hw]; exact List.mem_cons_self))
    exact ⟨meth, c, h1, h2, h3, h4, h5, h6⟩
  · intro p e s m args below meth c s₁ B hml hP _
    have hh0 : s₁.heap = s.heap := by rw [B.state]; rfl
    have ht : ∀ x ∈ c.exceptionTable.toList, False := by
      obtain ⟨meth9, c9, h1, h2, -, -, -, -, h7, -⟩ := Cond.code_spec B.named (atoms_spec (ws := ws) B.pre _ (by rw [hw]; exact List.mem_cons_self))
      cases Option.some.inj (h1.symm.trans B.method)
      cases Option.some.inj (h2.symm.trans (Stand.of_body B).code)
      intro x hx
      rw [Array.isEmpty_iff.mp h7] at hx
      cases hx
    obtain ⟨t, a1, o, b1, b2, b3⟩ := body p e s m args below meth c s₁ B hml ht hP s₁ hh0 (Stand.of_body B)
    exact ⟨t, o, a1, b1, b2, b3⟩
/-- the table of a body with handlers -/
theorem vx_table {p : Program} {x y : MethodName} {S : Spec} {cc bytes : ByteArray} {maxL maxL' : Nat} {ret ret' : Option FieldType} {e : Env} {s s₁ : State} {m : MethodId} {args : Array Value} {below : List Frame} {meth : Method} {c : Code} {hh : List (Nat × Nat × Nat × Nat)}
    (B : BodyLoose p l y S cc maxL ret e s m args below meth c s₁) (h : (Cond.codeWith y bytes maxL' ret' hh).before args s = true) : c.exceptionTable.toList = tableOf hh := by
  obtain ⟨m9, meth9, c9, hn9, h1, h2, -, -, h6, -⟩ := Cond.codeWith_spec h
  cases Option.some.inj (hn9.symm.trans B.named)
  cases Option.some.inj (h1.symm.trans B.method)
  cases Option.some.inj (h2.symm.trans (Stand.of_body B).code)
  rw [← h6, table_eq]
end Bodies
end VXA
/-! ===== END ===== -/
/-! ===== BEGIN a static call of a method with an exception table ===== -/
section VXS
variable {p : Program} {l : Launch} {e : Env} {R : Room} {s : State} {m : MethodId} {args : Array Value} {below : List Frame} {meth : Method} {c : Code} {T : State} {H : Heap} {locs : List Loc} {cells slots : Nat}
abbrev vx_CSW (R : Room) (s : State) (args : Array Value) (own : String) (index : Nat) (y : MethodName) (bytes : ByteArray) (maxL : Nat) (ret : Option FieldType) (hh : List (Nat × Nat × Nat × Nat)) (ws : List Cond) (rm : Room) (mc ms n : Nat) : Prop :=
  (rm.cells = mc ∧ rm.slots = ms ∧ rm.frames + 1 ≤ R.frames ∧ 8 + (maxL + 11) + rm.locals ≤ R.locals ∧ (∀ w ∈ ws, ∀ (a' : Array Value) (U : State), s.WarmedH U.vm → w.before a' U = true) ∧ Cond.codeWith y bytes maxL ret hh ∈ ws) ∧
  (Cond.codeWith y bytes maxL ret hh).before args s = true ∧ (Cond.initialized y.cls).before args s = true ∧ (y.cls ≠ "java/lang/invoke/MethodHandle" ∧ y.cls ≠ "java/lang/invoke/VarHandle") ∧
  (∀ sig, parseMethodDescriptor y.desc = some sig → n = sig.parameters.length) ∧ (Cond.methodLink own index y).before args s = true ∧ (Cond.static y).before args s = true
theorem vx_cwSW {own : String} {index maxL mc ms : Nat} {y : MethodName} {bytes : ByteArray} {ret : Option FieldType} {hh : List (Nat × Nat × Nat × Nat)} {Ts ws ws' : List Cond} {rm : Room} (n : Nat) (ht : ∀ w ∈ Ts, w.before args s = true) (hT : GoodIn Ts (va_wsS own index y ws)) (hw : ws = Cond.codeWith y bytes maxL ret hh :: ws') (hrc : rm.cells = mc) (hrs : rm.slots = ms)
    (hd : y.cls ≠ "java/lang/invoke/MethodHandle" ∧ y.cls ≠ "java/lang/invoke/VarHandle" ∧ (parseMethodDescriptor y.desc).map (fun d => d.parameters.length) = some n) (hR : rm.frames + 1 ≤ R.frames ∧ 8 + (maxL + 11) + rm.locals ≤ R.locals) :
    vx_CSW R s args own index y bytes maxL ret hh ws rm mc ms n := by
  have ok : ∀ w ∈ va_wsS own index y ws, w.before args s = true := fun w h => ht w (hT w h).1
  have hG : GoodIn Ts ws := fun w h => hT w (by unfold va_wsS; exact List.mem_append_right _ h)
  have hc : Cond.codeWith y bytes maxL ret hh ∈ ws := by rw [hw]; exact List.mem_cons_self
  refine ⟨⟨hrc, hrs, hR.1, hR.2, pay_in ht hG, hc⟩, ht _ (hG _ hc).1, ok _ (by simp [va_wsS]), ⟨hd.1, hd.2.1⟩, fun sig h => ?_, ok _ (by simp [va_wsS]), ok _ (by simp [va_wsS])⟩
  have h2 := hd.2.2
  rw [h] at h2
  exact (Option.some.inj h2).symm
theorem vx_callSW (X : Stand p l e R s m args below meth c T locs cells slots) (hexec : p.tables.exec = Jvm.exec) {own : String} {index : Nat} {y : MethodName} {bytes : ByteArray} {maxL : Nat} {ret : Option FieldType} {hh : List (Nat × Nat × Nat × Nat)}
    (hown : s.vm.findClass own = some m.cls) (hlink : (Cond.methodLink own index y).before args s = true) (hstat : (Cond.static y).before args s = true) (hinit : (Cond.initialized y.cls).before args s = true)
    (hcode : (Cond.codeWith y bytes maxL ret hh).before args s = true) (hy : y.cls ≠ "java/lang/invoke/MethodHandle" ∧ y.cls ≠ "java/lang/invoke/VarHandle")
    {W9 : Nat} {Pre : Pt → Array Value → Prop} {Post : Pt → Array Value → Option Value → Pt → Prop} (hK : Back l R p e below s args y 3 W9 Pre Post)
    {g : JFrame} (hg : g.method = m) (hsize : g.locals.size = c.maxLocals) {argsL rest : List Value} (hlen : ∀ sig, parseMethodDescriptor y.desc = some sig → argsL.length = sig.parameters.length)
    (hstack : g.stack = argsL.reverse ++ rest) (hW : 2 * g.monitorRoom + (rest.map fun v => v.category).sum ≤ W9) (hdg : decode c.code g.pc = .ok (.invokestatic index, 3))
    (hpre : ∀ vm₁, s.WarmedH vm₁ → Pre ⟨T.setVm vm₁, locs, cells, slots⟩ argsL.toArray) :
    ∃ (v : Option Value) (vm₁ : Vm) (B : Pt), s.WarmedH vm₁ ∧ Stand p l e R s m args below meth c B.U B.locs B.cells B.slots ∧ Post ⟨T.setVm vm₁, locs, cells, slots⟩ argsL.toArray v B ∧
      ∀ target, Steps p.tables e below (B.U.setTop { g with pc := g.pc + 3, stack := v.toList ++ rest }) target → Steps p.tables e below (T.setTop g) target := by
  obtain ⟨mk, methM, cM, hnamed, hmethM, -, -, -, -, -, -, hsigM⟩ := Cond.codeWith_spec hcode
  have hstatic : methM.isStatic = true := Cond.static_spec hnamed hmethM hstat
  obtain ⟨kP, hkP, -⟩ := className_of_methodNamed hnamed
  have hinitP : kP.init = .initialized := Cond.initialized_spec (findClass_of_methodNamed hnamed) hkP hinit
  obtain ⟨vm₁, X₁, hstep₁⟩ := X.invokestatic hexec hown hlink hnamed hmethM hstatic hkP hinitP hy (g := g) hg (argsL := argsL) (rest := rest) (hlen _ hsigM) hstack hdg
  obtain ⟨v, B, X', hpost, hsteps⟩ := hK m meth c ⟨T.setVm vm₁, locs, cells, slots⟩ { g with stack := rest } (.invokestatic index) mk argsL.toArray X₁ hg hsize hdg hW (X₁.named hnamed) (hpre vm₁ X₁.warmed)
  exact ⟨v, vm₁, B, X₁.warmed, X', hpost, fun target h => hstep₁ _ fun acts => by rw [doInvoke_state]; exact hsteps.trans h⟩
theorem vx_runSW {y : MethodName} {bytes cc : ByteArray} {maxL nL mc ms n index : Nat} {ret : Option FieldType} {hh : List (Nat × Nat × Nat × Nat)} {ws : List Cond} {rm : Room} {Pc : Array Value → State → Prop} {Qc : Array Value → State → Outcome → State → Prop} {free : Addr → Prop} {Ts : List Cond} {own : String} {As rest : List Value} {g : JFrame}
    (S : CallFix p m c cc nL s args Ts own) (hM : Met l y ws rm Pc Qc mc ms free) (cw : vx_CSW R s args own index y bytes maxL ret hh ws rm mc ms n) (hp : PreS s H Pc As)
    (hg : g.method = m) (hn : As.length = n) (hsize : g.locals.size = nL) (hstack : g.stack = As.reverse ++ rest) (hW : 2 * g.monitorRoom + (rest.map fun v => v.category).sum ≤ 8) (hdg : decode cc g.pc = .ok (.invokestatic index, 3)) (hf : cells + mc ≤ R.cells ∧ slots + ms ≤ R.slots) :
    va_Run p l e R s m args below meth c H locs cells slots mc ms g rest (Qc As.toArray) (free) := by
  obtain ⟨⟨hrc, hrs, hfr, hlo, hws, hcw⟩, hcode, hini, hy, hlen, hl, hstt⟩ := cw
  have hK : Back l R p e below s args y 3 8 (PreOf R mc ms Pc) (PostOf Qc mc ms free) := va_backW (hh := hh) (bytes := bytes) (maxL := maxL) (ret := ret) hM hp.1 hrc hrs hfr hlo hws hcw (fun a' U hW => word_at hW (Or.inl (by first | rfl | simp [Cond.onTables, Cond.keeps, Cond.steady])) hini)
  obtain ⟨hx, hb, hml, ho, -⟩ := S
  intro T hT X
  obtain ⟨v, vm₁, ⟨U', l2, c2, s2⟩, hW₁, X', ⟨g', mk, t, L, e1, e2, hq, h1, hL, h2, h3⟩, st⟩ := vx_callSW X hx (hh := hh) (bytes := bytes) (maxL := maxL) (ret := ret) ho hl hstt hini hcode hy hK hg (hsize.trans hml.symm) (argsL := As) (rest := rest) (fun sig h => hn.trans (hlen sig h)) hstack hW (by rw [hb]; exact hdg)
    (fun vm₁ hW₁ => ⟨hf.1, hf.2, hp.2 (T.setVm vm₁) hT hW₁⟩)
  dsimp only [Pt.U, Pt.locs, Pt.cells, Pt.slots] at X' e1 e2 h1 h2 h3 st
  subst h1; subst h2; subst h3
  exact ⟨v, (T.setVm vm₁).calling g' mk As.toArray, t, U', L, hT, X', hL, e1, e2, hq, st⟩
/-- not caught here, past rows that name other classes: it goes on to the caller -/
theorem vx_outP {p : Program} {l : Launch} {e : Env} {R : Room} {s : State} {m : MethodId} {args : Array Value} {below : List Frame} {meth : Method} {c : Code} {H : Heap} {locs : List Loc} {cells slots : Nat} {free : Addr → Prop} {ls : Array Slot} {rest : List Value} {Qc : Array Value → State → Outcome → State → Prop} {XC : String → State → State → Prop}
    {pc : Nat} {own E : String} {ce : Cell} {q : Addr} {mc ms : Nat} (hown : s.vm.findClass own = some m.cls) (hlocks : meth.locks = false)
    (hpass : ∀ z ∈ c.exceptionTable.toList, covers z pc = false ∨ (z.catchType ≠ 0 ∧ ∃ nm : String, (Cond.classLink own z.catchType nm).before args s = true ∧ va_Nc E nm s)) (hcell : H[q]? = some ce) (hv : ce.vm = .none) (hcl : s.vm.findClass E = some ce.cls)
    (hx : ∀ t : State, t.heap = H → s.vm.Alike t.vm → XC E s t) (hf : ∀ z ∈ locs, free z.base) (hc : cells ≤ mc) (hs : slots ≤ ms) :
    vx_W p l e R s m args below meth c H locs cells slots (vx_MQ below Qc XC args s mc ms free) (F0 m pc ls rest) q := by
  intro T hT X
  have hpl : e.platform.magicAccessors = ({} : Platform).magicAccessors := by rw [X.admits.platform]
  obtain ⟨vm', hW', X', st⟩ := X.outThrough hlocks q (g := F0 m pc ls rest) rfl rfl rfl (cell := ce) (by rw [hT]; exact hcell) (by rw [hv]; rfl)
    (by obtain ⟨k9, h9, -⟩ := Vm.findClass_spec hcl; exact ⟨k9, h9⟩) (fun z hz => by
      rcases hpass z hz with h | ⟨hz0, nm, hl1, hn1⟩
      · exact Or.inl h
      · obtain ⟨c6, hc6, hcl6⟩ := Cond.classLink_spec hown hl1 e.platform hpl
        obtain ⟨a8, b8, h1, h2, h3⟩ := hn1
        cases Option.some.inj (h1.symm.trans hcl)
        cases Option.some.inj (h2.symm.trans hc6)
        exact Or.inr ⟨hz0, _, hcl6, h3⟩)
  obtain ⟨g₀, hfr⟩ := X'.frames_eq
  have hcell9 : ((T.setVm vm').setFrames (.throwing q :: below)).heap[q]? = some ce := by
    show T.heap[q]? = some ce
    rw [hT]; exact hcell
  have hend : Ended ((T.setVm vm').setFrames (.throwing q :: below)) below (.threw q) := State.frames_setFrames _ (State.cur_lt_of_frames hfr)
  refine ⟨(T.setVm vm').setFrames (.throwing q :: below), ?_, .threw q, X'.here.running, hend, Or.inr ⟨q, rfl, E, ce, locs, hx _ hT (X'.ends _).1.alike, hcell9, hv, hcl, (X'.ends _).1, (X'.ends _).2.mono hc hs, hf⟩⟩
  rw [X.pushThrowing_eq]
  exact st
/-- a thing of a world lies in the heap -/
theorem vx_lt {D : va_G} {cl : List vw_C} {ws : va_W} {H1 : Heap} (h : va_P D cl ws H1) {k : Nat} {q : Nat × va_E} (hk : ws[k]? = some q) : q.1 < H1.size := (h k q hk).lt
end VXS
/-! ===== END ===== -/
/-! ===== BEGIN methods with a table of their own: called by a name, returning or throwing ===== -/
section VXH
/-! vx_backW, vx_callVX, vx_callSX, vx_callVW, vx_runVW, vx_runVX, vx_runSX, vx_ofWH follow the same proofs as their sisters above (Free/Laws.lean, Shelf42/LK1.lean); vx_outP calls Shelf42/NT130.lean (outThrough). -/
section
variable {l : Launch} {R : Room} {p : Program} {e : Env} {below : List Frame} {s : State} {sargs : Array Value} {y : MethodName} {len W9 : Nat}
theorem vx_backW {ws : List Cond} {rm : Room} {Pc : Array Value → State → Prop} {Qc : Array Value → State → Outcome → State → Prop} {XC : String → State → State → Prop} {mc ms : Nat} {free : Addr → Prop} {bytes : ByteArray} {maxL : Nat} {ret : Option FieldType} {hh : List (Nat × Nat × Nat × Nat)}
    (hM : vx_Met l y ws rm Pc Qc XC mc ms free) (hblind : FrameBlind Pc) (hrc : rm.cells = mc) (hrs : rm.slots = ms)
    (hframes : rm.frames + 1 ≤ R.frames) (hlocals : W9 + (maxL + 11) + rm.locals ≤ R.locals)
    (hws : ∀ w ∈ ws, ∀ a' U, s.WarmedH U.vm → w.before a' U = true) (hcode : Cond.codeWith y bytes maxL ret hh ∈ ws) (hinit : ∀ a' U, s.WarmedH U.vm → (Cond.initialized y.cls).before a' U = true) :
    vx_Back l R p e below s sargs y len W9 (PreOf R mc ms Pc) (PostOf Qc mc ms free) (vx_Post XC mc ms free) := by
  intro m meth c A g ig mk a X hg hsize hdg hW hn hp
  have h1 : (headSpec ws rm).pre.before a A.U = true := atoms_intro fun w hw => hws w hw _ _ X.warmed
  have h2 : (Cond.codeWith y bytes maxL ret hh).before a A.U = true := hws _ hcode _ _ X.warmed
  have h3 : (Cond.initialized y.cls).before a A.U = true := hinit _ _ X.warmed
  have h4 : A.cells + (headSpec ws rm).room.cells ≤ R.cells := by rw [show (headSpec ws rm).room.cells = mc from hrc]; exact hp.1
  have h5 : A.slots + (headSpec ws rm).room.slots ≤ R.slots := by rw [show (headSpec ws rm).room.slots = ms from hrs]; exact hp.2.1
  have hPc : Pc a (A.U.calling g mk a) := hblind _ _ _ _ hp.2.2
  obtain ⟨U, Ls, c0, s0⟩ := A
  dsimp only [Pt.U, Pt.locs, Pt.cells, Pt.slots] at h1 h2 h3 h4 h5 X hn hPc ⊢
  obtain ⟨m9, methY, cY, hn9, hmY, hcY, -, hlY, -⟩ := Cond.codeWith_spec h2
  cases Option.some.inj (hn9.symm.trans hn)
  obtain ⟨kY, hkY, -⟩ := className_of_methodNamed hn
  have hinitY : kY.init = .initialized := Cond.initialized_spec (findClass_of_methodNamed hn) hkY h3
  have h : At U g.method c below := by rw [hg]; exact X.here
  have hlocals9 : W9 + (maxL + 11) + (headSpec ws rm).room.locals ≤ R.locals := hlocals
  have happ : (headSpec ws rm).appliesLoose y e.platform (U.calling g mk a) = true :=
    Spec.appliesLoose_calling (g := g) h hdg hn hkY hinitY
      (X.room_calling (g := g) (R' := (headSpec ws rm).room) hsize hmY hcY hframes (by rw [hlY]; omega) h4 h5) h1
  obtain ⟨mid, hmid⟩ := h.above
  have hfr : (U.setTop g).frames = (.java g :: mid) ++ below := by rw [State.frames_setTop' g h.top, hmid]; rfl
  obtain ⟨o, s₂, hsteps, -, hend, hq⟩ := Steps.callFree hM p X.admits X.cas X.clock (acts := []) hfr happ hPc trivial
  have hq' : vx_Q Qc XC mc ms free a (U.calling g mk a) o s₂ := hq
  rw [State.frames_setTop' g h.top] at hend
  obtain ⟨g₀, hg0⟩ := Option.isSome_iff_exists.mp h.top
  obtain ⟨r, hr⟩ := State.topJava?_eq_some.mp hg0
  have hr' : (({ U with heap := s₂.heap, slotsUsed := s₂.slotsUsed } : State).setVm s₂.vm).frames = .java g₀ :: r := hr
  rcases hq' with ⟨hqc, L, hfe, hL⟩ | ⟨q, rfl, E, ce, L, hx, hce, hcv, hcl, hW₂, hsm, hL⟩
  · obtain ⟨⟨v, rfl⟩, hW₂, e2, q2, q3, q4, q5, q6⟩ := id hfe
    have e3 : s₂ = ({ (U.calling g mk a).setFrames s₂.frames with heap := s₂.heap, slotsUsed := s₂.slotsUsed } : State).setVm s₂.vm := by
      have : s₂ = ({ s₂ with vm := (U.calling g mk a).vm } : State).setVm s₂.vm := rfl
      rw [e2] at this
      exact this
    obtain ⟨c₂, i₂, len₂, hc₂, hd₂, hf₂⟩ := hend
    have hW' : U.WarmedH s₂.vm := hW₂
    have hcc : c₂ = c := by
      have h1 : s₂.code? g.method = U.code? g.method := by
        rw [State.code?_eq, State.code?_eq, hW'.alike.method?]
      exact Option.some.inj (hc₂.symm.trans (h1.trans h.code))
    subst hcc
    have hlen : len₂ = len := by rw [hdg] at hd₂; cases hd₂; rfl
    subst hlen
    have hs₂ : s₂ = (({ U with heap := s₂.heap, slotsUsed := s₂.slotsUsed } : State).setVm s₂.vm).setTop { g with pc := g.pc + len₂, stack := v.toList ++ g.stack } := by
      refine e3.trans ?_
      rw [hf₂, State.calling_eq h.top, State.setFrames_setFrames, State.setTop_of_frames _ hr', hr]
      rfl
    have hsame : U.sameButNew ({ U with heap := s₂.heap, slotsUsed := s₂.slotsUsed } : State) L mc ms := by
      refine ⟨?_, q2, q3, q4, q5, q6⟩
      obtain ⟨t, ht, -⟩ := State.frames_cons hr
      show ({ U with heap := s₂.heap, slotsUsed := s₂.slotsUsed } : State) = { U.setFrames U.frames with heap := s₂.heap, slotsUsed := s₂.slotsUsed }
      rw [State.setFrames_self ht]
    subst hg
    refine Or.inl ⟨v, ⟨(({ U with heap := s₂.heap, slotsUsed := s₂.slotsUsed } : State).setVm s₂.vm), Ls ++ L, c0 + mc, s0 + ms⟩,
      ⟨X.admits, X.cas, X.clock, X.frames, X.room, X.hears, X.method, X.code, (X.here.setHeapUsed s₂.heap s₂.slotsUsed).setVm hW'.alike, X.tail, State.WarmedH.trans X.warmed hW', X.limits, X.bytes, X.same.trans (hsame.setVm s.vm)⟩,
      ⟨g, mk, s₂, L, rfl, rfl, hqc, rfl, hL, rfl, rfl⟩, ?_⟩
    show Steps p.tables e below _ ((({ U with heap := s₂.heap, slotsUsed := s₂.slotsUsed } : State).setVm s₂.vm).setTop { g with pc := g.pc + len₂, stack := v.toList ++ g.stack })
    rw [← hs₂]
    exact hsteps
  · obtain ⟨e2, q2, q3, q4, q5, q6⟩ := id hsm
    have e3 : s₂ = ({ (U.calling g mk a).setFrames s₂.frames with heap := s₂.heap, slotsUsed := s₂.slotsUsed } : State).setVm s₂.vm := by
      have : s₂ = ({ s₂ with vm := (U.calling g mk a).vm } : State).setVm s₂.vm := rfl
      rw [e2] at this
      exact this
    have hf₂ : s₂.frames = .throwing q :: .java g :: U.frames.tail := hend
    have hW' : U.WarmedH s₂.vm := hW₂
    have hs₂ : s₂ = ((({ U with heap := s₂.heap, slotsUsed := s₂.slotsUsed } : State).setVm s₂.vm).setTop g).pushFrame (.throwing q) := by
      refine e3.trans ?_
      rw [hf₂, State.calling_eq h.top, State.setFrames_setFrames, State.pushFrame, State.frames_setTop _ hr', State.setTop_of_frames _ hr', State.setFrames_setFrames, hr]
      rfl
    have hsame : U.sameButNew ({ U with heap := s₂.heap, slotsUsed := s₂.slotsUsed } : State) L mc ms := by
      refine ⟨?_, q2, q3, q4, q5, q6⟩
      obtain ⟨t, ht, -⟩ := State.frames_cons hr
      show ({ U with heap := s₂.heap, slotsUsed := s₂.slotsUsed } : State) = { U.setFrames U.frames with heap := s₂.heap, slotsUsed := s₂.slotsUsed }
      rw [State.setFrames_self ht]
    subst hg
    refine Or.inr ⟨q, ⟨(({ U with heap := s₂.heap, slotsUsed := s₂.slotsUsed } : State).setVm s₂.vm), Ls ++ L, c0 + mc, s0 + ms⟩,
      ⟨X.admits, X.cas, X.clock, X.frames, X.room, X.hears, X.method, X.code, (X.here.setHeapUsed s₂.heap s₂.slotsUsed).setVm hW'.alike, X.tail, State.WarmedH.trans X.warmed hW', X.limits, X.bytes, X.same.trans (hsame.setVm s.vm)⟩,
      ⟨g, mk, s₂, L, E, ce, rfl, rfl, hx, hce, hcv, hcl, rfl, hL, rfl, rfl⟩, ?_⟩
    show Steps p.tables e below _ (((({ U with heap := s₂.heap, slotsUsed := s₂.slotsUsed } : State).setVm s₂.vm).setTop g).pushFrame (.throwing q))
    rw [← hs₂]
    exact hsteps
end
variable {p : Program} {l : Launch} {e : Env} {R : Room} {s : State} {m : MethodId} {args : Array Value} {below : List Frame} {meth : Method} {c : Code} {T : State} {H : Heap} {locs : List Loc} {cells slots : Nat}
theorem vx_callVX (X : Stand p l e R s m args below meth c T locs cells slots) (hexec : p.tables.exec = Jvm.exec) {own C : String} {index : Nat} {y : MethodName} {bytes : ByteArray} {maxL : Nat} {ret : Option FieldType} {hh : List (Nat × Nat × Nat × Nat)}
    (hown : s.vm.findClass own = some m.cls) (hlink : (Cond.methodLink own index y).before args s = true) (hinst : (Cond.instanceMethod y).before args s = true) (hsel : (Cond.selects C y y).before args s = true)
    (hcode : (Cond.codeWith y bytes maxL ret hh).before args s = true) (hy : y.cls ≠ "java/lang/invoke/MethodHandle" ∧ y.cls ≠ "java/lang/invoke/VarHandle")
    {W9 : Nat} {Pre : Pt → Array Value → Prop} {Post : Pt → Array Value → Option Value → Pt → Prop} {PostX : Pt → Array Value → Addr → Pt → Prop} (hK : vx_Back l R p e below s args y 3 W9 Pre Post PostX)
    {b : Addr} {cellB : Cell} (hcell : T.heap[b]? = some cellB) (hobj : cellB.vm.isStatics = false) (hcls : s.vm.findClass C = some cellB.cls)
    {g : JFrame} (hg : g.method = m) (hsize : g.locals.size = c.maxLocals) {argsL rest : List Value} (hlen : ∀ sig, parseMethodDescriptor y.desc = some sig → argsL.length = sig.parameters.length)
    (hstack : g.stack = argsL.reverse ++ .ref b :: rest) (hW : 2 * g.monitorRoom + (rest.map fun v => v.category).sum ≤ W9) (hdg : decode c.code g.pc = .ok (.invokevirtual index, 3))
    (hpre : ∀ vm₁, s.WarmedH vm₁ → Pre ⟨T.setVm vm₁, locs, cells, slots⟩ (Value.ref b :: argsL).toArray) :
    (∃ (v : Option Value) (vm₁ : Vm) (B : Pt), s.WarmedH vm₁ ∧ Stand p l e R s m args below meth c B.U B.locs B.cells B.slots ∧ Post ⟨T.setVm vm₁, locs, cells, slots⟩ (Value.ref b :: argsL).toArray v B ∧
      ∀ target, Steps p.tables e below (B.U.setTop { g with pc := g.pc + 3, stack := v.toList ++ rest }) target → Steps p.tables e below (T.setTop g) target) ∨
    (∃ (q : Addr) (vm₁ : Vm) (B : Pt), s.WarmedH vm₁ ∧ Stand p l e R s m args below meth c B.U B.locs B.cells B.slots ∧ PostX ⟨T.setVm vm₁, locs, cells, slots⟩ (Value.ref b :: argsL).toArray q B ∧
      Steps p.tables e below (T.setTop g) ((B.U.setTop { g with stack := rest }).pushFrame (.throwing q))) := by
  obtain ⟨mk, methM, hnamed, hmethM, hstM, habM⟩ := Cond.instanceMethod_spec hinst
  obtain ⟨m8, methM', cM, hn8, hmethM', -, -, -, -, -, -, hsigM⟩ := Cond.codeWith_spec hcode
  cases Option.some.inj (hn8.symm.trans hnamed)
  cases hmethM.symm.trans hmethM'
  obtain ⟨c2, r2, m2, q1, q2, q3, q4, kP, hkP, hkPi⟩ := Cond.selects_spec hsel
  cases hcls.symm.trans q1
  cases (State.methodFound?_of_named hnamed hy).symm.trans q2
  cases hnamed.symm.trans q3
  have hselP : selectMethod e.platform s.vm cellB.cls mk = .method mk := by rw [Launch.admits_selectMethod X.admits]; exact q4
  obtain ⟨vm₁, X₁, hstep₁⟩ := X.invokevirtual hexec hown hlink hnamed hmethM hstM hkP hkPi hy (a := b) (cell := cellB) hcell
    (fun z h => by rw [h] at hobj; cases hobj) hselP hmethM habM hkP hkPi (g := g) hg (argsL := argsL) (rest := rest) (hlen _ hsigM) hstack hdg
  rcases hK m meth c ⟨T.setVm vm₁, locs, cells, slots⟩ { g with stack := rest } (.invokevirtual index) mk (Value.ref b :: argsL).toArray X₁ hg hsize hdg hW (X₁.named hnamed) (hpre vm₁ X₁.warmed) with ⟨v, B, X', hpost, hsteps⟩ | ⟨q, B, X', hpost, hsteps⟩
  · exact Or.inl ⟨v, vm₁, B, X₁.warmed, X', hpost, fun target h => hstep₁ _ fun acts => by rw [doInvoke_state]; exact hsteps.trans h⟩
  · exact Or.inr ⟨q, vm₁, B, X₁.warmed, X', hpost, hstep₁ _ fun acts => by rw [doInvoke_state]; exact hsteps⟩
theorem vx_callSX (X : Stand p l e R s m args below meth c T locs cells slots) (hexec : p.tables.exec = Jvm.exec) {own : String} {index : Nat} {y : MethodName} {bytes : ByteArray} {maxL : Nat} {ret : Option FieldType} {hh : List (Nat × Nat × Nat × Nat)}
    (hown : s.vm.findClass own = some m.cls) (hlink : (Cond.methodLink own index y).before args s = true) (hstat : (Cond.static y).before args s = true) (hinit : (Cond.initialized y.cls).before args s = true)
    (hcode : (Cond.codeWith y bytes maxL ret hh).before args s = true) (hy : y.cls ≠ "java/lang/invoke/MethodHandle" ∧ y.cls ≠ "java/lang/invoke/VarHandle")
    {W9 : Nat} {Pre : Pt → Array Value → Prop} {Post : Pt → Array Value → Option Value → Pt → Prop} {PostX : Pt → Array Value → Addr → Pt → Prop} (hK : vx_Back l R p e below s args y 3 W9 Pre Post PostX)
    {g : JFrame} (hg : g.method = m) (hsize : g.locals.size = c.maxLocals) {argsL rest : List Value} (hlen : ∀ sig, parseMethodDescriptor y.desc = some sig → argsL.length = sig.parameters.length)
    (hstack : g.stack = argsL.reverse ++ rest) (hW : 2 * g.monitorRoom + (rest.map fun v => v.category).sum ≤ W9) (hdg : decode c.code g.pc = .ok (.invokestatic index, 3))
    (hpre : ∀ vm₁, s.WarmedH vm₁ → Pre ⟨T.setVm vm₁, locs, cells, slots⟩ argsL.toArray) :
    (∃ (v : Option Value) (vm₁ : Vm) (B : Pt), s.WarmedH vm₁ ∧ Stand p l e R s m args below meth c B.U B.locs B.cells B.slots ∧ Post ⟨T.setVm vm₁, locs, cells, slots⟩ argsL.toArray v B ∧
      ∀ target, Steps p.tables e below (B.U.setTop { g with pc := g.pc + 3, stack := v.toList ++ rest }) target → Steps p.tables e below (T.setTop g) target) ∨
    (∃ (q : Addr) (vm₁ : Vm) (B : Pt), s.WarmedH vm₁ ∧ Stand p l e R s m args below meth c B.U B.locs B.cells B.slots ∧ PostX ⟨T.setVm vm₁, locs, cells, slots⟩ argsL.toArray q B ∧
      Steps p.tables e below (T.setTop g) ((B.U.setTop { g with stack := rest }).pushFrame (.throwing q))) := by
  obtain ⟨mk, methM, cM, hnamed, hmethM, -, -, -, -, -, -, hsigM⟩ := Cond.codeWith_spec hcode
  have hstatic : methM.isStatic = true := Cond.static_spec hnamed hmethM hstat
  obtain ⟨kP, hkP, -⟩ := className_of_methodNamed hnamed
  have hinitP : kP.init = .initialized := Cond.initialized_spec (findClass_of_methodNamed hnamed) hkP hinit
  obtain ⟨vm₁, X₁, hstep₁⟩ := X.invokestatic hexec hown hlink hnamed hmethM hstatic hkP hinitP hy (g := g) hg (argsL := argsL) (rest := rest) (hlen _ hsigM) hstack hdg
  rcases hK m meth c ⟨T.setVm vm₁, locs, cells, slots⟩ { g with stack := rest } (.invokestatic index) mk argsL.toArray X₁ hg hsize hdg hW (X₁.named hnamed) (hpre vm₁ X₁.warmed) with ⟨v, B, X', hpost, hsteps⟩ | ⟨q, B, X', hpost, hsteps⟩
  · exact Or.inl ⟨v, vm₁, B, X₁.warmed, X', hpost, fun target h => hstep₁ _ fun acts => by rw [doInvoke_state]; exact hsteps.trans h⟩
  · exact Or.inr ⟨q, vm₁, B, X₁.warmed, X', hpost, hstep₁ _ fun acts => by rw [doInvoke_state]; exact hsteps⟩
theorem vx_callVW (X : Stand p l e R s m args below meth c T locs cells slots) (hexec : p.tables.exec = Jvm.exec) {own C : String} {index : Nat} {y : MethodName} {bytes : ByteArray} {maxL : Nat} {ret : Option FieldType} {hh : List (Nat × Nat × Nat × Nat)}
    (hown : s.vm.findClass own = some m.cls) (hlink : (Cond.methodLink own index y).before args s = true) (hinst : (Cond.instanceMethod y).before args s = true) (hsel : (Cond.selects C y y).before args s = true)
    (hcode : (Cond.codeWith y bytes maxL ret hh).before args s = true) (hy : y.cls ≠ "java/lang/invoke/MethodHandle" ∧ y.cls ≠ "java/lang/invoke/VarHandle")
    {W9 : Nat} {Pre : Pt → Array Value → Prop} {Post : Pt → Array Value → Option Value → Pt → Prop} (hK : Back l R p e below s args y 3 W9 Pre Post)
    {b : Addr} {cellB : Cell} (hcell : T.heap[b]? = some cellB) (hobj : cellB.vm.isStatics = false) (hcls : s.vm.findClass C = some cellB.cls)
    {g : JFrame} (hg : g.method = m) (hsize : g.locals.size = c.maxLocals) {argsL rest : List Value} (hlen : ∀ sig, parseMethodDescriptor y.desc = some sig → argsL.length = sig.parameters.length)
    (hstack : g.stack = argsL.reverse ++ .ref b :: rest) (hW : 2 * g.monitorRoom + (rest.map fun v => v.category).sum ≤ W9) (hdg : decode c.code g.pc = .ok (.invokevirtual index, 3))
    (hpre : ∀ vm₁, s.WarmedH vm₁ → Pre ⟨T.setVm vm₁, locs, cells, slots⟩ (Value.ref b :: argsL).toArray) :
    ∃ (v : Option Value) (vm₁ : Vm) (B : Pt), s.WarmedH vm₁ ∧ Stand p l e R s m args below meth c B.U B.locs B.cells B.slots ∧ Post ⟨T.setVm vm₁, locs, cells, slots⟩ (Value.ref b :: argsL).toArray v B ∧
      ∀ target, Steps p.tables e below (B.U.setTop { g with pc := g.pc + 3, stack := v.toList ++ rest }) target → Steps p.tables e below (T.setTop g) target := by
  obtain ⟨mk, methM, hnamed, hmethM, hstM, habM⟩ := Cond.instanceMethod_spec hinst
  obtain ⟨m8, methM', cM, hn8, hmethM', -, -, -, -, -, -, hsigM⟩ := Cond.codeWith_spec hcode
  cases Option.some.inj (hn8.symm.trans hnamed)
  cases hmethM.symm.trans hmethM'
  obtain ⟨c2, r2, m2, q1, q2, q3, q4, kP, hkP, hkPi⟩ := Cond.selects_spec hsel
  cases hcls.symm.trans q1
  cases (State.methodFound?_of_named hnamed hy).symm.trans q2
  cases hnamed.symm.trans q3
  have hselP : selectMethod e.platform s.vm cellB.cls mk = .method mk := by rw [Launch.admits_selectMethod X.admits]; exact q4
  obtain ⟨vm₁, X₁, hstep₁⟩ := X.invokevirtual hexec hown hlink hnamed hmethM hstM hkP hkPi hy (a := b) (cell := cellB) hcell
    (fun z h => by rw [h] at hobj; cases hobj) hselP hmethM habM hkP hkPi (g := g) hg (argsL := argsL) (rest := rest) (hlen _ hsigM) hstack hdg
  obtain ⟨v, B, X', hpost, hsteps⟩ := hK m meth c ⟨T.setVm vm₁, locs, cells, slots⟩ { g with stack := rest } (.invokevirtual index) mk (Value.ref b :: argsL).toArray X₁ hg hsize hdg hW (X₁.named hnamed) (hpre vm₁ X₁.warmed)
  exact ⟨v, vm₁, B, X₁.warmed, X', hpost, fun target h => hstep₁ _ fun acts => by rw [doInvoke_state]; exact hsteps.trans h⟩
abbrev vx_CVW (R : Room) (s : State) (args : Array Value) (own C : String) (index : Nat) (y : MethodName) (bytes : ByteArray) (maxL : Nat) (ret : Option FieldType) (hh : List (Nat × Nat × Nat × Nat)) (ws : List Cond) (rm : Room) (mc ms n : Nat) : Prop :=
  (rm.cells = mc ∧ rm.slots = ms ∧ rm.frames + 1 ≤ R.frames ∧ 8 + (maxL + 11) + rm.locals ≤ R.locals ∧ (∀ w ∈ ws, ∀ (a' : Array Value) (U : State), s.WarmedH U.vm → w.before a' U = true) ∧ Cond.codeWith y bytes maxL ret hh ∈ ws) ∧
  (Cond.codeWith y bytes maxL ret hh).before args s = true ∧ (Cond.initialized y.cls).before args s = true ∧ (y.cls ≠ "java/lang/invoke/MethodHandle" ∧ y.cls ≠ "java/lang/invoke/VarHandle") ∧
  (∀ sig, parseMethodDescriptor y.desc = some sig → n = sig.parameters.length) ∧ (Cond.methodLink own index y).before args s = true ∧ (Cond.instanceMethod y).before args s = true ∧ (Cond.selects C y y).before args s = true
theorem vx_cwVW {own C : String} {index maxL mc ms : Nat} {y : MethodName} {bytes : ByteArray} {ret : Option FieldType} {hh : List (Nat × Nat × Nat × Nat)} {Ts ws ws' : List Cond} {rm : Room} (n : Nat) (ht : ∀ w ∈ Ts, w.before args s = true) (hT : GoodIn Ts (wsV own index C y ws)) (hw : ws = Cond.codeWith y bytes maxL ret hh :: ws') (hrc : rm.cells = mc) (hrs : rm.slots = ms)
    (hd : y.cls = C ∧ y.cls ≠ "java/lang/invoke/MethodHandle" ∧ y.cls ≠ "java/lang/invoke/VarHandle" ∧ (parseMethodDescriptor y.desc).map (fun d => d.parameters.length) = some n) (hR : rm.frames + 1 ≤ R.frames ∧ 8 + (maxL + 11) + rm.locals ≤ R.locals) :
    vx_CVW R s args own C index y bytes maxL ret hh ws rm mc ms n := by
  obtain ⟨hC, hd⟩ := hd
  subst hC
  have ok : ∀ w ∈ wsV own index y.cls y ws, w.before args s = true := fun w h => ht w (hT w h).1
  have hG : GoodIn Ts ws := fun w h => hT w (by unfold wsV; exact List.mem_append_right _ h)
  have hc : Cond.codeWith y bytes maxL ret hh ∈ ws := by rw [hw]; exact List.mem_cons_self
  refine ⟨⟨hrc, hrs, hR.1, hR.2, pay_in ht hG, hc⟩, ht _ (hG _ hc).1, ok _ (by simp [wsV]), ⟨hd.1, hd.2.1⟩, fun sig h => ?_, ok _ (by simp [wsV]), ok _ (by simp [wsV]), ok _ (by simp [wsV])⟩
  have h2 := hd.2.2
  rw [h] at h2
  exact (Option.some.inj h2).symm
theorem vx_runVW {y : MethodName} {bytes cc : ByteArray} {maxL nL mc ms n index : Nat} {ret : Option FieldType} {hh : List (Nat × Nat × Nat × Nat)} {ws : List Cond} {rm : Room} {Pc : Array Value → State → Prop} {Qc : Array Value → State → Outcome → State → Prop} {free : Addr → Prop} {Ts : List Cond} {own C : String} {b : Addr} {As rest : List Value} {g : JFrame}
    (S : CallFix p m c cc nL s args Ts own) (hM : Met l y ws rm Pc Qc mc ms free) (cw : vx_CVW R s args own C index y bytes maxL ret hh ws rm mc ms n) (hp : PreV s H C b Pc As)
    (hg : g.method = m) (hn : As.length = n) (hsize : g.locals.size = nL) (hstack : g.stack = As.reverse ++ .ref b :: rest) (hW : 2 * g.monitorRoom + (rest.map fun v => v.category).sum ≤ 8) (hdg : decode cc g.pc = .ok (.invokevirtual index, 3)) (hf : cells + mc ≤ R.cells ∧ slots + ms ≤ R.slots) :
    va_Run p l e R s m args below meth c H locs cells slots mc ms g rest (Qc (Value.ref b :: As).toArray) free := by
  obtain ⟨⟨hrc, hrs, hfr, hlo, hws, hcw⟩, hcode, hini, hy, hlen, hl, hin, hse⟩ := cw
  have hK : Back l R p e below s args y 3 8 (PreOf R mc ms Pc) (PostOf Qc mc ms free) := va_backW (hh := hh) (bytes := bytes) (maxL := maxL) (ret := ret) hM hp.1 hrc hrs hfr hlo hws hcw (fun a' U hW => word_at hW (Or.inl (by first | rfl | simp [Cond.onTables, Cond.keeps, Cond.steady])) hini)
  obtain ⟨hx, hb, hml, ho, -⟩ := S
  obtain ⟨-, ⟨cellB, hcB, hoB, hclB⟩, hPc⟩ := hp
  intro T hT X
  obtain ⟨v, vm₁, ⟨U', l2, c2, s2⟩, hW₁, X', ⟨g', mk, t, L, e1, e2, hq, h1, hL, h2, h3⟩, st⟩ := vx_callVW X hx (C := C) (hh := hh) (bytes := bytes) (maxL := maxL) (ret := ret) ho hl hin hse hcode hy hK (by rw [hT]; exact hcB) hoB hclB hg (hsize.trans hml.symm) (argsL := As) (rest := rest) (fun sig h => hn.trans (hlen sig h)) hstack hW (by rw [hb]; exact hdg)
    (fun vm₁ hW₁ => ⟨hf.1, hf.2, hPc (T.setVm vm₁) hT hW₁⟩)
  dsimp only [Pt.U, Pt.locs, Pt.cells, Pt.slots] at X' e1 e2 h1 h2 h3 st
  subst h1; subst h2; subst h3
  exact ⟨v, (T.setVm vm₁).calling g' mk (Value.ref b :: As).toArray, t, U', L, hT, X', hL, e1, e2, hq, st⟩
section
variable {y : MethodName} {bytes cc : ByteArray} {maxL nL mc ms n index : Nat} {ret : Option FieldType} {ws : List Cond} {rm : Room} {Pc : Array Value → State → Prop} {Qc : Array Value → State → Outcome → State → Prop} {XC : String → State → State → Prop} {free : Addr → Prop} {Ts : List Cond} {own C : String} {b : Addr} {As rest : List Value} {g : JFrame}
theorem vx_runVX {hh : List (Nat × Nat × Nat × Nat)} (S : CallFix p m c cc nL s args Ts own) (hM : vx_Met l y ws rm Pc Qc XC mc ms free) (cw : vx_CVW R s args own C index y bytes maxL ret hh ws rm mc ms n) (hp : PreV s H C b Pc As)
    (hg : g.method = m) (hn : As.length = n) (hsize : g.locals.size = nL) (hstack : g.stack = As.reverse ++ .ref b :: rest) (hW : 2 * g.monitorRoom + (rest.map fun v => v.category).sum ≤ 8) (hdg : decode cc g.pc = .ok (.invokevirtual index, 3)) (hf : cells + mc ≤ R.cells ∧ slots + ms ≤ R.slots) :
    vx_Run p l e R s m args below meth c H locs cells slots mc ms g rest (Qc (Value.ref b :: As).toArray) XC free := by
  obtain ⟨⟨hrc, hrs, hfr, hlo, hws, hcw⟩, hcode, hini, hy, hlen, hl, hin, hse⟩ := cw
  have hK : vx_Back l R p e below s args y 3 8 (PreOf R mc ms Pc) (PostOf Qc mc ms free) (vx_Post XC mc ms free) := vx_backW (hh := hh) (bytes := bytes) (maxL := maxL) (ret := ret) hM hp.1 hrc hrs hfr hlo hws hcw (fun a' U hW => word_at hW (Or.inl (by first | rfl | simp [Cond.onTables, Cond.keeps, Cond.steady])) hini)
  obtain ⟨hx, hb, hml, ho, -⟩ := S
  obtain ⟨-, ⟨cellB, hcB, hoB, hclB⟩, hPc⟩ := hp
  intro T hT X
  rcases vx_callVX X hx (C := C) (hh := hh) (bytes := bytes) (maxL := maxL) (ret := ret) ho hl hin hse hcode hy hK (by rw [hT]; exact hcB) hoB hclB hg (hsize.trans hml.symm) (argsL := As) (rest := rest) (fun sig h => hn.trans (hlen sig h)) hstack hW (by rw [hb]; exact hdg)
    (fun vm₁ hW₁ => ⟨hf.1, hf.2, hPc (T.setVm vm₁) hT hW₁⟩) with ⟨v, vm₁, ⟨U', l2, c2, s2⟩, hW₁, X', ⟨g', mk, t, L, e1, e2, hq, h1, hL, h2, h3⟩, st⟩ | ⟨q, vm₁, ⟨U', l2, c2, s2⟩, hW₁, X', ⟨g', mk, t, L, E, ce, e1, e2, hq, hce, hcv, hcl, h1, hL, h2, h3⟩, st⟩
  · dsimp only [Pt.U, Pt.locs, Pt.cells, Pt.slots] at X' e1 e2 h1 h2 h3 st
    subst h1; subst h2; subst h3
    exact Or.inl ⟨v, (T.setVm vm₁).calling g' mk (Value.ref b :: As).toArray, t, U', L, hT, X', hL, e1, e2, hq, st⟩
  · dsimp only [Pt.U, Pt.locs, Pt.cells, Pt.slots] at X' e1 e2 h1 h2 h3 st hcl
    subst h1; subst h2; subst h3
    exact Or.inr ⟨q, (T.setVm vm₁).calling g' mk (Value.ref b :: As).toArray, t, U', L, E, ce, hT, X', hL, e1, e2, hq, hce, hcv, vx_cls hW₁ hcl, st⟩
theorem vx_runSX {hh : List (Nat × Nat × Nat × Nat)} (S : CallFix p m c cc nL s args Ts own) (hM : vx_Met l y ws rm Pc Qc XC mc ms free) (cw : vx_CSW R s args own index y bytes maxL ret hh ws rm mc ms n) (hp : PreS s H Pc As)
    (hg : g.method = m) (hn : As.length = n) (hsize : g.locals.size = nL) (hstack : g.stack = As.reverse ++ rest) (hW : 2 * g.monitorRoom + (rest.map fun v => v.category).sum ≤ 8) (hdg : decode cc g.pc = .ok (.invokestatic index, 3)) (hf : cells + mc ≤ R.cells ∧ slots + ms ≤ R.slots) :
    vx_Run p l e R s m args below meth c H locs cells slots mc ms g rest (Qc As.toArray) XC free := by
  obtain ⟨⟨hrc, hrs, hfr, hlo, hws, hcw⟩, hcode, hini, hy, hlen, hl, hstt⟩ := cw
  have hK : vx_Back l R p e below s args y 3 8 (PreOf R mc ms Pc) (PostOf Qc mc ms free) (vx_Post XC mc ms free) := vx_backW (hh := hh) (bytes := bytes) (maxL := maxL) (ret := ret) hM hp.1 hrc hrs hfr hlo hws hcw (fun a' U hW => word_at hW (Or.inl (by first | rfl | simp [Cond.onTables, Cond.keeps, Cond.steady])) hini)
  obtain ⟨hx, hb, hml, ho, -⟩ := S
  intro T hT X
  rcases vx_callSX X hx (hh := hh) (bytes := bytes) (maxL := maxL) (ret := ret) ho hl hstt hini hcode hy hK hg (hsize.trans hml.symm) (argsL := As) (rest := rest) (fun sig h => hn.trans (hlen sig h)) hstack hW (by rw [hb]; exact hdg)
    (fun vm₁ hW₁ => ⟨hf.1, hf.2, hp.2 (T.setVm vm₁) hT hW₁⟩) with ⟨v, vm₁, ⟨U', l2, c2, s2⟩, hW₁, X', ⟨g', mk, t, L, e1, e2, hq, h1, hL, h2, h3⟩, st⟩ | ⟨q, vm₁, ⟨U', l2, c2, s2⟩, hW₁, X', ⟨g', mk, t, L, E, ce, e1, e2, hq, hce, hcv, hcl, h1, hL, h2, h3⟩, st⟩
  · dsimp only [Pt.U, Pt.locs, Pt.cells, Pt.slots] at X' e1 e2 h1 h2 h3 st
    subst h1; subst h2; subst h3
    exact Or.inl ⟨v, (T.setVm vm₁).calling g' mk As.toArray, t, U', L, hT, X', hL, e1, e2, hq, st⟩
  · dsimp only [Pt.U, Pt.locs, Pt.cells, Pt.slots] at X' e1 e2 h1 h2 h3 st hcl
    subst h1; subst h2; subst h3
    exact Or.inr ⟨q, (T.setVm vm₁).calling g' mk As.toArray, t, U', L, E, ce, hT, X', hL, e1, e2, hq, hce, hcv, vx_cls hW₁ hcl, st⟩
end
end VXH
theorem vx_ofWH {l : Launch} {y : MethodName} {ws ws' : List Cond} {rm : Room} {Pc : Array Value → State → Prop} {Qc : Array Value → State → Outcome → State → Prop} {XC : String → State → State → Prop} {mc ms : Nat} {free : Addr → Prop} {cc : ByteArray} {maxL : Nat} {ret : Option FieldType} {hh : List (Nat × Nat × Nat × Nat)}
    (hy : plainName y.cls = true) (hw : ws = Cond.codeWith y cc maxL ret hh :: ws')
    (body : ∀ p e s m args below meth c s₁, BodyLoose p l y (headSpec ws rm) cc maxL ret e s m args below meth c s₁ → c.maxLocals = maxL → Pc args s →
      W p l e (headSpec ws rm).room s m args below meth c s.heap [] 0 0 (vx_MQ below Qc XC args s mc ms free) (entryFrame m args maxL)) : vx_Met l y ws rm Pc Qc XC mc ms free := by
  refine MetFree.of_bodyS (code := cc) (maxLocals := maxL) (ret := ret) hy ?_ ?_
  · intro args s m h hn
    obtain ⟨m9, meth, c, hn9, h1, h2, h3, h4, -, h5, h6, -⟩ := Cond.codeWith_spec (atoms_spec (ws := ws) h _ (by rw [hw]; exact List.mem_cons_self))
    cases hn.symm.trans hn9
    exact ⟨meth, c, h1, h2, h3, h4, h5, h6⟩
  · intro p e s m args below meth c s₁ B hml hP _
    have hh0 : s₁.heap = s.heap := by rw [B.state]; rfl
    obtain ⟨t, a1, o, b1, b2, b3⟩ := body p e s m args below meth c s₁ B hml hP s₁ hh0 (Stand.of_body B)
    exact ⟨t, o, a1, b1, b2, b3⟩
/-! ===== END ===== -/

/-! ===== BEGIN printed: names, fields, word lists, decode rows ===== -/
def RX0 : String := "TaskSheets$Bands"
def TX0 : u_T := fun k => match k with
  | 0 => ("TaskSheets$Bands", "contents", "LTaskSheets$Numbers;", true)
  | 1 => ("TaskSheets$Bands", "bandOfTask", "LTaskSheets$Numbers;", true)
  | 2 => ("TaskSheets$Bands", "rowOfTask", "LTaskSheets$Numbers;", true)
  | 3 => ("TaskSheets$Bands", "members", "LTaskSheets$Numbers;", true)
  | 4 => ("TaskSheets$Bands", "memberCount", "I", false)
  | 5 => ("TaskSheets$Bands", "rows", "I", false)
  | 6 => ("TaskSheets$Bands", "count", "I", false)
  | _ => ("TaskSheets$Bands", "free", "I", false)
def tyX0 : Nat → FieldType := fun k => match k with
  | 0 => .object "TaskSheets$Numbers"
  | 1 => .object "TaskSheets$Numbers"
  | 2 => .object "TaskSheets$Numbers"
  | 3 => .object "TaskSheets$Numbers"
  | 4 => .int
  | 5 => .int
  | 6 => .int
  | _ => .int
abbrev wsX00 : List Cond := u_ws RX0 TX0 8
theorem nmX0 : ∀ a, a < 8 → ∀ b, b < 8 → a ≠ b → (TX0 a).2.1 ≠ (TX0 b).2.1 := by decide +kernel
theorem tyX0_ok : ∀ k, k < 8 → parseFieldDescriptor (TX0 k).2.2.1 = some (tyX0 k) := by decide +kernel
abbrev cX0_init : ByteArray := prog_2_method_1_code
def yX0_init : MethodName := ⟨RX0, "<init>", "()V"⟩
abbrev cX0_count : ByteArray := prog_2_method_2_code
def yX0_count : MethodName := ⟨RX0, "count", "()I"⟩
abbrev cX0_content : ByteArray := prog_2_method_3_code
def yX0_content : MethodName := ⟨RX0, "content", "(II)I"⟩
abbrev cX0_bandOf : ByteArray := prog_2_method_4_code
def yX0_bandOf : MethodName := ⟨RX0, "bandOf", "(I)I"⟩
abbrev cX0_rowOf : ByteArray := prog_2_method_5_code
def yX0_rowOf : MethodName := ⟨RX0, "rowOf", "(I)I"⟩
abbrev cX0_lay : ByteArray := prog_2_method_6_code
def yX0_lay : MethodName := ⟨RX0, "lay", "(LTaskSheets$Plan;I)V"⟩
abbrev cX0_gather : ByteArray := prog_2_method_7_code
def yX0_gather : MethodName := ⟨RX0, "gather", "(LTaskSheets$Plan;I)V"⟩
abbrev cX0_insert : ByteArray := prog_2_method_8_code
def yX0_insert : MethodName := ⟨RX0, "insert", "(LTaskSheets$Plan;I)V"⟩
abbrev cX0_layGroup : ByteArray := prog_2_method_9_code
def yX0_layGroup : MethodName := ⟨RX0, "layGroup", "(IZ)V"⟩
abbrev cX0_beginBand : ByteArray := prog_2_method_10_code
def yX0_beginBand : MethodName := ⟨RX0, "beginBand", "()V"⟩
abbrev cX0_take : ByteArray := prog_2_method_11_code
def yX0_take : MethodName := ⟨RX0, "take", "(I)V"⟩
def RX1 : String := "TaskSheets$Chains"
def TX1 : u_T := fun k => match k with
  | _ => ("TaskSheets$Chains", "longestTo", "LTaskSheets$Numbers;", true)
def tyX1 : Nat → FieldType := fun k => match k with
  | _ => .object "TaskSheets$Numbers"
abbrev wsX10 : List Cond := u_ws RX1 TX1 1
theorem nmX1 : ∀ a, a < 1 → ∀ b, b < 1 → a ≠ b → (TX1 a).2.1 ≠ (TX1 b).2.1 := by decide +kernel
theorem tyX1_ok : ∀ k, k < 1 → parseFieldDescriptor (TX1 k).2.2.1 = some (tyX1 k) := by decide +kernel
abbrev cX1_init : ByteArray := prog_3_method_1_code
def yX1_init : MethodName := ⟨RX1, "<init>", "()V"⟩
abbrev cX1_longest : ByteArray := prog_3_method_2_code
def yX1_longest : MethodName := ⟨RX1, "longest", "(LTaskSheets$Plan;)I"⟩
abbrev cX1_growOnce : ByteArray := prog_3_method_3_code
def yX1_growOnce : MethodName := ⟨RX1, "growOnce", "(LTaskSheets$Plan;)Z"⟩
def RX2 : String := "TaskSheets$Exits"
def TX2 : u_T := fun k => match k with
  | 0 => ("TaskSheets$Exits", "leaveSheets", "LTaskSheets$Numbers;", true)
  | 1 => ("TaskSheets$Exits", "arriveSheets", "LTaskSheets$Numbers;", true)
  | 2 => ("TaskSheets$Exits", "exitOfArrow", "LTaskSheets$Numbers;", true)
  | 3 => ("TaskSheets$Exits", "arrowOfExit", "LTaskSheets$Numbers;", true)
  | 4 => ("TaskSheets$Exits", "exitsOfSheet", "LTaskSheets$Numbers;", true)
  | 5 => ("TaskSheets$Exits", "drawnOfSheet", "LTaskSheets$Numbers;", true)
  | _ => ("TaskSheets$Exits", "count", "I", false)
def tyX2 : Nat → FieldType := fun k => match k with
  | 0 => .object "TaskSheets$Numbers"
  | 1 => .object "TaskSheets$Numbers"
  | 2 => .object "TaskSheets$Numbers"
  | 3 => .object "TaskSheets$Numbers"
  | 4 => .object "TaskSheets$Numbers"
  | 5 => .object "TaskSheets$Numbers"
  | _ => .int
abbrev wsX20 : List Cond := u_ws RX2 TX2 7
theorem nmX2 : ∀ a, a < 7 → ∀ b, b < 7 → a ≠ b → (TX2 a).2.1 ≠ (TX2 b).2.1 := by decide +kernel
theorem tyX2_ok : ∀ k, k < 7 → parseFieldDescriptor (TX2 k).2.2.1 = some (tyX2 k) := by decide +kernel
abbrev cX2_init : ByteArray := prog_4_method_1_code
def yX2_init : MethodName := ⟨RX2, "<init>", "()V"⟩
abbrev cX2_count : ByteArray := prog_4_method_2_code
def yX2_count : MethodName := ⟨RX2, "count", "()I"⟩
abbrev cX2_leavesOn : ByteArray := prog_4_method_3_code
def yX2_leavesOn : MethodName := ⟨RX2, "leavesOn", "(I)I"⟩
abbrev cX2_arrivesOn : ByteArray := prog_4_method_4_code
def yX2_arrivesOn : MethodName := ⟨RX2, "arrivesOn", "(I)I"⟩
abbrev cX2_exitOf : ByteArray := prog_4_method_5_code
def yX2_exitOf : MethodName := ⟨RX2, "exitOf", "(I)I"⟩
abbrev cX2_arrowBehind : ByteArray := prog_4_method_6_code
def yX2_arrowBehind : MethodName := ⟨RX2, "arrowBehind", "(I)I"⟩
abbrev cX2_standingOn : ByteArray := prog_4_method_7_code
def yX2_standingOn : MethodName := ⟨RX2, "standingOn", "(I)I"⟩
abbrev cX2_drawnOn : ByteArray := prog_4_method_8_code
def yX2_drawnOn : MethodName := ⟨RX2, "drawnOn", "(I)I"⟩
abbrev cX2_draw : ByteArray := prog_4_method_9_code
def yX2_draw : MethodName := ⟨RX2, "draw", "(LTaskSheets$Plan;LTaskSheets$Bands;LTaskSheets$Sheets;)V"⟩
abbrev cX2_drawInside : ByteArray := prog_4_method_10_code
def yX2_drawInside : MethodName := ⟨RX2, "drawInside", "(II)V"⟩
abbrev cX2_drawThroughExit : ByteArray := prog_4_method_11_code
def yX2_drawThroughExit : MethodName := ⟨RX2, "drawThroughExit", "(III)V"⟩
def RX3 : String := "TaskSheets$History"
def TX3 : u_T := fun k => match k with
  | 0 => ("TaskSheets$History", "saved", "[LTaskSheets$Plan;", true)
  | 1 => ("TaskSheets$History", "next", "I", false)
  | _ => ("TaskSheets$History", "count", "I", false)
def tyX3 : Nat → FieldType := fun k => match k with
  | 0 => .array (.object "TaskSheets$Plan")
  | 1 => .int
  | _ => .int
abbrev wsX30 : List Cond := u_ws RX3 TX3 3
theorem nmX3 : ∀ a, a < 3 → ∀ b, b < 3 → a ≠ b → (TX3 a).2.1 ≠ (TX3 b).2.1 := by decide +kernel
theorem tyX3_ok : ∀ k, k < 3 → parseFieldDescriptor (TX3 k).2.2.1 = some (tyX3 k) := by decide +kernel
abbrev cX3_init : ByteArray := prog_5_method_1_code
def yX3_init : MethodName := ⟨RX3, "<init>", "()V"⟩
abbrev cX3_count : ByteArray := prog_5_method_2_code
def yX3_count : MethodName := ⟨RX3, "count", "()I"⟩
abbrev cX3_save : ByteArray := prog_5_method_3_code
def yX3_save : MethodName := ⟨RX3, "save", "(LTaskSheets$Plan;)V"⟩
abbrev cX3_restore : ByteArray := prog_5_method_4_code
def yX3_restore : MethodName := ⟨RX3, "restore", "(LTaskSheets$Plan;)V"⟩
abbrev cX3_slot : ByteArray := prog_5_method_5_code
def yX3_slot : MethodName := ⟨RX3, "slot", "(I)LTaskSheets$Plan;"⟩
def RX4 : String := "TaskSheets$Numbers"
def TX4 : u_T := fun k => match k with
  | _ => ("TaskSheets$Numbers", "places", "[I", true)
def tyX4 : Nat → FieldType := fun k => match k with
  | _ => .array .int
abbrev wsX40 : List Cond := u_ws RX4 TX4 1
theorem nmX4 : ∀ a, a < 1 → ∀ b, b < 1 → a ≠ b → (TX4 a).2.1 ≠ (TX4 b).2.1 := by decide +kernel
theorem tyX4_ok : ∀ k, k < 1 → parseFieldDescriptor (TX4 k).2.2.1 = some (tyX4 k) := by decide +kernel
abbrev cX4_init : ByteArray := prog_6_method_1_code
def yX4_init : MethodName := ⟨RX4, "<init>", "(I)V"⟩
abbrev cX4_at : ByteArray := prog_6_method_2_code
def yX4_at : MethodName := ⟨RX4, "at", "(I)I"⟩
abbrev cX4_put : ByteArray := prog_6_method_3_code
def yX4_put : MethodName := ⟨RX4, "put", "(II)V"⟩
abbrev cX4_increase : ByteArray := prog_6_method_4_code
def yX4_increase : MethodName := ⟨RX4, "increase", "(I)V"⟩
abbrev cX4_fill : ByteArray := prog_6_method_5_code
def yX4_fill : MethodName := ⟨RX4, "fill", "(III)V"⟩
abbrev cX4_copy : ByteArray := prog_6_method_6_code
def yX4_copy : MethodName := ⟨RX4, "copy", "(LTaskSheets$Numbers;)V"⟩
abbrev cX4_closeGap : ByteArray := prog_6_method_7_code
def yX4_closeGap : MethodName := ⟨RX4, "closeGap", "(I)V"⟩
def RX5 : String := "TaskSheets$Plan"
def TX5 : u_T := fun k => match k with
  | 0 => ("TaskSheets$Plan", "settings", "LTaskSheets$Numbers;", true)
  | 1 => ("TaskSheets$Plan", "groups", "LTaskSheets$Numbers;", true)
  | 2 => ("TaskSheets$Plan", "firsts", "LTaskSheets$Numbers;", true)
  | 3 => ("TaskSheets$Plan", "lengths", "LTaskSheets$Numbers;", true)
  | 4 => ("TaskSheets$Plan", "froms", "LTaskSheets$Numbers;", true)
  | 5 => ("TaskSheets$Plan", "tos", "LTaskSheets$Numbers;", true)
  | 6 => ("TaskSheets$Plan", "tasks", "I", false)
  | _ => ("TaskSheets$Plan", "arrows", "I", false)
def tyX5 : Nat → FieldType := fun k => match k with
  | 0 => .object "TaskSheets$Numbers"
  | 1 => .object "TaskSheets$Numbers"
  | 2 => .object "TaskSheets$Numbers"
  | 3 => .object "TaskSheets$Numbers"
  | 4 => .object "TaskSheets$Numbers"
  | 5 => .object "TaskSheets$Numbers"
  | 6 => .int
  | _ => .int
abbrev wsX50 : List Cond := u_ws RX5 TX5 8
theorem nmX5 : ∀ a, a < 8 → ∀ b, b < 8 → a ≠ b → (TX5 a).2.1 ≠ (TX5 b).2.1 := by decide +kernel
theorem tyX5_ok : ∀ k, k < 8 → parseFieldDescriptor (TX5 k).2.2.1 = some (tyX5 k) := by decide +kernel
abbrev cX5_init : ByteArray := prog_7_method_1_code
def yX5_init : MethodName := ⟨RX5, "<init>", "()V"⟩
abbrev cX5_setting : ByteArray := prog_7_method_2_code
def yX5_setting : MethodName := ⟨RX5, "setting", "(I)I"⟩
abbrev cX5_putSetting : ByteArray := prog_7_method_3_code
def yX5_putSetting : MethodName := ⟨RX5, "putSetting", "(II)V"⟩
abbrev cX5_taskCount : ByteArray := prog_7_method_4_code
def yX5_taskCount : MethodName := ⟨RX5, "taskCount", "()I"⟩
abbrev cX5_arrowCount : ByteArray := prog_7_method_5_code
def yX5_arrowCount : MethodName := ⟨RX5, "arrowCount", "()I"⟩
abbrev cX5_hasTask : ByteArray := prog_7_method_6_code
def yX5_hasTask : MethodName := ⟨RX5, "hasTask", "(I)Z"⟩
abbrev cX5_hasArrow : ByteArray := prog_7_method_7_code
def yX5_hasArrow : MethodName := ⟨RX5, "hasArrow", "(I)Z"⟩
abbrev cX5_group : ByteArray := prog_7_method_8_code
def yX5_group : MethodName := ⟨RX5, "group", "(I)I"⟩
abbrev cX5_first : ByteArray := prog_7_method_9_code
def yX5_first : MethodName := ⟨RX5, "first", "(I)I"⟩
abbrev cX5_length : ByteArray := prog_7_method_10_code
def yX5_length : MethodName := ⟨RX5, "length", "(I)I"⟩
abbrev cX5_last : ByteArray := prog_7_method_11_code
def yX5_last : MethodName := ⟨RX5, "last", "(I)I"⟩
abbrev cX5_from : ByteArray := prog_7_method_12_code
def yX5_from : MethodName := ⟨RX5, "from", "(I)I"⟩
abbrev cX5_to : ByteArray := prog_7_method_13_code
def yX5_to : MethodName := ⟨RX5, "to", "(I)I"⟩
abbrev cX5_isLate : ByteArray := prog_7_method_14_code
def yX5_isLate : MethodName := ⟨RX5, "isLate", "(I)Z"⟩
abbrev cX5_covers : ByteArray := prog_7_method_15_code
def yX5_covers : MethodName := ⟨RX5, "covers", "(II)Z"⟩
abbrev cX5_daysOfBars : ByteArray := prog_7_method_16_code
def yX5_daysOfBars : MethodName := ⟨RX5, "daysOfBars", "()I"⟩
abbrev cX5_hasArrowBetween : ByteArray := prog_7_method_17_code
def yX5_hasArrowBetween : MethodName := ⟨RX5, "hasArrowBetween", "(II)Z"⟩
abbrev cX5_tellTask : ByteArray := prog_7_method_18_code
def yX5_tellTask : MethodName := ⟨RX5, "tellTask", "(III)I"⟩
abbrev cX5_putBar : ByteArray := prog_7_method_19_code
def yX5_putBar : MethodName := ⟨RX5, "putBar", "(III)V"⟩
abbrev cX5_tellArrow : ByteArray := prog_7_method_20_code
def yX5_tellArrow : MethodName := ⟨RX5, "tellArrow", "(II)I"⟩
abbrev cX5_dropArrow : ByteArray := prog_7_method_21_code
def yX5_dropArrow : MethodName := ⟨RX5, "dropArrow", "(I)V"⟩
abbrev cX5_dropTask : ByteArray := prog_7_method_22_code
def yX5_dropTask : MethodName := ⟨RX5, "dropTask", "(I)I"⟩
abbrev cX5_dropArrowsOf : ByteArray := prog_7_method_23_code
def yX5_dropArrowsOf : MethodName := ⟨RX5, "dropArrowsOf", "(I)I"⟩
abbrev cX5_forgetTasksAndArrows : ByteArray := prog_7_method_24_code
def yX5_forgetTasksAndArrows : MethodName := ⟨RX5, "forgetTasksAndArrows", "()V"⟩
abbrev cX5_copyTasksAndArrows : ByteArray := prog_7_method_25_code
def yX5_copyTasksAndArrows : MethodName := ⟨RX5, "copyTasksAndArrows", "(LTaskSheets$Plan;)V"⟩
abbrev cX5_copyAll : ByteArray := prog_7_method_26_code
def yX5_copyAll : MethodName := ⟨RX5, "copyAll", "(LTaskSheets$Plan;)V"⟩
def RX6 : String := "TaskSheets$Sheets"
def TX6 : u_T := fun k => match k with
  | 0 => ("TaskSheets$Sheets", "partsOnSpot", "LTaskSheets$Numbers;", true)
  | 1 => ("TaskSheets$Sheets", "sheetOnSpot", "LTaskSheets$Numbers;", true)
  | 2 => ("TaskSheets$Sheets", "bandOfSheet", "LTaskSheets$Numbers;", true)
  | 3 => ("TaskSheets$Sheets", "stripOfSheet", "LTaskSheets$Numbers;", true)
  | _ => ("TaskSheets$Sheets", "count", "I", false)
def tyX6 : Nat → FieldType := fun k => match k with
  | 0 => .object "TaskSheets$Numbers"
  | 1 => .object "TaskSheets$Numbers"
  | 2 => .object "TaskSheets$Numbers"
  | 3 => .object "TaskSheets$Numbers"
  | _ => .int
abbrev wsX60 : List Cond := u_ws RX6 TX6 5
theorem nmX6 : ∀ a, a < 5 → ∀ b, b < 5 → a ≠ b → (TX6 a).2.1 ≠ (TX6 b).2.1 := by decide +kernel
theorem tyX6_ok : ∀ k, k < 5 → parseFieldDescriptor (TX6 k).2.2.1 = some (tyX6 k) := by decide +kernel
abbrev cX6_init : ByteArray := prog_8_method_1_code
def yX6_init : MethodName := ⟨RX6, "<init>", "()V"⟩
abbrev cX6_count : ByteArray := prog_8_method_2_code
def yX6_count : MethodName := ⟨RX6, "count", "()I"⟩
abbrev cX6_bandOf : ByteArray := prog_8_method_3_code
def yX6_bandOf : MethodName := ⟨RX6, "bandOf", "(I)I"⟩
abbrev cX6_stripOf : ByteArray := prog_8_method_4_code
def yX6_stripOf : MethodName := ⟨RX6, "stripOf", "(I)I"⟩
abbrev cX6_partsOn : ByteArray := prog_8_method_5_code
def yX6_partsOn : MethodName := ⟨RX6, "partsOn", "(I)I"⟩
abbrev cX6_numberAt : ByteArray := prog_8_method_6_code
def yX6_numberAt : MethodName := ⟨RX6, "numberAt", "(II)I"⟩
abbrev cX6_spot : ByteArray := prog_8_method_7_code
def yX6_spot : MethodName := ⟨RX6, "spot", "(II)I"⟩
abbrev cX6_print : ByteArray := prog_8_method_8_code
def yX6_print : MethodName := ⟨RX6, "print", "(LTaskSheets$Plan;LTaskSheets$Bands;I)V"⟩
abbrev cX6_numberByBands : ByteArray := prog_8_method_9_code
def yX6_numberByBands : MethodName := ⟨RX6, "numberByBands", "(II)V"⟩
abbrev cX6_numberByStrips : ByteArray := prog_8_method_10_code
def yX6_numberByStrips : MethodName := ⟨RX6, "numberByStrips", "(II)V"⟩
abbrev cX6_number : ByteArray := prog_8_method_11_code
def yX6_number : MethodName := ⟨RX6, "number", "(II)V"⟩
def RX7 : String := "TaskSheets$TaskText"
def TX7 : u_T := fun k => match k with
  | 0 => ("TaskSheets$TaskText", "bytes", "LTaskSheets$Numbers;", true)
  | 1 => ("TaskSheets$TaskText", "length", "I", false)
  | 2 => ("TaskSheets$TaskText", "position", "I", false)
  | 3 => ("TaskSheets$TaskText", "error", "I", false)
  | _ => ("TaskSheets$TaskText", "number", "I", false)
def tyX7 : Nat → FieldType := fun k => match k with
  | 0 => .object "TaskSheets$Numbers"
  | 1 => .int
  | 2 => .int
  | 3 => .int
  | _ => .int
abbrev wsX70 : List Cond := u_ws RX7 TX7 5
theorem nmX7 : ∀ a, a < 5 → ∀ b, b < 5 → a ≠ b → (TX7 a).2.1 ≠ (TX7 b).2.1 := by decide +kernel
theorem tyX7_ok : ∀ k, k < 5 → parseFieldDescriptor (TX7 k).2.2.1 = some (tyX7 k) := by decide +kernel
abbrev cX7_init : ByteArray := prog_9_method_1_code
def yX7_init : MethodName := ⟨RX7, "<init>", "()V"⟩
abbrev cX7_length : ByteArray := prog_9_method_2_code
def yX7_length : MethodName := ⟨RX7, "length", "()I"⟩
abbrev cX7_add : ByteArray := prog_9_method_3_code
def yX7_add : MethodName := ⟨RX7, "add", "(I)V"⟩
abbrev cX7_empty : ByteArray := prog_9_method_4_code
def yX7_empty : MethodName := ⟨RX7, "empty", "()V"⟩
abbrev cX7_read : ByteArray := prog_9_method_5_code
def yX7_read : MethodName := ⟨RX7, "read", "(LTaskSheets$Plan;)I"⟩
abbrev cX7_readTask : ByteArray := prog_9_method_6_code
def yX7_readTask : MethodName := ⟨RX7, "readTask", "(LTaskSheets$Plan;)Z"⟩
abbrev cX7_readArrow : ByteArray := prog_9_method_7_code
def yX7_readArrow : MethodName := ⟨RX7, "readArrow", "(LTaskSheets$Plan;)Z"⟩
abbrev cX7_readSign : ByteArray := prog_9_method_8_code
def yX7_readSign : MethodName := ⟨RX7, "readSign", "(I)Z"⟩
abbrev cX7_readNumber : ByteArray := prog_9_method_9_code
def yX7_readNumber : MethodName := ⟨RX7, "readNumber", "(III)Z"⟩
abbrev cX7_nextIsDigit : ByteArray := prog_9_method_10_code
def yX7_nextIsDigit : MethodName := ⟨RX7, "nextIsDigit", "()Z"⟩
abbrev cX7_next : ByteArray := prog_9_method_11_code
def yX7_next : MethodName := ⟨RX7, "next", "()I"⟩
abbrev cX7_fail : ByteArray := prog_9_method_12_code
def yX7_fail : MethodName := ⟨RX7, "fail", "(I)Z"⟩
def RX8 : String := "TaskSheets"
def TX8 : u_T := fun k => match k with
  | 0 => ("TaskSheets", "plan", "LTaskSheets$Plan;", true)
  | 1 => ("TaskSheets", "told", "LTaskSheets$Plan;", true)
  | 2 => ("TaskSheets", "history", "LTaskSheets$History;", true)
  | 3 => ("TaskSheets", "text", "LTaskSheets$TaskText;", true)
  | 4 => ("TaskSheets", "chains", "LTaskSheets$Chains;", true)
  | 5 => ("TaskSheets", "bands", "LTaskSheets$Bands;", true)
  | 6 => ("TaskSheets", "sheets", "LTaskSheets$Sheets;", true)
  | 7 => ("TaskSheets", "exits", "LTaskSheets$Exits;", true)
  | 8 => ("TaskSheets", "trialBands", "LTaskSheets$Bands;", true)
  | _ => ("TaskSheets", "trialSheets", "LTaskSheets$Sheets;", true)
def tyX8 : Nat → FieldType := fun k => match k with
  | 0 => .object "TaskSheets$Plan"
  | 1 => .object "TaskSheets$Plan"
  | 2 => .object "TaskSheets$History"
  | 3 => .object "TaskSheets$TaskText"
  | 4 => .object "TaskSheets$Chains"
  | 5 => .object "TaskSheets$Bands"
  | 6 => .object "TaskSheets$Sheets"
  | 7 => .object "TaskSheets$Exits"
  | 8 => .object "TaskSheets$Bands"
  | _ => .object "TaskSheets$Sheets"
abbrev wsX80 : List Cond := u_ws RX8 TX8 10
theorem nmX8 : ∀ a, a < 10 → ∀ b, b < 10 → a ≠ b → (TX8 a).2.1 ≠ (TX8 b).2.1 := by decide +kernel
theorem tyX8_ok : ∀ k, k < 10 → parseFieldDescriptor (TX8 k).2.2.1 = some (tyX8 k) := by decide +kernel
abbrev cX8_init : ByteArray := prog_1_method_1_code
def yX8_init : MethodName := ⟨RX8, "<init>", "()V"⟩
abbrev cX8_set : ByteArray := prog_1_method_2_code
def yX8_set : MethodName := ⟨RX8, "set", "(II)I"⟩
abbrev cX8_value : ByteArray := prog_1_method_3_code
def yX8_value : MethodName := ⟨RX8, "value", "(I)I"⟩
abbrev cX8_addTask : ByteArray := prog_1_method_4_code
def yX8_addTask : MethodName := ⟨RX8, "addTask", "(III)I"⟩
abbrev cX8_move : ByteArray := prog_1_method_5_code
def yX8_move : MethodName := ⟨RX8, "move", "(III)I"⟩
abbrev cX8_removeTask : ByteArray := prog_1_method_6_code
def yX8_removeTask : MethodName := ⟨RX8, "removeTask", "(I)I"⟩
abbrev cX8_addArrow : ByteArray := prog_1_method_7_code
def yX8_addArrow : MethodName := ⟨RX8, "addArrow", "(II)I"⟩
abbrev cX8_removeArrow : ByteArray := prog_1_method_8_code
def yX8_removeArrow : MethodName := ⟨RX8, "removeArrow", "(I)I"⟩
abbrev cX8_task : ByteArray := prog_1_method_9_code
def yX8_task : MethodName := ⟨RX8, "task", "(II)I"⟩
abbrev cX8_bands : ByteArray := prog_1_method_10_code
def yX8_bands : MethodName := ⟨RX8, "bands", "()I"⟩
abbrev cX8_row : ByteArray := prog_1_method_11_code
def yX8_row : MethodName := ⟨RX8, "row", "(II)I"⟩
abbrev cX8_sheets : ByteArray := prog_1_method_12_code
def yX8_sheets : MethodName := ⟨RX8, "sheets", "()I"⟩
abbrev cX8_sheet : ByteArray := prog_1_method_13_code
def yX8_sheet : MethodName := ⟨RX8, "sheet", "(II)I"⟩
abbrev cX8_sheetAt : ByteArray := prog_1_method_14_code
def yX8_sheetAt : MethodName := ⟨RX8, "sheetAt", "(II)I"⟩
abbrev cX8_part : ByteArray := prog_1_method_15_code
def yX8_part : MethodName := ⟨RX8, "part", "(III)I"⟩
abbrev cX8_arrow : ByteArray := prog_1_method_16_code
def yX8_arrow : MethodName := ⟨RX8, "arrow", "(II)I"⟩
abbrev cX8_arrowOf : ByteArray := prog_1_method_17_code
def yX8_arrowOf : MethodName := ⟨RX8, "arrowOf", "(I)I"⟩
abbrev cX8_taskAt : ByteArray := prog_1_method_18_code
def yX8_taskAt : MethodName := ⟨RX8, "taskAt", "(III)I"⟩
abbrev cX8_covered : ByteArray := prog_1_method_19_code
def yX8_covered : MethodName := ⟨RX8, "covered", "()D"⟩
abbrev cX8_sheetsWith : ByteArray := prog_1_method_20_code
def yX8_sheetsWith : MethodName := ⟨RX8, "sheetsWith", "(II)I"⟩
abbrev cX8_fewestExits : ByteArray := prog_1_method_21_code
def yX8_fewestExits : MethodName := ⟨RX8, "fewestExits", "()I"⟩
abbrev cX8_delay : ByteArray := prog_1_method_22_code
def yX8_delay : MethodName := ⟨RX8, "delay", "(I)I"⟩
abbrev cX8_longestChain : ByteArray := prog_1_method_23_code
def yX8_longestChain : MethodName := ⟨RX8, "longestChain", "()I"⟩
abbrev cX8_append : ByteArray := prog_1_method_24_code
def yX8_append : MethodName := ⟨RX8, "append", "(I)I"⟩
abbrev cX8_clearText : ByteArray := prog_1_method_25_code
def yX8_clearText : MethodName := ⟨RX8, "clearText", "()I"⟩
abbrev cX8_parse : ByteArray := prog_1_method_26_code
def yX8_parse : MethodName := ⟨RX8, "parse", "()I"⟩
abbrev cX8_undo : ByteArray := prog_1_method_27_code
def yX8_undo : MethodName := ⟨RX8, "undo", "()I"⟩
abbrev cX8_digest : ByteArray := prog_1_method_28_code
def yX8_digest : MethodName := ⟨RX8, "digest", "()J"⟩
abbrev cX8_digestTasks : ByteArray := prog_1_method_29_code
def yX8_digestTasks : MethodName := ⟨RX8, "digestTasks", "(J)J"⟩
abbrev cX8_digestBands : ByteArray := prog_1_method_30_code
def yX8_digestBands : MethodName := ⟨RX8, "digestBands", "(J)J"⟩
abbrev cX8_digestSheets : ByteArray := prog_1_method_31_code
def yX8_digestSheets : MethodName := ⟨RX8, "digestSheets", "(J)J"⟩
abbrev cX8_digestArrows : ByteArray := prog_1_method_32_code
def yX8_digestArrows : MethodName := ⟨RX8, "digestArrows", "(J)J"⟩
abbrev cX8_printAnew : ByteArray := prog_1_method_33_code
def yX8_printAnew : MethodName := ⟨RX8, "printAnew", "()V"⟩
abbrev cX8_requireTask : ByteArray := prog_1_method_34_code
def yX8_requireTask : MethodName := ⟨RX8, "requireTask", "(I)V"⟩
abbrev cX8_requireArrow : ByteArray := prog_1_method_35_code
def yX8_requireArrow : MethodName := ⟨RX8, "requireArrow", "(I)V"⟩
abbrev cX8_requireBand : ByteArray := prog_1_method_36_code
def yX8_requireBand : MethodName := ⟨RX8, "requireBand", "(I)V"⟩
abbrev cX8_requireRow : ByteArray := prog_1_method_37_code
def yX8_requireRow : MethodName := ⟨RX8, "requireRow", "(I)V"⟩
abbrev cX8_requireSheet : ByteArray := prog_1_method_38_code
def yX8_requireSheet : MethodName := ⟨RX8, "requireSheet", "(I)V"⟩
abbrev cX8_isSetting : ByteArray := prog_1_method_39_code
def yX8_isSetting : MethodName := ⟨RX8, "isSetting", "(II)Z"⟩
abbrev cX8_isBar : ByteArray := prog_1_method_40_code
def yX8_isBar : MethodName := ⟨RX8, "isBar", "(II)Z"⟩
abbrev cX8_stripOfDay : ByteArray := prog_1_method_41_code
def yX8_stripOfDay : MethodName := ⟨RX8, "stripOfDay", "(II)I"⟩
abbrev cX8_partsOf : ByteArray := prog_1_method_42_code
def yX8_partsOf : MethodName := ⟨RX8, "partsOf", "(I)I"⟩
abbrev cX8_exitsWith : ByteArray := prog_1_method_43_code
def yX8_exitsWith : MethodName := ⟨RX8, "exitsWith", "(I)I"⟩
abbrev cX8_numberOfPlan : ByteArray := prog_1_method_44_code
def yX8_numberOfPlan : MethodName := ⟨RX8, "numberOfPlan", "(I)I"⟩
abbrev cX8_numberOfTask : ByteArray := prog_1_method_45_code
def yX8_numberOfTask : MethodName := ⟨RX8, "numberOfTask", "(II)I"⟩
abbrev cX8_numberOfSheet : ByteArray := prog_1_method_46_code
def yX8_numberOfSheet : MethodName := ⟨RX8, "numberOfSheet", "(II)I"⟩
abbrev cX8_numberOfPart : ByteArray := prog_1_method_47_code
def yX8_numberOfPart : MethodName := ⟨RX8, "numberOfPart", "(III)I"⟩
abbrev cX8_numberOfArrow : ByteArray := prog_1_method_48_code
def yX8_numberOfArrow : MethodName := ⟨RX8, "numberOfArrow", "(II)I"⟩
def RX9 : String := "TaskSheetsModel"
def TX9 : u_T := fun k => match k with
  | 0 => ("TaskSheetsModel", "s", "[I", true)
  | 1 => ("TaskSheetsModel", "past", "[I", true)
  | 2 => ("TaskSheetsModel", "aside", "[I", true)
  | 3 => ("TaskSheetsModel", "pasts", "I", false)
  | 4 => ("TaskSheetsModel", "text", "[I", true)
  | 5 => ("TaskSheetsModel", "typed", "I", false)
  | 6 => ("TaskSheetsModel", "thrown", "I", false)
  | 7 => ("TaskSheetsModel", "bandMany", "I", false)
  | 8 => ("TaskSheetsModel", "used", "I", false)
  | 9 => ("TaskSheetsModel", "rows", "[I", true)
  | 10 => ("TaskSheetsModel", "bandOf", "[I", true)
  | 11 => ("TaskSheetsModel", "rowOf", "[I", true)
  | 12 => ("TaskSheetsModel", "sheetMany", "I", false)
  | 13 => ("TaskSheetsModel", "numbers", "[I", true)
  | 14 => ("TaskSheetsModel", "placeOf", "[I", true)
  | 15 => ("TaskSheetsModel", "chain", "[I", true)
  | 16 => ("TaskSheetsModel", "at", "I", false)
  | 17 => ("TaskSheetsModel", "number", "I", false)
  | _ => ("TaskSheetsModel", "h", "J", false)
def tyX9 : Nat → FieldType := fun k => match k with
  | 0 => .array .int
  | 1 => .array .int
  | 2 => .array .int
  | 3 => .int
  | 4 => .array .int
  | 5 => .int
  | 6 => .int
  | 7 => .int
  | 8 => .int
  | 9 => .array .int
  | 10 => .array .int
  | 11 => .array .int
  | 12 => .int
  | 13 => .array .int
  | 14 => .array .int
  | 15 => .array .int
  | 16 => .int
  | 17 => .int
  | _ => .long
abbrev wsX90 : List Cond := u_ws RX9 TX9 19
theorem nmX9 : ∀ a, a < 19 → ∀ b, b < 19 → a ≠ b → (TX9 a).2.1 ≠ (TX9 b).2.1 := by decide +kernel
theorem tyX9_ok : ∀ k, k < 19 → parseFieldDescriptor (TX9 k).2.2.1 = some (tyX9 k) := by decide +kernel
abbrev cX9_init : ByteArray := prog_11_method_1_code
def yX9_init : MethodName := ⟨RX9, "<init>", "()V"⟩
abbrev cX9_thrown : ByteArray := prog_11_method_2_code
def yX9_thrown : MethodName := ⟨RX9, "thrown", "()I"⟩
abbrev cX9_in : ByteArray := prog_11_method_3_code
def yX9_in : MethodName := ⟨RX9, "in", "(III)Z"⟩
abbrev cX9_fails : ByteArray := prog_11_method_4_code
def yX9_fails : MethodName := ⟨RX9, "fails", "(I)I"⟩
abbrev cX9_tells : ByteArray := prog_11_method_5_code
def yX9_tells : MethodName := ⟨RX9, "tells", "(I)I"⟩
abbrev cX9_hold : ByteArray := prog_11_method_6_code
def yX9_hold : MethodName := ⟨RX9, "hold", "()V"⟩
abbrev cX9_ends : ByteArray := prog_11_method_7_code
def yX9_ends : MethodName := ⟨RX9, "ends", "(I)I"⟩
abbrev cX9_isTask : ByteArray := prog_11_method_8_code
def yX9_isTask : MethodName := ⟨RX9, "isTask", "(I)Z"⟩
abbrev cX9_isArrow : ByteArray := prog_11_method_9_code
def yX9_isArrow : MethodName := ⟨RX9, "isArrow", "(I)Z"⟩
abbrev cX9_of : ByteArray := prog_11_method_10_code
def yX9_of : MethodName := ⟨RX9, "of", "(II)I"⟩
abbrev cX9_lastDay : ByteArray := prog_11_method_11_code
def yX9_lastDay : MethodName := ⟨RX9, "lastDay", "(I)I"⟩
abbrev cX9_end : ByteArray := prog_11_method_12_code
def yX9_end : MethodName := ⟨RX9, "end", "(II)I"⟩
abbrev cX9_isSetting : ByteArray := prog_11_method_13_code
def yX9_isSetting : MethodName := ⟨RX9, "isSetting", "(II)Z"⟩
abbrev cX9_set : ByteArray := prog_11_method_14_code
def yX9_set : MethodName := ⟨RX9, "set", "(II)I"⟩
abbrev cX9_valueOf : ByteArray := prog_11_method_15_code
def yX9_valueOf : MethodName := ⟨RX9, "valueOf", "(I)I"⟩
abbrev cX9_value : ByteArray := prog_11_method_16_code
def yX9_value : MethodName := ⟨RX9, "value", "(I)I"⟩
abbrev cX9_isBar : ByteArray := prog_11_method_17_code
def yX9_isBar : MethodName := ⟨RX9, "isBar", "(II)Z"⟩
abbrev cX9_comes : ByteArray := prog_11_method_18_code
def yX9_comes : MethodName := ⟨RX9, "comes", "(III)V"⟩
abbrev cX9_addTask : ByteArray := prog_11_method_19_code
def yX9_addTask : MethodName := ⟨RX9, "addTask", "(III)I"⟩
abbrev cX9_move : ByteArray := prog_11_method_20_code
def yX9_move : MethodName := ⟨RX9, "move", "(III)I"⟩
abbrev cX9_arrowGoes : ByteArray := prog_11_method_21_code
def yX9_arrowGoes : MethodName := ⟨RX9, "arrowGoes", "(I)V"⟩
abbrev cX9_removeTask : ByteArray := prog_11_method_22_code
def yX9_removeTask : MethodName := ⟨RX9, "removeTask", "(I)I"⟩
abbrev cX9_hasArrow : ByteArray := prog_11_method_23_code
def yX9_hasArrow : MethodName := ⟨RX9, "hasArrow", "(II)Z"⟩
abbrev cX9_arrowComes : ByteArray := prog_11_method_24_code
def yX9_arrowComes : MethodName := ⟨RX9, "arrowComes", "(II)V"⟩
abbrev cX9_addArrow : ByteArray := prog_11_method_25_code
def yX9_addArrow : MethodName := ⟨RX9, "addArrow", "(II)I"⟩
abbrev cX9_removeArrow : ByteArray := prog_11_method_26_code
def yX9_removeArrow : MethodName := ⟨RX9, "removeArrow", "(I)I"⟩
abbrev cX9_newBand : ByteArray := prog_11_method_27_code
def yX9_newBand : MethodName := ⟨RX9, "newBand", "()V"⟩
abbrev cX9_takesRow : ByteArray := prog_11_method_28_code
def yX9_takesRow : MethodName := ⟨RX9, "takesRow", "(I)V"⟩
abbrev cX9_sizeOf : ByteArray := prog_11_method_29_code
def yX9_sizeOf : MethodName := ⟨RX9, "sizeOf", "(I)I"⟩
abbrev cX9_next : ByteArray := prog_11_method_30_code
def yX9_next : MethodName := ⟨RX9, "next", "(II)I"⟩
abbrev cX9_begins : ByteArray := prog_11_method_31_code
def yX9_begins : MethodName := ⟨RX9, "begins", "(II)V"⟩
abbrev cX9_bandsBy : ByteArray := prog_11_method_32_code
def yX9_bandsBy : MethodName := ⟨RX9, "bandsBy", "(I)V"⟩
abbrev cX9_printsBy : ByteArray := prog_11_method_33_code
def yX9_printsBy : MethodName := ⟨RX9, "printsBy", "(II)V"⟩
abbrev cX9_prints : ByteArray := prog_11_method_34_code
def yX9_prints : MethodName := ⟨RX9, "prints", "()V"⟩
abbrev cX9_sheetBy : ByteArray := prog_11_method_35_code
def yX9_sheetBy : MethodName := ⟨RX9, "sheetBy", "(III)I"⟩
abbrev cX9_leaves : ByteArray := prog_11_method_36_code
def yX9_leaves : MethodName := ⟨RX9, "leaves", "(II)I"⟩
abbrev cX9_arrives : ByteArray := prog_11_method_37_code
def yX9_arrives : MethodName := ⟨RX9, "arrives", "(II)I"⟩
abbrev cX9_isExit : ByteArray := prog_11_method_38_code
def yX9_isExit : MethodName := ⟨RX9, "isExit", "(II)Z"⟩
abbrev cX9_exitOf : ByteArray := prog_11_method_39_code
def yX9_exitOf : MethodName := ⟨RX9, "exitOf", "(I)I"⟩
abbrev cX9_isLate : ByteArray := prog_11_method_40_code
def yX9_isLate : MethodName := ⟨RX9, "isLate", "(I)Z"⟩
abbrev cX9_partsOf : ByteArray := prog_11_method_41_code
def yX9_partsOf : MethodName := ⟨RX9, "partsOf", "(I)I"⟩
abbrev cX9_taskTold : ByteArray := prog_11_method_42_code
def yX9_taskTold : MethodName := ⟨RX9, "taskTold", "(II)I"⟩
abbrev cX9_task : ByteArray := prog_11_method_43_code
def yX9_task : MethodName := ⟨RX9, "task", "(II)I"⟩
abbrev cX9_bands : ByteArray := prog_11_method_44_code
def yX9_bands : MethodName := ⟨RX9, "bands", "()I"⟩
abbrev cX9_row : ByteArray := prog_11_method_45_code
def yX9_row : MethodName := ⟨RX9, "row", "(II)I"⟩
abbrev cX9_sheets : ByteArray := prog_11_method_46_code
def yX9_sheets : MethodName := ⟨RX9, "sheets", "()I"⟩
abbrev cX9_partsOn : ByteArray := prog_11_method_47_code
def yX9_partsOn : MethodName := ⟨RX9, "partsOn", "(I)I"⟩
abbrev cX9_arrowsOn : ByteArray := prog_11_method_48_code
def yX9_arrowsOn : MethodName := ⟨RX9, "arrowsOn", "(IZ)I"⟩
abbrev cX9_sheetTold : ByteArray := prog_11_method_49_code
def yX9_sheetTold : MethodName := ⟨RX9, "sheetTold", "(II)I"⟩
abbrev cX9_sheet : ByteArray := prog_11_method_50_code
def yX9_sheet : MethodName := ⟨RX9, "sheet", "(II)I"⟩
abbrev cX9_sheetAt : ByteArray := prog_11_method_51_code
def yX9_sheetAt : MethodName := ⟨RX9, "sheetAt", "(II)I"⟩
abbrev cX9_part : ByteArray := prog_11_method_52_code
def yX9_part : MethodName := ⟨RX9, "part", "(III)I"⟩
abbrev cX9_arrowTold : ByteArray := prog_11_method_53_code
def yX9_arrowTold : MethodName := ⟨RX9, "arrowTold", "(II)I"⟩
abbrev cX9_arrow : ByteArray := prog_11_method_54_code
def yX9_arrow : MethodName := ⟨RX9, "arrow", "(II)I"⟩
abbrev cX9_arrowOf : ByteArray := prog_11_method_55_code
def yX9_arrowOf : MethodName := ⟨RX9, "arrowOf", "(I)I"⟩
abbrev cX9_taskAt : ByteArray := prog_11_method_56_code
def yX9_taskAt : MethodName := ⟨RX9, "taskAt", "(III)I"⟩
abbrev cX9_covered : ByteArray := prog_11_method_57_code
def yX9_covered : MethodName := ⟨RX9, "covered", "()D"⟩
abbrev cX9_sheetsWith : ByteArray := prog_11_method_58_code
def yX9_sheetsWith : MethodName := ⟨RX9, "sheetsWith", "(II)I"⟩
abbrev cX9_fewestExits : ByteArray := prog_11_method_59_code
def yX9_fewestExits : MethodName := ⟨RX9, "fewestExits", "()I"⟩
abbrev cX9_delay : ByteArray := prog_11_method_60_code
def yX9_delay : MethodName := ⟨RX9, "delay", "(I)I"⟩
abbrev cX9_longest : ByteArray := prog_11_method_61_code
def yX9_longest : MethodName := ⟨RX9, "longest", "()I"⟩
abbrev cX9_longestChain : ByteArray := prog_11_method_62_code
def yX9_longestChain : MethodName := ⟨RX9, "longestChain", "()I"⟩
abbrev cX9_append : ByteArray := prog_11_method_63_code
def yX9_append : MethodName := ⟨RX9, "append", "(I)I"⟩
abbrev cX9_clearText : ByteArray := prog_11_method_64_code
def yX9_clearText : MethodName := ⟨RX9, "clearText", "()I"⟩
abbrev cX9_isAt : ByteArray := prog_11_method_65_code
def yX9_isAt : MethodName := ⟨RX9, "isAt", "(II)Z"⟩
abbrev cX9_takes : ByteArray := prog_11_method_66_code
def yX9_takes : MethodName := ⟨RX9, "takes", "(I)Z"⟩
abbrev cX9_isNumber : ByteArray := prog_11_method_67_code
def yX9_isNumber : MethodName := ⟨RX9, "isNumber", "(I)Z"⟩
abbrev cX9_isWithin : ByteArray := prog_11_method_68_code
def yX9_isWithin : MethodName := ⟨RX9, "isWithin", "(IIII)Z"⟩
abbrev cX9_isItem : ByteArray := prog_11_method_69_code
def yX9_isItem : MethodName := ⟨RX9, "isItem", "()Z"⟩
abbrev cX9_parse : ByteArray := prog_11_method_70_code
def yX9_parse : MethodName := ⟨RX9, "parse", "()I"⟩
abbrev cX9_undo : ByteArray := prog_11_method_71_code
def yX9_undo : MethodName := ⟨RX9, "undo", "()I"⟩
abbrev cX9_mix : ByteArray := prog_11_method_72_code
def yX9_mix : MethodName := ⟨RX9, "mix", "(I)V"⟩
abbrev cX9_digest : ByteArray := prog_11_method_73_code
def yX9_digest : MethodName := ⟨RX9, "digest", "()J"⟩
def RJ9 : String := "java/lang/Math"
def TJ9 : u_T := fun k => match k with
  | _ => ("", "", "", false)
def tyJ9 : Nat → FieldType := fun k => match k with
  | _ => .int
abbrev wsJ90 : List Cond := u_ws RJ9 TJ9 0
theorem nmJ9 : ∀ a, a < 0 → ∀ b, b < 0 → a ≠ b → (TJ9 a).2.1 ≠ (TJ9 b).2.1 := by decide +kernel
theorem tyJ9_ok : ∀ k, k < 0 → parseFieldDescriptor (TJ9 k).2.2.1 = some (tyJ9 k) := by decide +kernel
abbrev cJ9_max_7cf53 : ByteArray := prog_16_method_65_code
def yJ9_max_7cf53 : MethodName := ⟨RJ9, "max", "(II)I"⟩
abbrev cJ9_min_7cf53 : ByteArray := prog_16_method_69_code
def yJ9_min_7cf53 : MethodName := ⟨RJ9, "min", "(II)I"⟩
def RJ0 : String := "java/lang/String"
def TJ0 : u_T := fun k => match k with
  | _ => ("", "", "", false)
def tyJ0 : Nat → FieldType := fun k => match k with
  | _ => .int
abbrev wsJ00 : List Cond := u_ws RJ0 TJ0 0
theorem nmJ0 : ∀ a, a < 0 → ∀ b, b < 0 → a ≠ b → (TJ0 a).2.1 ≠ (TJ0 b).2.1 := by decide +kernel
theorem tyJ0_ok : ∀ k, k < 0 → parseFieldDescriptor (TJ0 k).2.2.1 = some (tyJ0 k) := by decide +kernel
def RL : String := "TaskSheetsLaw"
abbrev cL_set : ByteArray := method_3_code
def yL_set : MethodName := ⟨RL, "set", "(LTaskSheets;II[J)I"⟩
abbrev cL_value : ByteArray := method_4_code
def yL_value : MethodName := ⟨RL, "value", "(LTaskSheets;I[J)I"⟩
abbrev cL_addTask : ByteArray := method_5_code
def yL_addTask : MethodName := ⟨RL, "addTask", "(LTaskSheets;III[J)I"⟩
abbrev cL_move : ByteArray := method_6_code
def yL_move : MethodName := ⟨RL, "move", "(LTaskSheets;III[J)I"⟩
abbrev cL_removeTask : ByteArray := method_7_code
def yL_removeTask : MethodName := ⟨RL, "removeTask", "(LTaskSheets;I[J)I"⟩
abbrev cL_addArrow : ByteArray := method_8_code
def yL_addArrow : MethodName := ⟨RL, "addArrow", "(LTaskSheets;II[J)I"⟩
abbrev cL_removeArrow : ByteArray := method_9_code
def yL_removeArrow : MethodName := ⟨RL, "removeArrow", "(LTaskSheets;I[J)I"⟩
abbrev cL_task : ByteArray := method_10_code
def yL_task : MethodName := ⟨RL, "task", "(LTaskSheets;II[J)I"⟩
abbrev cL_row : ByteArray := method_11_code
def yL_row : MethodName := ⟨RL, "row", "(LTaskSheets;II[J)I"⟩
abbrev cL_sheet : ByteArray := method_12_code
def yL_sheet : MethodName := ⟨RL, "sheet", "(LTaskSheets;II[J)I"⟩
abbrev cL_sheetAt : ByteArray := method_13_code
def yL_sheetAt : MethodName := ⟨RL, "sheetAt", "(LTaskSheets;II[J)I"⟩
abbrev cL_part : ByteArray := method_14_code
def yL_part : MethodName := ⟨RL, "part", "(LTaskSheets;III[J)I"⟩
abbrev cL_arrow : ByteArray := method_15_code
def yL_arrow : MethodName := ⟨RL, "arrow", "(LTaskSheets;II[J)I"⟩
abbrev cL_arrowOf : ByteArray := method_16_code
def yL_arrowOf : MethodName := ⟨RL, "arrowOf", "(LTaskSheets;I[J)I"⟩
abbrev cL_taskAt : ByteArray := method_17_code
def yL_taskAt : MethodName := ⟨RL, "taskAt", "(LTaskSheets;III[J)I"⟩
abbrev cL_sheetsWith : ByteArray := method_18_code
def yL_sheetsWith : MethodName := ⟨RL, "sheetsWith", "(LTaskSheets;II[J)I"⟩
abbrev cL_delay : ByteArray := method_19_code
def yL_delay : MethodName := ⟨RL, "delay", "(LTaskSheets;I[J)I"⟩
abbrev cL_append : ByteArray := method_20_code
def yL_append : MethodName := ⟨RL, "append", "(LTaskSheets;I[J)I"⟩
abbrev cL_undo : ByteArray := method_21_code
def yL_undo : MethodName := ⟨RL, "undo", "(LTaskSheets;[J)I"⟩
abbrev cL_law : ByteArray := code
def yL_law : MethodName := ⟨RL, "law", "([I)Z"⟩
def wsJ9_max_7cf53 : List Cond := .code yJ9_max_7cf53 cJ9_max_7cf53 2 (some .int) :: ([])
def wsJ9_min_7cf53 : List Cond := .code yJ9_min_7cf53 cJ9_min_7cf53 2 (some .int) :: ([])
theorem inJ9 : ∀ w ∈ wsJ90, w ∈ lw_tbl := by decide +kernel
theorem inJ0 : ∀ w ∈ wsJ00, w ∈ lw_tbl := by decide +kernel
theorem dX0_init_0 : decode cX0_init 0 = .ok (.aload_n 0, 1) := by decide +kernel
theorem dX0_init_1 : decode cX0_init 1 = .ok (.invokespecial 3, 3) := by decide +kernel
theorem dX0_init_4 : decode cX0_init 4 = .ok (.aload_n 0, 1) := by decide +kernel
theorem dX0_init_5 : decode cX0_init 5 = .ok (.new 9, 3) := by decide +kernel
theorem dX0_init_8 : decode cX0_init 8 = .ok (.dup, 1) := by decide +kernel
theorem dX0_init_9 : decode cX0_init 9 = .ok (.sipush 480, 3) := by decide +kernel
theorem dX0_init_12 : decode cX0_init 12 = .ok (.invokespecial 11, 3) := by decide +kernel
theorem dX0_init_15 : decode cX0_init 15 = .ok (.putfield 14, 3) := by decide +kernel
theorem dX0_init_18 : decode cX0_init 18 = .ok (.aload_n 0, 1) := by decide +kernel
theorem dX0_init_19 : decode cX0_init 19 = .ok (.new 9, 3) := by decide +kernel
theorem dX0_init_22 : decode cX0_init 22 = .ok (.dup, 1) := by decide +kernel
theorem dX0_init_23 : decode cX0_init 23 = .ok (.bipush 24, 2) := by decide +kernel
theorem dX0_init_25 : decode cX0_init 25 = .ok (.invokespecial 11, 3) := by decide +kernel
theorem dX0_init_28 : decode cX0_init 28 = .ok (.putfield 20, 3) := by decide +kernel
theorem dX0_init_31 : decode cX0_init 31 = .ok (.aload_n 0, 1) := by decide +kernel
theorem dX0_init_32 : decode cX0_init 32 = .ok (.new 9, 3) := by decide +kernel
theorem dX0_init_35 : decode cX0_init 35 = .ok (.dup, 1) := by decide +kernel
theorem dX0_init_36 : decode cX0_init 36 = .ok (.bipush 24, 2) := by decide +kernel
theorem dX0_init_38 : decode cX0_init 38 = .ok (.invokespecial 11, 3) := by decide +kernel
theorem dX0_init_41 : decode cX0_init 41 = .ok (.putfield 23, 3) := by decide +kernel
theorem dX0_init_44 : decode cX0_init 44 = .ok (.aload_n 0, 1) := by decide +kernel
theorem dX0_init_45 : decode cX0_init 45 = .ok (.new 9, 3) := by decide +kernel
theorem dX0_init_48 : decode cX0_init 48 = .ok (.dup, 1) := by decide +kernel
theorem dX0_init_49 : decode cX0_init 49 = .ok (.bipush 24, 2) := by decide +kernel
theorem dX0_init_51 : decode cX0_init 51 = .ok (.invokespecial 11, 3) := by decide +kernel
theorem dX0_init_54 : decode cX0_init 54 = .ok (.putfield 26, 3) := by decide +kernel
theorem dX0_init_57 : decode cX0_init 57 = .ok (.return_, 1) := by decide +kernel
theorem dX0_count_0 : decode cX0_count 0 = .ok (.aload_n 0, 1) := by decide +kernel
theorem dX0_count_1 : decode cX0_count 1 = .ok (.getfield 29, 3) := by decide +kernel
theorem dX0_count_4 : decode cX0_count 4 = .ok (.ireturn, 1) := by decide +kernel
theorem dX0_content_0 : decode cX0_content 0 = .ok (.aload_n 0, 1) := by decide +kernel
theorem dX0_content_1 : decode cX0_content 1 = .ok (.getfield 14, 3) := by decide +kernel
theorem dX0_content_4 : decode cX0_content 4 = .ok (.iload_n 1, 1) := by decide +kernel
theorem dX0_content_5 : decode cX0_content 5 = .ok (.bipush 20, 2) := by decide +kernel
theorem dX0_content_7 : decode cX0_content 7 = .ok (.imul, 1) := by decide +kernel
theorem dX0_content_8 : decode cX0_content 8 = .ok (.iload_n 2, 1) := by decide +kernel
theorem dX0_content_9 : decode cX0_content 9 = .ok (.iadd, 1) := by decide +kernel
theorem dX0_content_10 : decode cX0_content 10 = .ok (.invokevirtual 33, 3) := by decide +kernel
theorem dX0_content_13 : decode cX0_content 13 = .ok (.ireturn, 1) := by decide +kernel
theorem dX0_bandOf_0 : decode cX0_bandOf 0 = .ok (.aload_n 0, 1) := by decide +kernel
theorem dX0_bandOf_1 : decode cX0_bandOf 1 = .ok (.getfield 20, 3) := by decide +kernel
theorem dX0_bandOf_4 : decode cX0_bandOf 4 = .ok (.iload_n 1, 1) := by decide +kernel
theorem dX0_bandOf_5 : decode cX0_bandOf 5 = .ok (.invokevirtual 33, 3) := by decide +kernel
theorem dX0_bandOf_8 : decode cX0_bandOf 8 = .ok (.ireturn, 1) := by decide +kernel
theorem dX0_rowOf_0 : decode cX0_rowOf 0 = .ok (.aload_n 0, 1) := by decide +kernel
theorem dX0_rowOf_1 : decode cX0_rowOf 1 = .ok (.getfield 23, 3) := by decide +kernel
theorem dX0_rowOf_4 : decode cX0_rowOf 4 = .ok (.iload_n 1, 1) := by decide +kernel
theorem dX0_rowOf_5 : decode cX0_rowOf 5 = .ok (.invokevirtual 33, 3) := by decide +kernel
theorem dX0_rowOf_8 : decode cX0_rowOf 8 = .ok (.ireturn, 1) := by decide +kernel
theorem dX0_lay_0 : decode cX0_lay 0 = .ok (.aload_n 0, 1) := by decide +kernel
theorem dX0_lay_1 : decode cX0_lay 1 = .ok (.iload_n 2, 1) := by decide +kernel
theorem dX0_lay_2 : decode cX0_lay 2 = .ok (.putfield 37, 3) := by decide +kernel
theorem dX0_lay_5 : decode cX0_lay 5 = .ok (.aload_n 0, 1) := by decide +kernel
theorem dX0_lay_6 : decode cX0_lay 6 = .ok (.iconst 0, 1) := by decide +kernel
theorem dX0_lay_7 : decode cX0_lay 7 = .ok (.putfield 29, 3) := by decide +kernel
theorem dX0_lay_10 : decode cX0_lay 10 = .ok (.aload_n 0, 1) := by decide +kernel
theorem dX0_lay_11 : decode cX0_lay 11 = .ok (.iconst 0, 1) := by decide +kernel
theorem dX0_lay_12 : decode cX0_lay 12 = .ok (.putfield 40, 3) := by decide +kernel
theorem dX0_lay_15 : decode cX0_lay 15 = .ok (.iconst 0, 1) := by decide +kernel
theorem dX0_lay_16 : decode cX0_lay 16 = .ok (.istore_n 3, 1) := by decide +kernel
theorem dX0_lay_17 : decode cX0_lay 17 = .ok (.iload_n 3, 1) := by decide +kernel
theorem dX0_lay_18 : decode cX0_lay 18 = .ok (.bipush 6, 2) := by decide +kernel
theorem dX0_lay_20 : decode cX0_lay 20 = .ok (.if_icmp .ge 41, 3) := by decide +kernel
theorem dX0_lay_23 : decode cX0_lay 23 = .ok (.aload_n 0, 1) := by decide +kernel
theorem dX0_lay_24 : decode cX0_lay 24 = .ok (.aload_n 1, 1) := by decide +kernel
theorem dX0_lay_25 : decode cX0_lay 25 = .ok (.iload_n 3, 1) := by decide +kernel
theorem dX0_lay_26 : decode cX0_lay 26 = .ok (.invokevirtual 43, 3) := by decide +kernel
theorem dX0_lay_29 : decode cX0_lay 29 = .ok (.aload_n 0, 1) := by decide +kernel
theorem dX0_lay_30 : decode cX0_lay 30 = .ok (.getfield 47, 3) := by decide +kernel
theorem dX0_lay_33 : decode cX0_lay 33 = .ok (.ifCond .le 22, 3) := by decide +kernel
theorem dX0_lay_36 : decode cX0_lay 36 = .ok (.aload_n 0, 1) := by decide +kernel
theorem dX0_lay_37 : decode cX0_lay 37 = .ok (.iload_n 3, 1) := by decide +kernel
theorem dX0_lay_38 : decode cX0_lay 38 = .ok (.aload_n 1, 1) := by decide +kernel
theorem dX0_lay_39 : decode cX0_lay 39 = .ok (.iconst 2, 1) := by decide +kernel
theorem dX0_lay_40 : decode cX0_lay 40 = .ok (.invokevirtual 50, 3) := by decide +kernel
theorem dX0_lay_43 : decode cX0_lay 43 = .ok (.iconst 1, 1) := by decide +kernel
theorem dX0_lay_44 : decode cX0_lay 44 = .ok (.if_icmp .ne 7, 3) := by decide +kernel
theorem dX0_lay_47 : decode cX0_lay 47 = .ok (.iconst 1, 1) := by decide +kernel
theorem dX0_lay_48 : decode cX0_lay 48 = .ok (.goto 4, 3) := by decide +kernel
theorem dX0_lay_51 : decode cX0_lay 51 = .ok (.iconst 0, 1) := by decide +kernel
theorem dX0_lay_52 : decode cX0_lay 52 = .ok (.invokevirtual 55, 3) := by decide +kernel
theorem dX0_lay_55 : decode cX0_lay 55 = .ok (.iinc 3 1, 3) := by decide +kernel
theorem dX0_lay_58 : decode cX0_lay 58 = .ok (.goto (-41), 3) := by decide +kernel
theorem dX0_lay_61 : decode cX0_lay 61 = .ok (.return_, 1) := by decide +kernel
theorem dX0_gather_0 : decode cX0_gather 0 = .ok (.aload_n 0, 1) := by decide +kernel
theorem dX0_gather_1 : decode cX0_gather 1 = .ok (.iconst 0, 1) := by decide +kernel
theorem dX0_gather_2 : decode cX0_gather 2 = .ok (.putfield 47, 3) := by decide +kernel
theorem dX0_gather_5 : decode cX0_gather 5 = .ok (.iconst 0, 1) := by decide +kernel
theorem dX0_gather_6 : decode cX0_gather 6 = .ok (.istore_n 3, 1) := by decide +kernel
theorem dX0_gather_7 : decode cX0_gather 7 = .ok (.iload_n 3, 1) := by decide +kernel
theorem dX0_gather_8 : decode cX0_gather 8 = .ok (.aload_n 1, 1) := by decide +kernel
theorem dX0_gather_9 : decode cX0_gather 9 = .ok (.invokevirtual 59, 3) := by decide +kernel
theorem dX0_gather_12 : decode cX0_gather 12 = .ok (.if_icmp .ge 24, 3) := by decide +kernel
theorem dX0_gather_15 : decode cX0_gather 15 = .ok (.aload_n 1, 1) := by decide +kernel
theorem dX0_gather_16 : decode cX0_gather 16 = .ok (.iload_n 3, 1) := by decide +kernel
theorem dX0_gather_17 : decode cX0_gather 17 = .ok (.invokevirtual 63, 3) := by decide +kernel
theorem dX0_gather_20 : decode cX0_gather 20 = .ok (.iload_n 2, 1) := by decide +kernel
theorem dX0_gather_21 : decode cX0_gather 21 = .ok (.if_icmp .ne 9, 3) := by decide +kernel
theorem dX0_gather_24 : decode cX0_gather 24 = .ok (.aload_n 0, 1) := by decide +kernel
theorem dX0_gather_25 : decode cX0_gather 25 = .ok (.aload_n 1, 1) := by decide +kernel
theorem dX0_gather_26 : decode cX0_gather 26 = .ok (.iload_n 3, 1) := by decide +kernel
theorem dX0_gather_27 : decode cX0_gather 27 = .ok (.invokevirtual 66, 3) := by decide +kernel
theorem dX0_gather_30 : decode cX0_gather 30 = .ok (.iinc 3 1, 3) := by decide +kernel
theorem dX0_gather_33 : decode cX0_gather 33 = .ok (.goto (-26), 3) := by decide +kernel
theorem dX0_gather_36 : decode cX0_gather 36 = .ok (.return_, 1) := by decide +kernel
theorem dX0_insert_0 : decode cX0_insert 0 = .ok (.aload_n 0, 1) := by decide +kernel
theorem dX0_insert_1 : decode cX0_insert 1 = .ok (.getfield 47, 3) := by decide +kernel
theorem dX0_insert_4 : decode cX0_insert 4 = .ok (.istore_n 3, 1) := by decide +kernel
theorem dX0_insert_5 : decode cX0_insert 5 = .ok (.iload_n 3, 1) := by decide +kernel
theorem dX0_insert_6 : decode cX0_insert 6 = .ok (.ifCond .le 49, 3) := by decide +kernel
theorem dX0_insert_9 : decode cX0_insert 9 = .ok (.aload_n 1, 1) := by decide +kernel
theorem dX0_insert_10 : decode cX0_insert 10 = .ok (.aload_n 0, 1) := by decide +kernel
theorem dX0_insert_11 : decode cX0_insert 11 = .ok (.getfield 26, 3) := by decide +kernel
theorem dX0_insert_14 : decode cX0_insert 14 = .ok (.iload_n 3, 1) := by decide +kernel
theorem dX0_insert_15 : decode cX0_insert 15 = .ok (.iconst 1, 1) := by decide +kernel
theorem dX0_insert_16 : decode cX0_insert 16 = .ok (.isub, 1) := by decide +kernel
theorem dX0_insert_17 : decode cX0_insert 17 = .ok (.invokevirtual 33, 3) := by decide +kernel
theorem dX0_insert_20 : decode cX0_insert 20 = .ok (.invokevirtual 69, 3) := by decide +kernel
theorem dX0_insert_23 : decode cX0_insert 23 = .ok (.aload_n 1, 1) := by decide +kernel
theorem dX0_insert_24 : decode cX0_insert 24 = .ok (.iload_n 2, 1) := by decide +kernel
theorem dX0_insert_25 : decode cX0_insert 25 = .ok (.invokevirtual 69, 3) := by decide +kernel
theorem dX0_insert_28 : decode cX0_insert 28 = .ok (.if_icmp .le 27, 3) := by decide +kernel
theorem dX0_insert_31 : decode cX0_insert 31 = .ok (.aload_n 0, 1) := by decide +kernel
theorem dX0_insert_32 : decode cX0_insert 32 = .ok (.getfield 26, 3) := by decide +kernel
theorem dX0_insert_35 : decode cX0_insert 35 = .ok (.iload_n 3, 1) := by decide +kernel
theorem dX0_insert_36 : decode cX0_insert 36 = .ok (.aload_n 0, 1) := by decide +kernel
theorem dX0_insert_37 : decode cX0_insert 37 = .ok (.getfield 26, 3) := by decide +kernel
theorem dX0_insert_40 : decode cX0_insert 40 = .ok (.iload_n 3, 1) := by decide +kernel
theorem dX0_insert_41 : decode cX0_insert 41 = .ok (.iconst 1, 1) := by decide +kernel
theorem dX0_insert_42 : decode cX0_insert 42 = .ok (.isub, 1) := by decide +kernel
theorem dX0_insert_43 : decode cX0_insert 43 = .ok (.invokevirtual 33, 3) := by decide +kernel
theorem dX0_insert_46 : decode cX0_insert 46 = .ok (.invokevirtual 72, 3) := by decide +kernel
theorem dX0_insert_49 : decode cX0_insert 49 = .ok (.iinc 3 (-1), 3) := by decide +kernel
theorem dX0_insert_52 : decode cX0_insert 52 = .ok (.goto (-47), 3) := by decide +kernel
theorem dX0_insert_55 : decode cX0_insert 55 = .ok (.aload_n 0, 1) := by decide +kernel
theorem dX0_insert_56 : decode cX0_insert 56 = .ok (.getfield 26, 3) := by decide +kernel
theorem dX0_insert_59 : decode cX0_insert 59 = .ok (.iload_n 3, 1) := by decide +kernel
theorem dX0_insert_60 : decode cX0_insert 60 = .ok (.iload_n 2, 1) := by decide +kernel
theorem dX0_insert_61 : decode cX0_insert 61 = .ok (.invokevirtual 72, 3) := by decide +kernel
theorem dX0_insert_64 : decode cX0_insert 64 = .ok (.aload_n 0, 1) := by decide +kernel
theorem dX0_insert_65 : decode cX0_insert 65 = .ok (.dup, 1) := by decide +kernel
theorem dX0_insert_66 : decode cX0_insert 66 = .ok (.getfield 47, 3) := by decide +kernel
theorem dX0_insert_69 : decode cX0_insert 69 = .ok (.iconst 1, 1) := by decide +kernel
theorem dX0_insert_70 : decode cX0_insert 70 = .ok (.iadd, 1) := by decide +kernel
theorem dX0_insert_71 : decode cX0_insert 71 = .ok (.putfield 47, 3) := by decide +kernel
theorem dX0_insert_74 : decode cX0_insert 74 = .ok (.return_, 1) := by decide +kernel
theorem dX0_layGroup_0 : decode cX0_layGroup 0 = .ok (.iconst 1, 1) := by decide +kernel
theorem dX0_layGroup_1 : decode cX0_layGroup 1 = .ok (.aload_n 0, 1) := by decide +kernel
theorem dX0_layGroup_2 : decode cX0_layGroup 2 = .ok (.getfield 47, 3) := by decide +kernel
theorem dX0_layGroup_5 : decode cX0_layGroup 5 = .ok (.iadd, 1) := by decide +kernel
theorem dX0_layGroup_6 : decode cX0_layGroup 6 = .ok (.istore_n 3, 1) := by decide +kernel
theorem dX0_layGroup_7 : decode cX0_layGroup 7 = .ok (.iload_n 2, 1) := by decide +kernel
theorem dX0_layGroup_8 : decode cX0_layGroup 8 = .ok (.ifCond .eq 23, 3) := by decide +kernel
theorem dX0_layGroup_11 : decode cX0_layGroup 11 = .ok (.iload_n 3, 1) := by decide +kernel
theorem dX0_layGroup_12 : decode cX0_layGroup 12 = .ok (.aload_n 0, 1) := by decide +kernel
theorem dX0_layGroup_13 : decode cX0_layGroup 13 = .ok (.getfield 40, 3) := by decide +kernel
theorem dX0_layGroup_16 : decode cX0_layGroup 16 = .ok (.if_icmp .le 15, 3) := by decide +kernel
theorem dX0_layGroup_19 : decode cX0_layGroup 19 = .ok (.iload_n 3, 1) := by decide +kernel
theorem dX0_layGroup_20 : decode cX0_layGroup 20 = .ok (.aload_n 0, 1) := by decide +kernel
theorem dX0_layGroup_21 : decode cX0_layGroup 21 = .ok (.getfield 37, 3) := by decide +kernel
theorem dX0_layGroup_24 : decode cX0_layGroup 24 = .ok (.if_icmp .gt 7, 3) := by decide +kernel
theorem dX0_layGroup_27 : decode cX0_layGroup 27 = .ok (.iconst 1, 1) := by decide +kernel
theorem dX0_layGroup_28 : decode cX0_layGroup 28 = .ok (.goto 4, 3) := by decide +kernel
theorem dX0_layGroup_31 : decode cX0_layGroup 31 = .ok (.iconst 0, 1) := by decide +kernel
theorem dX0_layGroup_32 : decode cX0_layGroup 32 = .ok (.istore 4, 2) := by decide +kernel
theorem dX0_layGroup_34 : decode cX0_layGroup 34 = .ok (.iload 4, 2) := by decide +kernel
theorem dX0_layGroup_36 : decode cX0_layGroup 36 = .ok (.ifCond .ne 11, 3) := by decide +kernel
theorem dX0_layGroup_39 : decode cX0_layGroup 39 = .ok (.aload_n 0, 1) := by decide +kernel
theorem dX0_layGroup_40 : decode cX0_layGroup 40 = .ok (.getfield 40, 3) := by decide +kernel
theorem dX0_layGroup_43 : decode cX0_layGroup 43 = .ok (.iconst 2, 1) := by decide +kernel
theorem dX0_layGroup_44 : decode cX0_layGroup 44 = .ok (.if_icmp .ge 7, 3) := by decide +kernel
theorem dX0_layGroup_47 : decode cX0_layGroup 47 = .ok (.aload_n 0, 1) := by decide +kernel
theorem dX0_layGroup_48 : decode cX0_layGroup 48 = .ok (.invokevirtual 76, 3) := by decide +kernel
theorem dX0_layGroup_51 : decode cX0_layGroup 51 = .ok (.aload_n 0, 1) := by decide +kernel
theorem dX0_layGroup_52 : decode cX0_layGroup 52 = .ok (.bipush 100, 2) := by decide +kernel
theorem dX0_layGroup_54 : decode cX0_layGroup 54 = .ok (.iload_n 1, 1) := by decide +kernel
theorem dX0_layGroup_55 : decode cX0_layGroup 55 = .ok (.iadd, 1) := by decide +kernel
theorem dX0_layGroup_56 : decode cX0_layGroup 56 = .ok (.invokevirtual 79, 3) := by decide +kernel
theorem dX0_layGroup_59 : decode cX0_layGroup 59 = .ok (.iconst 0, 1) := by decide +kernel
theorem dX0_layGroup_60 : decode cX0_layGroup 60 = .ok (.istore 5, 2) := by decide +kernel
theorem dX0_layGroup_62 : decode cX0_layGroup 62 = .ok (.iload 5, 2) := by decide +kernel
theorem dX0_layGroup_64 : decode cX0_layGroup 64 = .ok (.aload_n 0, 1) := by decide +kernel
theorem dX0_layGroup_65 : decode cX0_layGroup 65 = .ok (.getfield 47, 3) := by decide +kernel
theorem dX0_layGroup_68 : decode cX0_layGroup 68 = .ok (.if_icmp .ge 80, 3) := by decide +kernel
theorem dX0_layGroup_71 : decode cX0_layGroup 71 = .ok (.aload_n 0, 1) := by decide +kernel
theorem dX0_layGroup_72 : decode cX0_layGroup 72 = .ok (.getfield 40, 3) := by decide +kernel
theorem dX0_layGroup_75 : decode cX0_layGroup 75 = .ok (.iconst 1, 1) := by decide +kernel
theorem dX0_layGroup_76 : decode cX0_layGroup 76 = .ok (.if_icmp .ge 16, 3) := by decide +kernel
theorem dX0_layGroup_79 : decode cX0_layGroup 79 = .ok (.aload_n 0, 1) := by decide +kernel
theorem dX0_layGroup_80 : decode cX0_layGroup 80 = .ok (.invokevirtual 76, 3) := by decide +kernel
theorem dX0_layGroup_83 : decode cX0_layGroup 83 = .ok (.aload_n 0, 1) := by decide +kernel
theorem dX0_layGroup_84 : decode cX0_layGroup 84 = .ok (.sipush 200, 3) := by decide +kernel
theorem dX0_layGroup_87 : decode cX0_layGroup 87 = .ok (.iload_n 1, 1) := by decide +kernel
theorem dX0_layGroup_88 : decode cX0_layGroup 88 = .ok (.iadd, 1) := by decide +kernel
theorem dX0_layGroup_89 : decode cX0_layGroup 89 = .ok (.invokevirtual 79, 3) := by decide +kernel
theorem dX0_layGroup_92 : decode cX0_layGroup 92 = .ok (.aload_n 0, 1) := by decide +kernel
theorem dX0_layGroup_93 : decode cX0_layGroup 93 = .ok (.getfield 26, 3) := by decide +kernel
theorem dX0_layGroup_96 : decode cX0_layGroup 96 = .ok (.iload 5, 2) := by decide +kernel
theorem dX0_layGroup_98 : decode cX0_layGroup 98 = .ok (.invokevirtual 33, 3) := by decide +kernel
theorem dX0_layGroup_101 : decode cX0_layGroup 101 = .ok (.istore 6, 2) := by decide +kernel
theorem dX0_layGroup_103 : decode cX0_layGroup 103 = .ok (.aload_n 0, 1) := by decide +kernel
theorem dX0_layGroup_104 : decode cX0_layGroup 104 = .ok (.getfield 20, 3) := by decide +kernel
theorem dX0_layGroup_107 : decode cX0_layGroup 107 = .ok (.iload 6, 2) := by decide +kernel
theorem dX0_layGroup_109 : decode cX0_layGroup 109 = .ok (.aload_n 0, 1) := by decide +kernel
theorem dX0_layGroup_110 : decode cX0_layGroup 110 = .ok (.getfield 29, 3) := by decide +kernel
theorem dX0_layGroup_113 : decode cX0_layGroup 113 = .ok (.iconst 1, 1) := by decide +kernel
theorem dX0_layGroup_114 : decode cX0_layGroup 114 = .ok (.isub, 1) := by decide +kernel
theorem dX0_layGroup_115 : decode cX0_layGroup 115 = .ok (.invokevirtual 72, 3) := by decide +kernel
theorem dX0_layGroup_118 : decode cX0_layGroup 118 = .ok (.aload_n 0, 1) := by decide +kernel
theorem dX0_layGroup_119 : decode cX0_layGroup 119 = .ok (.getfield 23, 3) := by decide +kernel
theorem dX0_layGroup_122 : decode cX0_layGroup 122 = .ok (.iload 6, 2) := by decide +kernel
theorem dX0_layGroup_124 : decode cX0_layGroup 124 = .ok (.aload_n 0, 1) := by decide +kernel
theorem dX0_layGroup_125 : decode cX0_layGroup 125 = .ok (.getfield 37, 3) := by decide +kernel
theorem dX0_layGroup_128 : decode cX0_layGroup 128 = .ok (.aload_n 0, 1) := by decide +kernel
theorem dX0_layGroup_129 : decode cX0_layGroup 129 = .ok (.getfield 40, 3) := by decide +kernel
theorem dX0_layGroup_132 : decode cX0_layGroup 132 = .ok (.isub, 1) := by decide +kernel
theorem dX0_layGroup_133 : decode cX0_layGroup 133 = .ok (.invokevirtual 72, 3) := by decide +kernel
theorem dX0_layGroup_136 : decode cX0_layGroup 136 = .ok (.aload_n 0, 1) := by decide +kernel
theorem dX0_layGroup_137 : decode cX0_layGroup 137 = .ok (.iload 6, 2) := by decide +kernel
theorem dX0_layGroup_139 : decode cX0_layGroup 139 = .ok (.invokevirtual 79, 3) := by decide +kernel
theorem dX0_layGroup_142 : decode cX0_layGroup 142 = .ok (.iinc 5 1, 3) := by decide +kernel
theorem dX0_layGroup_145 : decode cX0_layGroup 145 = .ok (.goto (-83), 3) := by decide +kernel
theorem dX0_layGroup_148 : decode cX0_layGroup 148 = .ok (.return_, 1) := by decide +kernel
theorem dX0_beginBand_0 : decode cX0_beginBand 0 = .ok (.aload_n 0, 1) := by decide +kernel
theorem dX0_beginBand_1 : decode cX0_beginBand 1 = .ok (.getfield 14, 3) := by decide +kernel
theorem dX0_beginBand_4 : decode cX0_beginBand 4 = .ok (.aload_n 0, 1) := by decide +kernel
theorem dX0_beginBand_5 : decode cX0_beginBand 5 = .ok (.getfield 29, 3) := by decide +kernel
theorem dX0_beginBand_8 : decode cX0_beginBand 8 = .ok (.bipush 20, 2) := by decide +kernel
theorem dX0_beginBand_10 : decode cX0_beginBand 10 = .ok (.imul, 1) := by decide +kernel
theorem dX0_beginBand_11 : decode cX0_beginBand 11 = .ok (.aload_n 0, 1) := by decide +kernel
theorem dX0_beginBand_12 : decode cX0_beginBand 12 = .ok (.getfield 29, 3) := by decide +kernel
theorem dX0_beginBand_15 : decode cX0_beginBand 15 = .ok (.iconst 1, 1) := by decide +kernel
theorem dX0_beginBand_16 : decode cX0_beginBand 16 = .ok (.iadd, 1) := by decide +kernel
theorem dX0_beginBand_17 : decode cX0_beginBand 17 = .ok (.bipush 20, 2) := by decide +kernel
theorem dX0_beginBand_19 : decode cX0_beginBand 19 = .ok (.imul, 1) := by decide +kernel
theorem dX0_beginBand_20 : decode cX0_beginBand 20 = .ok (.iconst (-1), 1) := by decide +kernel
theorem dX0_beginBand_21 : decode cX0_beginBand 21 = .ok (.invokevirtual 82, 3) := by decide +kernel
theorem dX0_beginBand_24 : decode cX0_beginBand 24 = .ok (.aload_n 0, 1) := by decide +kernel
theorem dX0_beginBand_25 : decode cX0_beginBand 25 = .ok (.dup, 1) := by decide +kernel
theorem dX0_beginBand_26 : decode cX0_beginBand 26 = .ok (.getfield 29, 3) := by decide +kernel
theorem dX0_beginBand_29 : decode cX0_beginBand 29 = .ok (.iconst 1, 1) := by decide +kernel
theorem dX0_beginBand_30 : decode cX0_beginBand 30 = .ok (.iadd, 1) := by decide +kernel
theorem dX0_beginBand_31 : decode cX0_beginBand 31 = .ok (.putfield 29, 3) := by decide +kernel
theorem dX0_beginBand_34 : decode cX0_beginBand 34 = .ok (.aload_n 0, 1) := by decide +kernel
theorem dX0_beginBand_35 : decode cX0_beginBand 35 = .ok (.aload_n 0, 1) := by decide +kernel
theorem dX0_beginBand_36 : decode cX0_beginBand 36 = .ok (.getfield 37, 3) := by decide +kernel
theorem dX0_beginBand_39 : decode cX0_beginBand 39 = .ok (.putfield 40, 3) := by decide +kernel
theorem dX0_beginBand_42 : decode cX0_beginBand 42 = .ok (.return_, 1) := by decide +kernel
theorem dX0_take_0 : decode cX0_take 0 = .ok (.aload_n 0, 1) := by decide +kernel
theorem dX0_take_1 : decode cX0_take 1 = .ok (.getfield 14, 3) := by decide +kernel
theorem dX0_take_4 : decode cX0_take 4 = .ok (.aload_n 0, 1) := by decide +kernel
theorem dX0_take_5 : decode cX0_take 5 = .ok (.getfield 29, 3) := by decide +kernel
theorem dX0_take_8 : decode cX0_take 8 = .ok (.iconst 1, 1) := by decide +kernel
theorem dX0_take_9 : decode cX0_take 9 = .ok (.isub, 1) := by decide +kernel
theorem dX0_take_10 : decode cX0_take 10 = .ok (.bipush 20, 2) := by decide +kernel
theorem dX0_take_12 : decode cX0_take 12 = .ok (.imul, 1) := by decide +kernel
theorem dX0_take_13 : decode cX0_take 13 = .ok (.aload_n 0, 1) := by decide +kernel
theorem dX0_take_14 : decode cX0_take 14 = .ok (.getfield 37, 3) := by decide +kernel
theorem dX0_take_17 : decode cX0_take 17 = .ok (.iadd, 1) := by decide +kernel
theorem dX0_take_18 : decode cX0_take 18 = .ok (.aload_n 0, 1) := by decide +kernel
theorem dX0_take_19 : decode cX0_take 19 = .ok (.getfield 40, 3) := by decide +kernel
theorem dX0_take_22 : decode cX0_take 22 = .ok (.isub, 1) := by decide +kernel
theorem dX0_take_23 : decode cX0_take 23 = .ok (.iload_n 1, 1) := by decide +kernel
theorem dX0_take_24 : decode cX0_take 24 = .ok (.invokevirtual 72, 3) := by decide +kernel
theorem dX0_take_27 : decode cX0_take 27 = .ok (.aload_n 0, 1) := by decide +kernel
theorem dX0_take_28 : decode cX0_take 28 = .ok (.dup, 1) := by decide +kernel
theorem dX0_take_29 : decode cX0_take 29 = .ok (.getfield 40, 3) := by decide +kernel
theorem dX0_take_32 : decode cX0_take 32 = .ok (.iconst 1, 1) := by decide +kernel
theorem dX0_take_33 : decode cX0_take 33 = .ok (.isub, 1) := by decide +kernel
theorem dX0_take_34 : decode cX0_take 34 = .ok (.putfield 40, 3) := by decide +kernel
theorem dX0_take_37 : decode cX0_take 37 = .ok (.return_, 1) := by decide +kernel
theorem dX1_init_0 : decode cX1_init 0 = .ok (.aload_n 0, 1) := by decide +kernel
theorem dX1_init_1 : decode cX1_init 1 = .ok (.invokespecial 3, 3) := by decide +kernel
theorem dX1_init_4 : decode cX1_init 4 = .ok (.aload_n 0, 1) := by decide +kernel
theorem dX1_init_5 : decode cX1_init 5 = .ok (.new 9, 3) := by decide +kernel
theorem dX1_init_8 : decode cX1_init 8 = .ok (.dup, 1) := by decide +kernel
theorem dX1_init_9 : decode cX1_init 9 = .ok (.bipush 24, 2) := by decide +kernel
theorem dX1_init_11 : decode cX1_init 11 = .ok (.invokespecial 11, 3) := by decide +kernel
theorem dX1_init_14 : decode cX1_init 14 = .ok (.putfield 14, 3) := by decide +kernel
theorem dX1_init_17 : decode cX1_init 17 = .ok (.return_, 1) := by decide +kernel
theorem dX1_longest_0 : decode cX1_longest 0 = .ok (.aload_n 0, 1) := by decide +kernel
theorem dX1_longest_1 : decode cX1_longest 1 = .ok (.getfield 14, 3) := by decide +kernel
theorem dX1_longest_4 : decode cX1_longest 4 = .ok (.iconst 0, 1) := by decide +kernel
theorem dX1_longest_5 : decode cX1_longest 5 = .ok (.aload_n 1, 1) := by decide +kernel
theorem dX1_longest_6 : decode cX1_longest 6 = .ok (.invokevirtual 20, 3) := by decide +kernel
theorem dX1_longest_9 : decode cX1_longest 9 = .ok (.iconst 1, 1) := by decide +kernel
theorem dX1_longest_10 : decode cX1_longest 10 = .ok (.invokevirtual 26, 3) := by decide +kernel
theorem dX1_longest_13 : decode cX1_longest 13 = .ok (.iconst 1, 1) := by decide +kernel
theorem dX1_longest_14 : decode cX1_longest 14 = .ok (.istore_n 2, 1) := by decide +kernel
theorem dX1_longest_15 : decode cX1_longest 15 = .ok (.iconst 0, 1) := by decide +kernel
theorem dX1_longest_16 : decode cX1_longest 16 = .ok (.istore_n 3, 1) := by decide +kernel
theorem dX1_longest_17 : decode cX1_longest 17 = .ok (.iload_n 2, 1) := by decide +kernel
theorem dX1_longest_18 : decode cX1_longest 18 = .ok (.ifCond .eq 21, 3) := by decide +kernel
theorem dX1_longest_21 : decode cX1_longest 21 = .ok (.iload_n 3, 1) := by decide +kernel
theorem dX1_longest_22 : decode cX1_longest 22 = .ok (.bipush 24, 2) := by decide +kernel
theorem dX1_longest_24 : decode cX1_longest 24 = .ok (.if_icmp .ge 15, 3) := by decide +kernel
theorem dX1_longest_27 : decode cX1_longest 27 = .ok (.aload_n 0, 1) := by decide +kernel
theorem dX1_longest_28 : decode cX1_longest 28 = .ok (.aload_n 1, 1) := by decide +kernel
theorem dX1_longest_29 : decode cX1_longest 29 = .ok (.invokevirtual 30, 3) := by decide +kernel
theorem dX1_longest_32 : decode cX1_longest 32 = .ok (.istore_n 2, 1) := by decide +kernel
theorem dX1_longest_33 : decode cX1_longest 33 = .ok (.iinc 3 1, 3) := by decide +kernel
theorem dX1_longest_36 : decode cX1_longest 36 = .ok (.goto (-19), 3) := by decide +kernel
theorem dX1_longest_39 : decode cX1_longest 39 = .ok (.iconst 0, 1) := by decide +kernel
theorem dX1_longest_40 : decode cX1_longest 40 = .ok (.istore_n 3, 1) := by decide +kernel
theorem dX1_longest_41 : decode cX1_longest 41 = .ok (.iconst 0, 1) := by decide +kernel
theorem dX1_longest_42 : decode cX1_longest 42 = .ok (.istore 4, 2) := by decide +kernel
theorem dX1_longest_44 : decode cX1_longest 44 = .ok (.iload 4, 2) := by decide +kernel
theorem dX1_longest_46 : decode cX1_longest 46 = .ok (.aload_n 1, 1) := by decide +kernel
theorem dX1_longest_47 : decode cX1_longest 47 = .ok (.invokevirtual 20, 3) := by decide +kernel
theorem dX1_longest_50 : decode cX1_longest 50 = .ok (.if_icmp .ge 23, 3) := by decide +kernel
theorem dX1_longest_53 : decode cX1_longest 53 = .ok (.iload_n 3, 1) := by decide +kernel
theorem dX1_longest_54 : decode cX1_longest 54 = .ok (.aload_n 0, 1) := by decide +kernel
theorem dX1_longest_55 : decode cX1_longest 55 = .ok (.getfield 14, 3) := by decide +kernel
theorem dX1_longest_58 : decode cX1_longest 58 = .ok (.iload 4, 2) := by decide +kernel
theorem dX1_longest_60 : decode cX1_longest 60 = .ok (.invokevirtual 34, 3) := by decide +kernel
theorem dX1_longest_63 : decode cX1_longest 63 = .ok (.invokestatic 38, 3) := by decide +kernel
theorem dX1_longest_66 : decode cX1_longest 66 = .ok (.istore_n 3, 1) := by decide +kernel
theorem dX1_longest_67 : decode cX1_longest 67 = .ok (.iinc 4 1, 3) := by decide +kernel
theorem dX1_longest_70 : decode cX1_longest 70 = .ok (.goto (-26), 3) := by decide +kernel
theorem dX1_longest_73 : decode cX1_longest 73 = .ok (.iload_n 3, 1) := by decide +kernel
theorem dX1_longest_74 : decode cX1_longest 74 = .ok (.ireturn, 1) := by decide +kernel
theorem dX1_growOnce_0 : decode cX1_growOnce 0 = .ok (.iconst 0, 1) := by decide +kernel
theorem dX1_growOnce_1 : decode cX1_growOnce 1 = .ok (.istore_n 2, 1) := by decide +kernel
theorem dX1_growOnce_2 : decode cX1_growOnce 2 = .ok (.iconst 0, 1) := by decide +kernel
theorem dX1_growOnce_3 : decode cX1_growOnce 3 = .ok (.istore_n 3, 1) := by decide +kernel
theorem dX1_growOnce_4 : decode cX1_growOnce 4 = .ok (.iload_n 3, 1) := by decide +kernel
theorem dX1_growOnce_5 : decode cX1_growOnce 5 = .ok (.aload_n 1, 1) := by decide +kernel
theorem dX1_growOnce_6 : decode cX1_growOnce 6 = .ok (.invokevirtual 44, 3) := by decide +kernel
theorem dX1_growOnce_9 : decode cX1_growOnce 9 = .ok (.if_icmp .ge 66, 3) := by decide +kernel
theorem dX1_growOnce_12 : decode cX1_growOnce 12 = .ok (.aload_n 0, 1) := by decide +kernel
theorem dX1_growOnce_13 : decode cX1_growOnce 13 = .ok (.getfield 14, 3) := by decide +kernel
theorem dX1_growOnce_16 : decode cX1_growOnce 16 = .ok (.aload_n 1, 1) := by decide +kernel
theorem dX1_growOnce_17 : decode cX1_growOnce 17 = .ok (.iload_n 3, 1) := by decide +kernel
theorem dX1_growOnce_18 : decode cX1_growOnce 18 = .ok (.invokevirtual 47, 3) := by decide +kernel
theorem dX1_growOnce_21 : decode cX1_growOnce 21 = .ok (.invokevirtual 34, 3) := by decide +kernel
theorem dX1_growOnce_24 : decode cX1_growOnce 24 = .ok (.iconst 1, 1) := by decide +kernel
theorem dX1_growOnce_25 : decode cX1_growOnce 25 = .ok (.iadd, 1) := by decide +kernel
theorem dX1_growOnce_26 : decode cX1_growOnce 26 = .ok (.istore 4, 2) := by decide +kernel
theorem dX1_growOnce_28 : decode cX1_growOnce 28 = .ok (.aload_n 1, 1) := by decide +kernel
theorem dX1_growOnce_29 : decode cX1_growOnce 29 = .ok (.iload_n 3, 1) := by decide +kernel
theorem dX1_growOnce_30 : decode cX1_growOnce 30 = .ok (.invokevirtual 50, 3) := by decide +kernel
theorem dX1_growOnce_33 : decode cX1_growOnce 33 = .ok (.ifCond .ne 36, 3) := by decide +kernel
theorem dX1_growOnce_36 : decode cX1_growOnce 36 = .ok (.iload 4, 2) := by decide +kernel
theorem dX1_growOnce_38 : decode cX1_growOnce 38 = .ok (.aload_n 0, 1) := by decide +kernel
theorem dX1_growOnce_39 : decode cX1_growOnce 39 = .ok (.getfield 14, 3) := by decide +kernel
theorem dX1_growOnce_42 : decode cX1_growOnce 42 = .ok (.aload_n 1, 1) := by decide +kernel
theorem dX1_growOnce_43 : decode cX1_growOnce 43 = .ok (.iload_n 3, 1) := by decide +kernel
theorem dX1_growOnce_44 : decode cX1_growOnce 44 = .ok (.invokevirtual 54, 3) := by decide +kernel
theorem dX1_growOnce_47 : decode cX1_growOnce 47 = .ok (.invokevirtual 34, 3) := by decide +kernel
theorem dX1_growOnce_50 : decode cX1_growOnce 50 = .ok (.if_icmp .le 19, 3) := by decide +kernel
theorem dX1_growOnce_53 : decode cX1_growOnce 53 = .ok (.aload_n 0, 1) := by decide +kernel
theorem dX1_growOnce_54 : decode cX1_growOnce 54 = .ok (.getfield 14, 3) := by decide +kernel
theorem dX1_growOnce_57 : decode cX1_growOnce 57 = .ok (.aload_n 1, 1) := by decide +kernel
theorem dX1_growOnce_58 : decode cX1_growOnce 58 = .ok (.iload_n 3, 1) := by decide +kernel
theorem dX1_growOnce_59 : decode cX1_growOnce 59 = .ok (.invokevirtual 54, 3) := by decide +kernel
theorem dX1_growOnce_62 : decode cX1_growOnce 62 = .ok (.iload 4, 2) := by decide +kernel
theorem dX1_growOnce_64 : decode cX1_growOnce 64 = .ok (.invokevirtual 57, 3) := by decide +kernel
theorem dX1_growOnce_67 : decode cX1_growOnce 67 = .ok (.iconst 1, 1) := by decide +kernel
theorem dX1_growOnce_68 : decode cX1_growOnce 68 = .ok (.istore_n 2, 1) := by decide +kernel
theorem dX1_growOnce_69 : decode cX1_growOnce 69 = .ok (.iinc 3 1, 3) := by decide +kernel
theorem dX1_growOnce_72 : decode cX1_growOnce 72 = .ok (.goto (-68), 3) := by decide +kernel
theorem dX1_growOnce_75 : decode cX1_growOnce 75 = .ok (.iload_n 2, 1) := by decide +kernel
theorem dX1_growOnce_76 : decode cX1_growOnce 76 = .ok (.ireturn, 1) := by decide +kernel
theorem dX2_init_0 : decode cX2_init 0 = .ok (.aload_n 0, 1) := by decide +kernel
theorem dX2_init_1 : decode cX2_init 1 = .ok (.invokespecial 3, 3) := by decide +kernel
theorem dX2_init_4 : decode cX2_init 4 = .ok (.aload_n 0, 1) := by decide +kernel
theorem dX2_init_5 : decode cX2_init 5 = .ok (.new 9, 3) := by decide +kernel
theorem dX2_init_8 : decode cX2_init 8 = .ok (.dup, 1) := by decide +kernel
theorem dX2_init_9 : decode cX2_init 9 = .ok (.bipush 30, 2) := by decide +kernel
theorem dX2_init_11 : decode cX2_init 11 = .ok (.invokespecial 11, 3) := by decide +kernel
theorem dX2_init_14 : decode cX2_init 14 = .ok (.putfield 14, 3) := by decide +kernel
theorem dX2_init_17 : decode cX2_init 17 = .ok (.aload_n 0, 1) := by decide +kernel
theorem dX2_init_18 : decode cX2_init 18 = .ok (.new 9, 3) := by decide +kernel
theorem dX2_init_21 : decode cX2_init 21 = .ok (.dup, 1) := by decide +kernel
theorem dX2_init_22 : decode cX2_init 22 = .ok (.bipush 30, 2) := by decide +kernel
theorem dX2_init_24 : decode cX2_init 24 = .ok (.invokespecial 11, 3) := by decide +kernel
theorem dX2_init_27 : decode cX2_init 27 = .ok (.putfield 20, 3) := by decide +kernel
theorem dX2_init_30 : decode cX2_init 30 = .ok (.aload_n 0, 1) := by decide +kernel
theorem dX2_init_31 : decode cX2_init 31 = .ok (.new 9, 3) := by decide +kernel
theorem dX2_init_34 : decode cX2_init 34 = .ok (.dup, 1) := by decide +kernel
theorem dX2_init_35 : decode cX2_init 35 = .ok (.bipush 30, 2) := by decide +kernel
theorem dX2_init_37 : decode cX2_init 37 = .ok (.invokespecial 11, 3) := by decide +kernel
theorem dX2_init_40 : decode cX2_init 40 = .ok (.putfield 23, 3) := by decide +kernel
theorem dX2_init_43 : decode cX2_init 43 = .ok (.aload_n 0, 1) := by decide +kernel
theorem dX2_init_44 : decode cX2_init 44 = .ok (.new 9, 3) := by decide +kernel
theorem dX2_init_47 : decode cX2_init 47 = .ok (.dup, 1) := by decide +kernel
theorem dX2_init_48 : decode cX2_init 48 = .ok (.bipush 31, 2) := by decide +kernel
theorem dX2_init_50 : decode cX2_init 50 = .ok (.invokespecial 11, 3) := by decide +kernel
theorem dX2_init_53 : decode cX2_init 53 = .ok (.putfield 26, 3) := by decide +kernel
theorem dX2_init_56 : decode cX2_init 56 = .ok (.aload_n 0, 1) := by decide +kernel
theorem dX2_init_57 : decode cX2_init 57 = .ok (.new 9, 3) := by decide +kernel
theorem dX2_init_60 : decode cX2_init 60 = .ok (.dup, 1) := by decide +kernel
theorem dX2_init_61 : decode cX2_init 61 = .ok (.sipush 312, 3) := by decide +kernel
theorem dX2_init_64 : decode cX2_init 64 = .ok (.invokespecial 11, 3) := by decide +kernel
theorem dX2_init_67 : decode cX2_init 67 = .ok (.putfield 29, 3) := by decide +kernel
theorem dX2_init_70 : decode cX2_init 70 = .ok (.aload_n 0, 1) := by decide +kernel
theorem dX2_init_71 : decode cX2_init 71 = .ok (.new 9, 3) := by decide +kernel
theorem dX2_init_74 : decode cX2_init 74 = .ok (.dup, 1) := by decide +kernel
theorem dX2_init_75 : decode cX2_init 75 = .ok (.sipush 312, 3) := by decide +kernel
theorem dX2_init_78 : decode cX2_init 78 = .ok (.invokespecial 11, 3) := by decide +kernel
theorem dX2_init_81 : decode cX2_init 81 = .ok (.putfield 32, 3) := by decide +kernel
theorem dX2_init_84 : decode cX2_init 84 = .ok (.return_, 1) := by decide +kernel
theorem dX2_count_0 : decode cX2_count 0 = .ok (.aload_n 0, 1) := by decide +kernel
theorem dX2_count_1 : decode cX2_count 1 = .ok (.getfield 35, 3) := by decide +kernel
theorem dX2_count_4 : decode cX2_count 4 = .ok (.ireturn, 1) := by decide +kernel
theorem dX2_leavesOn_0 : decode cX2_leavesOn 0 = .ok (.aload_n 0, 1) := by decide +kernel
theorem dX2_leavesOn_1 : decode cX2_leavesOn 1 = .ok (.getfield 14, 3) := by decide +kernel
theorem dX2_leavesOn_4 : decode cX2_leavesOn 4 = .ok (.iload_n 1, 1) := by decide +kernel
theorem dX2_leavesOn_5 : decode cX2_leavesOn 5 = .ok (.invokevirtual 39, 3) := by decide +kernel
theorem dX2_leavesOn_8 : decode cX2_leavesOn 8 = .ok (.ireturn, 1) := by decide +kernel
theorem dX2_arrivesOn_0 : decode cX2_arrivesOn 0 = .ok (.aload_n 0, 1) := by decide +kernel
theorem dX2_arrivesOn_1 : decode cX2_arrivesOn 1 = .ok (.getfield 20, 3) := by decide +kernel
theorem dX2_arrivesOn_4 : decode cX2_arrivesOn 4 = .ok (.iload_n 1, 1) := by decide +kernel
theorem dX2_arrivesOn_5 : decode cX2_arrivesOn 5 = .ok (.invokevirtual 39, 3) := by decide +kernel
theorem dX2_arrivesOn_8 : decode cX2_arrivesOn 8 = .ok (.ireturn, 1) := by decide +kernel
theorem dX2_exitOf_0 : decode cX2_exitOf 0 = .ok (.aload_n 0, 1) := by decide +kernel
theorem dX2_exitOf_1 : decode cX2_exitOf 1 = .ok (.getfield 23, 3) := by decide +kernel
theorem dX2_exitOf_4 : decode cX2_exitOf 4 = .ok (.iload_n 1, 1) := by decide +kernel
theorem dX2_exitOf_5 : decode cX2_exitOf 5 = .ok (.invokevirtual 39, 3) := by decide +kernel
theorem dX2_exitOf_8 : decode cX2_exitOf 8 = .ok (.ireturn, 1) := by decide +kernel
theorem dX2_arrowBehind_0 : decode cX2_arrowBehind 0 = .ok (.aload_n 0, 1) := by decide +kernel
theorem dX2_arrowBehind_1 : decode cX2_arrowBehind 1 = .ok (.getfield 26, 3) := by decide +kernel
theorem dX2_arrowBehind_4 : decode cX2_arrowBehind 4 = .ok (.iload_n 1, 1) := by decide +kernel
theorem dX2_arrowBehind_5 : decode cX2_arrowBehind 5 = .ok (.invokevirtual 39, 3) := by decide +kernel
theorem dX2_arrowBehind_8 : decode cX2_arrowBehind 8 = .ok (.ireturn, 1) := by decide +kernel
theorem dX2_standingOn_0 : decode cX2_standingOn 0 = .ok (.aload_n 0, 1) := by decide +kernel
theorem dX2_standingOn_1 : decode cX2_standingOn 1 = .ok (.getfield 29, 3) := by decide +kernel
theorem dX2_standingOn_4 : decode cX2_standingOn 4 = .ok (.iload_n 1, 1) := by decide +kernel
theorem dX2_standingOn_5 : decode cX2_standingOn 5 = .ok (.invokevirtual 39, 3) := by decide +kernel
theorem dX2_standingOn_8 : decode cX2_standingOn 8 = .ok (.ireturn, 1) := by decide +kernel
theorem dX2_drawnOn_0 : decode cX2_drawnOn 0 = .ok (.aload_n 0, 1) := by decide +kernel
theorem dX2_drawnOn_1 : decode cX2_drawnOn 1 = .ok (.getfield 32, 3) := by decide +kernel
theorem dX2_drawnOn_4 : decode cX2_drawnOn 4 = .ok (.iload_n 1, 1) := by decide +kernel
theorem dX2_drawnOn_5 : decode cX2_drawnOn 5 = .ok (.invokevirtual 39, 3) := by decide +kernel
theorem dX2_drawnOn_8 : decode cX2_drawnOn 8 = .ok (.ireturn, 1) := by decide +kernel
theorem dX2_draw_0 : decode cX2_draw 0 = .ok (.aload_n 1, 1) := by decide +kernel
theorem dX2_draw_1 : decode cX2_draw 1 = .ok (.iconst 1, 1) := by decide +kernel
theorem dX2_draw_2 : decode cX2_draw 2 = .ok (.invokevirtual 43, 3) := by decide +kernel
theorem dX2_draw_5 : decode cX2_draw 5 = .ok (.istore 4, 2) := by decide +kernel
theorem dX2_draw_7 : decode cX2_draw 7 = .ok (.aload_n 0, 1) := by decide +kernel
theorem dX2_draw_8 : decode cX2_draw 8 = .ok (.getfield 29, 3) := by decide +kernel
theorem dX2_draw_11 : decode cX2_draw 11 = .ok (.iconst 0, 1) := by decide +kernel
theorem dX2_draw_12 : decode cX2_draw 12 = .ok (.aload_n 3, 1) := by decide +kernel
theorem dX2_draw_13 : decode cX2_draw 13 = .ok (.invokevirtual 48, 3) := by decide +kernel
theorem dX2_draw_16 : decode cX2_draw 16 = .ok (.iconst 0, 1) := by decide +kernel
theorem dX2_draw_17 : decode cX2_draw 17 = .ok (.invokevirtual 53, 3) := by decide +kernel
theorem dX2_draw_20 : decode cX2_draw 20 = .ok (.aload_n 0, 1) := by decide +kernel
theorem dX2_draw_21 : decode cX2_draw 21 = .ok (.getfield 32, 3) := by decide +kernel
theorem dX2_draw_24 : decode cX2_draw 24 = .ok (.iconst 0, 1) := by decide +kernel
theorem dX2_draw_25 : decode cX2_draw 25 = .ok (.aload_n 3, 1) := by decide +kernel
theorem dX2_draw_26 : decode cX2_draw 26 = .ok (.invokevirtual 48, 3) := by decide +kernel
theorem dX2_draw_29 : decode cX2_draw 29 = .ok (.iconst 0, 1) := by decide +kernel
theorem dX2_draw_30 : decode cX2_draw 30 = .ok (.invokevirtual 53, 3) := by decide +kernel
theorem dX2_draw_33 : decode cX2_draw 33 = .ok (.aload_n 0, 1) := by decide +kernel
theorem dX2_draw_34 : decode cX2_draw 34 = .ok (.iconst 0, 1) := by decide +kernel
theorem dX2_draw_35 : decode cX2_draw 35 = .ok (.putfield 35, 3) := by decide +kernel
theorem dX2_draw_38 : decode cX2_draw 38 = .ok (.iconst 0, 1) := by decide +kernel
theorem dX2_draw_39 : decode cX2_draw 39 = .ok (.istore 5, 2) := by decide +kernel
theorem dX2_draw_41 : decode cX2_draw 41 = .ok (.iload 5, 2) := by decide +kernel
theorem dX2_draw_43 : decode cX2_draw 43 = .ok (.aload_n 1, 1) := by decide +kernel
theorem dX2_draw_44 : decode cX2_draw 44 = .ok (.invokevirtual 57, 3) := by decide +kernel
theorem dX2_draw_47 : decode cX2_draw 47 = .ok (.if_icmp .ge 121, 3) := by decide +kernel
theorem dX2_draw_50 : decode cX2_draw 50 = .ok (.aload_n 1, 1) := by decide +kernel
theorem dX2_draw_51 : decode cX2_draw 51 = .ok (.iload 5, 2) := by decide +kernel
theorem dX2_draw_53 : decode cX2_draw 53 = .ok (.invokevirtual 60, 3) := by decide +kernel
theorem dX2_draw_56 : decode cX2_draw 56 = .ok (.istore 6, 2) := by decide +kernel
theorem dX2_draw_58 : decode cX2_draw 58 = .ok (.aload_n 1, 1) := by decide +kernel
theorem dX2_draw_59 : decode cX2_draw 59 = .ok (.iload 5, 2) := by decide +kernel
theorem dX2_draw_61 : decode cX2_draw 61 = .ok (.invokevirtual 63, 3) := by decide +kernel
theorem dX2_draw_64 : decode cX2_draw 64 = .ok (.istore 7, 2) := by decide +kernel
theorem dX2_draw_66 : decode cX2_draw 66 = .ok (.aload_n 3, 1) := by decide +kernel
theorem dX2_draw_67 : decode cX2_draw 67 = .ok (.aload_n 2, 1) := by decide +kernel
theorem dX2_draw_68 : decode cX2_draw 68 = .ok (.iload 6, 2) := by decide +kernel
theorem dX2_draw_70 : decode cX2_draw 70 = .ok (.invokevirtual 66, 3) := by decide +kernel
theorem dX2_draw_73 : decode cX2_draw 73 = .ok (.aload_n 1, 1) := by decide +kernel
theorem dX2_draw_74 : decode cX2_draw 74 = .ok (.iload 6, 2) := by decide +kernel
theorem dX2_draw_76 : decode cX2_draw 76 = .ok (.invokevirtual 71, 3) := by decide +kernel
theorem dX2_draw_79 : decode cX2_draw 79 = .ok (.iload 4, 2) := by decide +kernel
theorem dX2_draw_81 : decode cX2_draw 81 = .ok (.invokestatic 74, 3) := by decide +kernel
theorem dX2_draw_84 : decode cX2_draw 84 = .ok (.invokevirtual 78, 3) := by decide +kernel
theorem dX2_draw_87 : decode cX2_draw 87 = .ok (.istore 8, 2) := by decide +kernel
theorem dX2_draw_89 : decode cX2_draw 89 = .ok (.aload_n 3, 1) := by decide +kernel
theorem dX2_draw_90 : decode cX2_draw 90 = .ok (.aload_n 2, 1) := by decide +kernel
theorem dX2_draw_91 : decode cX2_draw 91 = .ok (.iload 7, 2) := by decide +kernel
theorem dX2_draw_93 : decode cX2_draw 93 = .ok (.invokevirtual 66, 3) := by decide +kernel
theorem dX2_draw_96 : decode cX2_draw 96 = .ok (.aload_n 1, 1) := by decide +kernel
theorem dX2_draw_97 : decode cX2_draw 97 = .ok (.iload 7, 2) := by decide +kernel
theorem dX2_draw_99 : decode cX2_draw 99 = .ok (.invokevirtual 81, 3) := by decide +kernel
theorem dX2_draw_102 : decode cX2_draw 102 = .ok (.iload 4, 2) := by decide +kernel
theorem dX2_draw_104 : decode cX2_draw 104 = .ok (.invokestatic 74, 3) := by decide +kernel
theorem dX2_draw_107 : decode cX2_draw 107 = .ok (.invokevirtual 78, 3) := by decide +kernel
theorem dX2_draw_110 : decode cX2_draw 110 = .ok (.istore 9, 2) := by decide +kernel
theorem dX2_draw_112 : decode cX2_draw 112 = .ok (.aload_n 0, 1) := by decide +kernel
theorem dX2_draw_113 : decode cX2_draw 113 = .ok (.getfield 14, 3) := by decide +kernel
theorem dX2_draw_116 : decode cX2_draw 116 = .ok (.iload 5, 2) := by decide +kernel
theorem dX2_draw_118 : decode cX2_draw 118 = .ok (.iload 8, 2) := by decide +kernel
theorem dX2_draw_120 : decode cX2_draw 120 = .ok (.invokevirtual 84, 3) := by decide +kernel
theorem dX2_draw_123 : decode cX2_draw 123 = .ok (.aload_n 0, 1) := by decide +kernel
theorem dX2_draw_124 : decode cX2_draw 124 = .ok (.getfield 20, 3) := by decide +kernel
theorem dX2_draw_127 : decode cX2_draw 127 = .ok (.iload 5, 2) := by decide +kernel
theorem dX2_draw_129 : decode cX2_draw 129 = .ok (.iload 9, 2) := by decide +kernel
theorem dX2_draw_131 : decode cX2_draw 131 = .ok (.invokevirtual 84, 3) := by decide +kernel
theorem dX2_draw_134 : decode cX2_draw 134 = .ok (.iload 8, 2) := by decide +kernel
theorem dX2_draw_136 : decode cX2_draw 136 = .ok (.iload 9, 2) := by decide +kernel
theorem dX2_draw_138 : decode cX2_draw 138 = .ok (.if_icmp .ne 14, 3) := by decide +kernel
theorem dX2_draw_141 : decode cX2_draw 141 = .ok (.aload_n 0, 1) := by decide +kernel
theorem dX2_draw_142 : decode cX2_draw 142 = .ok (.iload 5, 2) := by decide +kernel
theorem dX2_draw_144 : decode cX2_draw 144 = .ok (.iload 8, 2) := by decide +kernel
theorem dX2_draw_146 : decode cX2_draw 146 = .ok (.invokevirtual 88, 3) := by decide +kernel
theorem dX2_draw_149 : decode cX2_draw 149 = .ok (.goto 13, 3) := by decide +kernel
theorem dX2_draw_152 : decode cX2_draw 152 = .ok (.aload_n 0, 1) := by decide +kernel
theorem dX2_draw_153 : decode cX2_draw 153 = .ok (.iload 5, 2) := by decide +kernel
theorem dX2_draw_155 : decode cX2_draw 155 = .ok (.iload 8, 2) := by decide +kernel
theorem dX2_draw_157 : decode cX2_draw 157 = .ok (.iload 9, 2) := by decide +kernel
theorem dX2_draw_159 : decode cX2_draw 159 = .ok (.invokevirtual 91, 3) := by decide +kernel
theorem dX2_draw_162 : decode cX2_draw 162 = .ok (.iinc 5 1, 3) := by decide +kernel
theorem dX2_draw_165 : decode cX2_draw 165 = .ok (.goto (-124), 3) := by decide +kernel
theorem dX2_draw_168 : decode cX2_draw 168 = .ok (.return_, 1) := by decide +kernel
theorem dX2_drawInside_0 : decode cX2_drawInside 0 = .ok (.aload_n 0, 1) := by decide +kernel
theorem dX2_drawInside_1 : decode cX2_drawInside 1 = .ok (.getfield 23, 3) := by decide +kernel
theorem dX2_drawInside_4 : decode cX2_drawInside 4 = .ok (.iload_n 1, 1) := by decide +kernel
theorem dX2_drawInside_5 : decode cX2_drawInside 5 = .ok (.iconst (-1), 1) := by decide +kernel
theorem dX2_drawInside_6 : decode cX2_drawInside 6 = .ok (.invokevirtual 84, 3) := by decide +kernel
theorem dX2_drawInside_9 : decode cX2_drawInside 9 = .ok (.aload_n 0, 1) := by decide +kernel
theorem dX2_drawInside_10 : decode cX2_drawInside 10 = .ok (.getfield 32, 3) := by decide +kernel
theorem dX2_drawInside_13 : decode cX2_drawInside 13 = .ok (.iload_n 2, 1) := by decide +kernel
theorem dX2_drawInside_14 : decode cX2_drawInside 14 = .ok (.invokevirtual 94, 3) := by decide +kernel
theorem dX2_drawInside_17 : decode cX2_drawInside 17 = .ok (.return_, 1) := by decide +kernel
theorem dX2_drawThroughExit_0 : decode cX2_drawThroughExit 0 = .ok (.aload_n 0, 1) := by decide +kernel
theorem dX2_drawThroughExit_1 : decode cX2_drawThroughExit 1 = .ok (.dup, 1) := by decide +kernel
theorem dX2_drawThroughExit_2 : decode cX2_drawThroughExit 2 = .ok (.getfield 35, 3) := by decide +kernel
theorem dX2_drawThroughExit_5 : decode cX2_drawThroughExit 5 = .ok (.iconst 1, 1) := by decide +kernel
theorem dX2_drawThroughExit_6 : decode cX2_drawThroughExit 6 = .ok (.iadd, 1) := by decide +kernel
theorem dX2_drawThroughExit_7 : decode cX2_drawThroughExit 7 = .ok (.putfield 35, 3) := by decide +kernel
theorem dX2_drawThroughExit_10 : decode cX2_drawThroughExit 10 = .ok (.aload_n 0, 1) := by decide +kernel
theorem dX2_drawThroughExit_11 : decode cX2_drawThroughExit 11 = .ok (.getfield 23, 3) := by decide +kernel
theorem dX2_drawThroughExit_14 : decode cX2_drawThroughExit 14 = .ok (.iload_n 1, 1) := by decide +kernel
theorem dX2_drawThroughExit_15 : decode cX2_drawThroughExit 15 = .ok (.aload_n 0, 1) := by decide +kernel
theorem dX2_drawThroughExit_16 : decode cX2_drawThroughExit 16 = .ok (.getfield 35, 3) := by decide +kernel
theorem dX2_drawThroughExit_19 : decode cX2_drawThroughExit 19 = .ok (.invokevirtual 84, 3) := by decide +kernel
theorem dX2_drawThroughExit_22 : decode cX2_drawThroughExit 22 = .ok (.aload_n 0, 1) := by decide +kernel
theorem dX2_drawThroughExit_23 : decode cX2_drawThroughExit 23 = .ok (.getfield 26, 3) := by decide +kernel
theorem dX2_drawThroughExit_26 : decode cX2_drawThroughExit 26 = .ok (.aload_n 0, 1) := by decide +kernel
theorem dX2_drawThroughExit_27 : decode cX2_drawThroughExit 27 = .ok (.getfield 35, 3) := by decide +kernel
theorem dX2_drawThroughExit_30 : decode cX2_drawThroughExit 30 = .ok (.iload_n 1, 1) := by decide +kernel
theorem dX2_drawThroughExit_31 : decode cX2_drawThroughExit 31 = .ok (.invokevirtual 84, 3) := by decide +kernel
theorem dX2_drawThroughExit_34 : decode cX2_drawThroughExit 34 = .ok (.aload_n 0, 1) := by decide +kernel
theorem dX2_drawThroughExit_35 : decode cX2_drawThroughExit 35 = .ok (.getfield 29, 3) := by decide +kernel
theorem dX2_drawThroughExit_38 : decode cX2_drawThroughExit 38 = .ok (.iload_n 2, 1) := by decide +kernel
theorem dX2_drawThroughExit_39 : decode cX2_drawThroughExit 39 = .ok (.invokevirtual 94, 3) := by decide +kernel
theorem dX2_drawThroughExit_42 : decode cX2_drawThroughExit 42 = .ok (.aload_n 0, 1) := by decide +kernel
theorem dX2_drawThroughExit_43 : decode cX2_drawThroughExit 43 = .ok (.getfield 29, 3) := by decide +kernel
theorem dX2_drawThroughExit_46 : decode cX2_drawThroughExit 46 = .ok (.iload_n 3, 1) := by decide +kernel
theorem dX2_drawThroughExit_47 : decode cX2_drawThroughExit 47 = .ok (.invokevirtual 94, 3) := by decide +kernel
theorem dX2_drawThroughExit_50 : decode cX2_drawThroughExit 50 = .ok (.return_, 1) := by decide +kernel
theorem dX3_init_0 : decode cX3_init 0 = .ok (.aload_n 0, 1) := by decide +kernel
theorem dX3_init_1 : decode cX3_init 1 = .ok (.invokespecial 3, 3) := by decide +kernel
theorem dX3_init_4 : decode cX3_init 4 = .ok (.aload_n 0, 1) := by decide +kernel
theorem dX3_init_5 : decode cX3_init 5 = .ok (.iconst 4, 1) := by decide +kernel
theorem dX3_init_6 : decode cX3_init 6 = .ok (.anewarray 9, 3) := by decide +kernel
theorem dX3_init_9 : decode cX3_init 9 = .ok (.putfield 11, 3) := by decide +kernel
theorem dX3_init_12 : decode cX3_init 12 = .ok (.iconst 0, 1) := by decide +kernel
theorem dX3_init_13 : decode cX3_init 13 = .ok (.istore_n 1, 1) := by decide +kernel
theorem dX3_init_14 : decode cX3_init 14 = .ok (.iload_n 1, 1) := by decide +kernel
theorem dX3_init_15 : decode cX3_init 15 = .ok (.aload_n 0, 1) := by decide +kernel
theorem dX3_init_16 : decode cX3_init 16 = .ok (.getfield 11, 3) := by decide +kernel
theorem dX3_init_19 : decode cX3_init 19 = .ok (.arraylength, 1) := by decide +kernel
theorem dX3_init_20 : decode cX3_init 20 = .ok (.if_icmp .ge 22, 3) := by decide +kernel
theorem dX3_init_23 : decode cX3_init 23 = .ok (.aload_n 0, 1) := by decide +kernel
theorem dX3_init_24 : decode cX3_init 24 = .ok (.getfield 11, 3) := by decide +kernel
theorem dX3_init_27 : decode cX3_init 27 = .ok (.iload_n 1, 1) := by decide +kernel
theorem dX3_init_28 : decode cX3_init 28 = .ok (.new 9, 3) := by decide +kernel
theorem dX3_init_31 : decode cX3_init 31 = .ok (.dup, 1) := by decide +kernel
theorem dX3_init_32 : decode cX3_init 32 = .ok (.invokespecial 17, 3) := by decide +kernel
theorem dX3_init_35 : decode cX3_init 35 = .ok (.aastore, 1) := by decide +kernel
theorem dX3_init_36 : decode cX3_init 36 = .ok (.iinc 1 1, 3) := by decide +kernel
theorem dX3_init_39 : decode cX3_init 39 = .ok (.goto (-25), 3) := by decide +kernel
theorem dX3_init_42 : decode cX3_init 42 = .ok (.return_, 1) := by decide +kernel
theorem dX3_count_0 : decode cX3_count 0 = .ok (.aload_n 0, 1) := by decide +kernel
theorem dX3_count_1 : decode cX3_count 1 = .ok (.getfield 18, 3) := by decide +kernel
theorem dX3_count_4 : decode cX3_count 4 = .ok (.ireturn, 1) := by decide +kernel
theorem dX3_save_0 : decode cX3_save 0 = .ok (.aload_n 0, 1) := by decide +kernel
theorem dX3_save_1 : decode cX3_save 1 = .ok (.aload_n 0, 1) := by decide +kernel
theorem dX3_save_2 : decode cX3_save 2 = .ok (.getfield 22, 3) := by decide +kernel
theorem dX3_save_5 : decode cX3_save 5 = .ok (.invokevirtual 25, 3) := by decide +kernel
theorem dX3_save_8 : decode cX3_save 8 = .ok (.astore_n 2, 1) := by decide +kernel
theorem dX3_save_9 : decode cX3_save 9 = .ok (.aload_n 2, 1) := by decide +kernel
theorem dX3_save_10 : decode cX3_save 10 = .ok (.ifnull 54, 3) := by decide +kernel
theorem dX3_save_13 : decode cX3_save 13 = .ok (.aload_n 2, 1) := by decide +kernel
theorem dX3_save_14 : decode cX3_save 14 = .ok (.aload_n 1, 1) := by decide +kernel
theorem dX3_save_15 : decode cX3_save 15 = .ok (.invokevirtual 29, 3) := by decide +kernel
theorem dX3_save_18 : decode cX3_save 18 = .ok (.aload_n 0, 1) := by decide +kernel
theorem dX3_save_19 : decode cX3_save 19 = .ok (.aload_n 0, 1) := by decide +kernel
theorem dX3_save_20 : decode cX3_save 20 = .ok (.getfield 22, 3) := by decide +kernel
theorem dX3_save_23 : decode cX3_save 23 = .ok (.iconst 1, 1) := by decide +kernel
theorem dX3_save_24 : decode cX3_save 24 = .ok (.iadd, 1) := by decide +kernel
theorem dX3_save_25 : decode cX3_save 25 = .ok (.iconst 4, 1) := by decide +kernel
theorem dX3_save_26 : decode cX3_save 26 = .ok (.if_icmp .ge 12, 3) := by decide +kernel
theorem dX3_save_29 : decode cX3_save 29 = .ok (.aload_n 0, 1) := by decide +kernel
theorem dX3_save_30 : decode cX3_save 30 = .ok (.getfield 22, 3) := by decide +kernel
theorem dX3_save_33 : decode cX3_save 33 = .ok (.iconst 1, 1) := by decide +kernel
theorem dX3_save_34 : decode cX3_save 34 = .ok (.iadd, 1) := by decide +kernel
theorem dX3_save_35 : decode cX3_save 35 = .ok (.goto 4, 3) := by decide +kernel
theorem dX3_save_38 : decode cX3_save 38 = .ok (.iconst 0, 1) := by decide +kernel
theorem dX3_save_39 : decode cX3_save 39 = .ok (.putfield 22, 3) := by decide +kernel
theorem dX3_save_42 : decode cX3_save 42 = .ok (.aload_n 0, 1) := by decide +kernel
theorem dX3_save_43 : decode cX3_save 43 = .ok (.aload_n 0, 1) := by decide +kernel
theorem dX3_save_44 : decode cX3_save 44 = .ok (.getfield 18, 3) := by decide +kernel
theorem dX3_save_47 : decode cX3_save 47 = .ok (.iconst 4, 1) := by decide +kernel
theorem dX3_save_48 : decode cX3_save 48 = .ok (.if_icmp .ge 12, 3) := by decide +kernel
theorem dX3_save_51 : decode cX3_save 51 = .ok (.aload_n 0, 1) := by decide +kernel
theorem dX3_save_52 : decode cX3_save 52 = .ok (.getfield 18, 3) := by decide +kernel
theorem dX3_save_55 : decode cX3_save 55 = .ok (.iconst 1, 1) := by decide +kernel
theorem dX3_save_56 : decode cX3_save 56 = .ok (.iadd, 1) := by decide +kernel
theorem dX3_save_57 : decode cX3_save 57 = .ok (.goto 4, 3) := by decide +kernel
theorem dX3_save_60 : decode cX3_save 60 = .ok (.iconst 4, 1) := by decide +kernel
theorem dX3_save_61 : decode cX3_save 61 = .ok (.putfield 18, 3) := by decide +kernel
theorem dX3_save_64 : decode cX3_save 64 = .ok (.return_, 1) := by decide +kernel
theorem dX3_restore_0 : decode cX3_restore 0 = .ok (.aload_n 0, 1) := by decide +kernel
theorem dX3_restore_1 : decode cX3_restore 1 = .ok (.getfield 22, 3) := by decide +kernel
theorem dX3_restore_4 : decode cX3_restore 4 = .ok (.ifCond .le 12, 3) := by decide +kernel
theorem dX3_restore_7 : decode cX3_restore 7 = .ok (.aload_n 0, 1) := by decide +kernel
theorem dX3_restore_8 : decode cX3_restore 8 = .ok (.getfield 22, 3) := by decide +kernel
theorem dX3_restore_11 : decode cX3_restore 11 = .ok (.iconst 1, 1) := by decide +kernel
theorem dX3_restore_12 : decode cX3_restore 12 = .ok (.isub, 1) := by decide +kernel
theorem dX3_restore_13 : decode cX3_restore 13 = .ok (.goto 4, 3) := by decide +kernel
theorem dX3_restore_16 : decode cX3_restore 16 = .ok (.iconst 3, 1) := by decide +kernel
theorem dX3_restore_17 : decode cX3_restore 17 = .ok (.istore_n 2, 1) := by decide +kernel
theorem dX3_restore_18 : decode cX3_restore 18 = .ok (.aload_n 0, 1) := by decide +kernel
theorem dX3_restore_19 : decode cX3_restore 19 = .ok (.iload_n 2, 1) := by decide +kernel
theorem dX3_restore_20 : decode cX3_restore 20 = .ok (.invokevirtual 25, 3) := by decide +kernel
theorem dX3_restore_23 : decode cX3_restore 23 = .ok (.astore_n 3, 1) := by decide +kernel
theorem dX3_restore_24 : decode cX3_restore 24 = .ok (.aload_n 0, 1) := by decide +kernel
theorem dX3_restore_25 : decode cX3_restore 25 = .ok (.getfield 18, 3) := by decide +kernel
theorem dX3_restore_28 : decode cX3_restore 28 = .ok (.ifCond .le 27, 3) := by decide +kernel
theorem dX3_restore_31 : decode cX3_restore 31 = .ok (.aload_n 3, 1) := by decide +kernel
theorem dX3_restore_32 : decode cX3_restore 32 = .ok (.ifnull 23, 3) := by decide +kernel
theorem dX3_restore_35 : decode cX3_restore 35 = .ok (.aload_n 1, 1) := by decide +kernel
theorem dX3_restore_36 : decode cX3_restore 36 = .ok (.aload_n 3, 1) := by decide +kernel
theorem dX3_restore_37 : decode cX3_restore 37 = .ok (.invokevirtual 29, 3) := by decide +kernel
theorem dX3_restore_40 : decode cX3_restore 40 = .ok (.aload_n 0, 1) := by decide +kernel
theorem dX3_restore_41 : decode cX3_restore 41 = .ok (.iload_n 2, 1) := by decide +kernel
theorem dX3_restore_42 : decode cX3_restore 42 = .ok (.putfield 22, 3) := by decide +kernel
theorem dX3_restore_45 : decode cX3_restore 45 = .ok (.aload_n 0, 1) := by decide +kernel
theorem dX3_restore_46 : decode cX3_restore 46 = .ok (.dup, 1) := by decide +kernel
theorem dX3_restore_47 : decode cX3_restore 47 = .ok (.getfield 18, 3) := by decide +kernel
theorem dX3_restore_50 : decode cX3_restore 50 = .ok (.iconst 1, 1) := by decide +kernel
theorem dX3_restore_51 : decode cX3_restore 51 = .ok (.isub, 1) := by decide +kernel
theorem dX3_restore_52 : decode cX3_restore 52 = .ok (.putfield 18, 3) := by decide +kernel
theorem dX3_restore_55 : decode cX3_restore 55 = .ok (.return_, 1) := by decide +kernel
theorem dX3_slot_0 : decode cX3_slot 0 = .ok (.iload_n 1, 1) := by decide +kernel
theorem dX3_slot_1 : decode cX3_slot 1 = .ok (.ifCond .lt 21, 3) := by decide +kernel
theorem dX3_slot_4 : decode cX3_slot 4 = .ok (.iload_n 1, 1) := by decide +kernel
theorem dX3_slot_5 : decode cX3_slot 5 = .ok (.aload_n 0, 1) := by decide +kernel
theorem dX3_slot_6 : decode cX3_slot 6 = .ok (.getfield 11, 3) := by decide +kernel
theorem dX3_slot_9 : decode cX3_slot 9 = .ok (.arraylength, 1) := by decide +kernel
theorem dX3_slot_10 : decode cX3_slot 10 = .ok (.if_icmp .ge 12, 3) := by decide +kernel
theorem dX3_slot_13 : decode cX3_slot 13 = .ok (.aload_n 0, 1) := by decide +kernel
theorem dX3_slot_14 : decode cX3_slot 14 = .ok (.getfield 11, 3) := by decide +kernel
theorem dX3_slot_17 : decode cX3_slot 17 = .ok (.iload_n 1, 1) := by decide +kernel
theorem dX3_slot_18 : decode cX3_slot 18 = .ok (.aaload, 1) := by decide +kernel
theorem dX3_slot_19 : decode cX3_slot 19 = .ok (.goto 4, 3) := by decide +kernel
theorem dX3_slot_22 : decode cX3_slot 22 = .ok (.aconst_null, 1) := by decide +kernel
theorem dX3_slot_23 : decode cX3_slot 23 = .ok (.areturn, 1) := by decide +kernel
theorem dX4_init_0 : decode cX4_init 0 = .ok (.aload_n 0, 1) := by decide +kernel
theorem dX4_init_1 : decode cX4_init 1 = .ok (.invokespecial 3, 3) := by decide +kernel
theorem dX4_init_4 : decode cX4_init 4 = .ok (.aload_n 0, 1) := by decide +kernel
theorem dX4_init_5 : decode cX4_init 5 = .ok (.iload_n 1, 1) := by decide +kernel
theorem dX4_init_6 : decode cX4_init 6 = .ok (.ifCond .ge 7, 3) := by decide +kernel
theorem dX4_init_9 : decode cX4_init 9 = .ok (.iconst 0, 1) := by decide +kernel
theorem dX4_init_10 : decode cX4_init 10 = .ok (.goto 4, 3) := by decide +kernel
theorem dX4_init_13 : decode cX4_init 13 = .ok (.iload_n 1, 1) := by decide +kernel
theorem dX4_init_14 : decode cX4_init 14 = .ok (.newarray .int, 2) := by decide +kernel
theorem dX4_init_16 : decode cX4_init 16 = .ok (.putfield 9, 3) := by decide +kernel
theorem dX4_init_19 : decode cX4_init 19 = .ok (.return_, 1) := by decide +kernel
theorem dX4_at_0 : decode cX4_at 0 = .ok (.iload_n 1, 1) := by decide +kernel
theorem dX4_at_1 : decode cX4_at 1 = .ok (.ifCond .lt 21, 3) := by decide +kernel
theorem dX4_at_4 : decode cX4_at 4 = .ok (.iload_n 1, 1) := by decide +kernel
theorem dX4_at_5 : decode cX4_at 5 = .ok (.aload_n 0, 1) := by decide +kernel
theorem dX4_at_6 : decode cX4_at 6 = .ok (.getfield 9, 3) := by decide +kernel
theorem dX4_at_9 : decode cX4_at 9 = .ok (.arraylength, 1) := by decide +kernel
theorem dX4_at_10 : decode cX4_at 10 = .ok (.if_icmp .ge 12, 3) := by decide +kernel
theorem dX4_at_13 : decode cX4_at 13 = .ok (.aload_n 0, 1) := by decide +kernel
theorem dX4_at_14 : decode cX4_at 14 = .ok (.getfield 9, 3) := by decide +kernel
theorem dX4_at_17 : decode cX4_at 17 = .ok (.iload_n 1, 1) := by decide +kernel
theorem dX4_at_18 : decode cX4_at 18 = .ok (.iaload, 1) := by decide +kernel
theorem dX4_at_19 : decode cX4_at 19 = .ok (.goto 4, 3) := by decide +kernel
theorem dX4_at_22 : decode cX4_at 22 = .ok (.iconst (-1), 1) := by decide +kernel
theorem dX4_at_23 : decode cX4_at 23 = .ok (.ireturn, 1) := by decide +kernel
theorem dX4_put_0 : decode cX4_put 0 = .ok (.iload_n 1, 1) := by decide +kernel
theorem dX4_put_1 : decode cX4_put 1 = .ok (.ifCond .lt 19, 3) := by decide +kernel
theorem dX4_put_4 : decode cX4_put 4 = .ok (.iload_n 1, 1) := by decide +kernel
theorem dX4_put_5 : decode cX4_put 5 = .ok (.aload_n 0, 1) := by decide +kernel
theorem dX4_put_6 : decode cX4_put 6 = .ok (.getfield 9, 3) := by decide +kernel
theorem dX4_put_9 : decode cX4_put 9 = .ok (.arraylength, 1) := by decide +kernel
theorem dX4_put_10 : decode cX4_put 10 = .ok (.if_icmp .ge 10, 3) := by decide +kernel
theorem dX4_put_13 : decode cX4_put 13 = .ok (.aload_n 0, 1) := by decide +kernel
theorem dX4_put_14 : decode cX4_put 14 = .ok (.getfield 9, 3) := by decide +kernel
theorem dX4_put_17 : decode cX4_put 17 = .ok (.iload_n 1, 1) := by decide +kernel
theorem dX4_put_18 : decode cX4_put 18 = .ok (.iload_n 2, 1) := by decide +kernel
theorem dX4_put_19 : decode cX4_put 19 = .ok (.iastore, 1) := by decide +kernel
theorem dX4_put_20 : decode cX4_put 20 = .ok (.return_, 1) := by decide +kernel
theorem dX4_increase_0 : decode cX4_increase 0 = .ok (.aload_n 0, 1) := by decide +kernel
theorem dX4_increase_1 : decode cX4_increase 1 = .ok (.iload_n 1, 1) := by decide +kernel
theorem dX4_increase_2 : decode cX4_increase 2 = .ok (.aload_n 0, 1) := by decide +kernel
theorem dX4_increase_3 : decode cX4_increase 3 = .ok (.iload_n 1, 1) := by decide +kernel
theorem dX4_increase_4 : decode cX4_increase 4 = .ok (.invokevirtual 15, 3) := by decide +kernel
theorem dX4_increase_7 : decode cX4_increase 7 = .ok (.iconst 1, 1) := by decide +kernel
theorem dX4_increase_8 : decode cX4_increase 8 = .ok (.iadd, 1) := by decide +kernel
theorem dX4_increase_9 : decode cX4_increase 9 = .ok (.invokevirtual 19, 3) := by decide +kernel
theorem dX4_increase_12 : decode cX4_increase 12 = .ok (.return_, 1) := by decide +kernel
theorem dX4_fill_0 : decode cX4_fill 0 = .ok (.iload_n 1, 1) := by decide +kernel
theorem dX4_fill_1 : decode cX4_fill 1 = .ok (.istore 4, 2) := by decide +kernel
theorem dX4_fill_3 : decode cX4_fill 3 = .ok (.iload 4, 2) := by decide +kernel
theorem dX4_fill_5 : decode cX4_fill 5 = .ok (.ifCond .lt 33, 3) := by decide +kernel
theorem dX4_fill_8 : decode cX4_fill 8 = .ok (.iload 4, 2) := by decide +kernel
theorem dX4_fill_10 : decode cX4_fill 10 = .ok (.iload_n 2, 1) := by decide +kernel
theorem dX4_fill_11 : decode cX4_fill 11 = .ok (.if_icmp .ge 27, 3) := by decide +kernel
theorem dX4_fill_14 : decode cX4_fill 14 = .ok (.iload 4, 2) := by decide +kernel
theorem dX4_fill_16 : decode cX4_fill 16 = .ok (.aload_n 0, 1) := by decide +kernel
theorem dX4_fill_17 : decode cX4_fill 17 = .ok (.getfield 9, 3) := by decide +kernel
theorem dX4_fill_20 : decode cX4_fill 20 = .ok (.arraylength, 1) := by decide +kernel
theorem dX4_fill_21 : decode cX4_fill 21 = .ok (.if_icmp .ge 17, 3) := by decide +kernel
theorem dX4_fill_24 : decode cX4_fill 24 = .ok (.aload_n 0, 1) := by decide +kernel
theorem dX4_fill_25 : decode cX4_fill 25 = .ok (.getfield 9, 3) := by decide +kernel
theorem dX4_fill_28 : decode cX4_fill 28 = .ok (.iload 4, 2) := by decide +kernel
theorem dX4_fill_30 : decode cX4_fill 30 = .ok (.iload_n 3, 1) := by decide +kernel
theorem dX4_fill_31 : decode cX4_fill 31 = .ok (.iastore, 1) := by decide +kernel
theorem dX4_fill_32 : decode cX4_fill 32 = .ok (.iinc 4 1, 3) := by decide +kernel
theorem dX4_fill_35 : decode cX4_fill 35 = .ok (.goto (-32), 3) := by decide +kernel
theorem dX4_fill_38 : decode cX4_fill 38 = .ok (.return_, 1) := by decide +kernel
theorem dX4_copy_0 : decode cX4_copy 0 = .ok (.iconst 0, 1) := by decide +kernel
theorem dX4_copy_1 : decode cX4_copy 1 = .ok (.istore_n 2, 1) := by decide +kernel
theorem dX4_copy_2 : decode cX4_copy 2 = .ok (.iload_n 2, 1) := by decide +kernel
theorem dX4_copy_3 : decode cX4_copy 3 = .ok (.aload_n 0, 1) := by decide +kernel
theorem dX4_copy_4 : decode cX4_copy 4 = .ok (.getfield 9, 3) := by decide +kernel
theorem dX4_copy_7 : decode cX4_copy 7 = .ok (.arraylength, 1) := by decide +kernel
theorem dX4_copy_8 : decode cX4_copy 8 = .ok (.if_icmp .ge 30, 3) := by decide +kernel
theorem dX4_copy_11 : decode cX4_copy 11 = .ok (.iload_n 2, 1) := by decide +kernel
theorem dX4_copy_12 : decode cX4_copy 12 = .ok (.aload_n 1, 1) := by decide +kernel
theorem dX4_copy_13 : decode cX4_copy 13 = .ok (.getfield 9, 3) := by decide +kernel
theorem dX4_copy_16 : decode cX4_copy 16 = .ok (.arraylength, 1) := by decide +kernel
theorem dX4_copy_17 : decode cX4_copy 17 = .ok (.if_icmp .ge 21, 3) := by decide +kernel
theorem dX4_copy_20 : decode cX4_copy 20 = .ok (.aload_n 0, 1) := by decide +kernel
theorem dX4_copy_21 : decode cX4_copy 21 = .ok (.getfield 9, 3) := by decide +kernel
theorem dX4_copy_24 : decode cX4_copy 24 = .ok (.iload_n 2, 1) := by decide +kernel
theorem dX4_copy_25 : decode cX4_copy 25 = .ok (.aload_n 1, 1) := by decide +kernel
theorem dX4_copy_26 : decode cX4_copy 26 = .ok (.getfield 9, 3) := by decide +kernel
theorem dX4_copy_29 : decode cX4_copy 29 = .ok (.iload_n 2, 1) := by decide +kernel
theorem dX4_copy_30 : decode cX4_copy 30 = .ok (.iaload, 1) := by decide +kernel
theorem dX4_copy_31 : decode cX4_copy 31 = .ok (.iastore, 1) := by decide +kernel
theorem dX4_copy_32 : decode cX4_copy 32 = .ok (.iinc 2 1, 3) := by decide +kernel
theorem dX4_copy_35 : decode cX4_copy 35 = .ok (.goto (-33), 3) := by decide +kernel
theorem dX4_copy_38 : decode cX4_copy 38 = .ok (.return_, 1) := by decide +kernel
theorem dX4_closeGap_0 : decode cX4_closeGap 0 = .ok (.iload_n 1, 1) := by decide +kernel
theorem dX4_closeGap_1 : decode cX4_closeGap 1 = .ok (.istore_n 2, 1) := by decide +kernel
theorem dX4_closeGap_2 : decode cX4_closeGap 2 = .ok (.iload_n 2, 1) := by decide +kernel
theorem dX4_closeGap_3 : decode cX4_closeGap 3 = .ok (.ifCond .lt 34, 3) := by decide +kernel
theorem dX4_closeGap_6 : decode cX4_closeGap 6 = .ok (.iload_n 2, 1) := by decide +kernel
theorem dX4_closeGap_7 : decode cX4_closeGap 7 = .ok (.aload_n 0, 1) := by decide +kernel
theorem dX4_closeGap_8 : decode cX4_closeGap 8 = .ok (.getfield 9, 3) := by decide +kernel
theorem dX4_closeGap_11 : decode cX4_closeGap 11 = .ok (.arraylength, 1) := by decide +kernel
theorem dX4_closeGap_12 : decode cX4_closeGap 12 = .ok (.iconst 1, 1) := by decide +kernel
theorem dX4_closeGap_13 : decode cX4_closeGap 13 = .ok (.isub, 1) := by decide +kernel
theorem dX4_closeGap_14 : decode cX4_closeGap 14 = .ok (.if_icmp .ge 23, 3) := by decide +kernel
theorem dX4_closeGap_17 : decode cX4_closeGap 17 = .ok (.aload_n 0, 1) := by decide +kernel
theorem dX4_closeGap_18 : decode cX4_closeGap 18 = .ok (.getfield 9, 3) := by decide +kernel
theorem dX4_closeGap_21 : decode cX4_closeGap 21 = .ok (.iload_n 2, 1) := by decide +kernel
theorem dX4_closeGap_22 : decode cX4_closeGap 22 = .ok (.aload_n 0, 1) := by decide +kernel
theorem dX4_closeGap_23 : decode cX4_closeGap 23 = .ok (.getfield 9, 3) := by decide +kernel
theorem dX4_closeGap_26 : decode cX4_closeGap 26 = .ok (.iload_n 2, 1) := by decide +kernel
theorem dX4_closeGap_27 : decode cX4_closeGap 27 = .ok (.iconst 1, 1) := by decide +kernel
theorem dX4_closeGap_28 : decode cX4_closeGap 28 = .ok (.iadd, 1) := by decide +kernel
theorem dX4_closeGap_29 : decode cX4_closeGap 29 = .ok (.iaload, 1) := by decide +kernel
theorem dX4_closeGap_30 : decode cX4_closeGap 30 = .ok (.iastore, 1) := by decide +kernel
theorem dX4_closeGap_31 : decode cX4_closeGap 31 = .ok (.iinc 2 1, 3) := by decide +kernel
theorem dX4_closeGap_34 : decode cX4_closeGap 34 = .ok (.goto (-32), 3) := by decide +kernel
theorem dX4_closeGap_37 : decode cX4_closeGap 37 = .ok (.return_, 1) := by decide +kernel
theorem dX5_init_0 : decode cX5_init 0 = .ok (.aload_n 0, 1) := by decide +kernel
theorem dX5_init_1 : decode cX5_init 1 = .ok (.invokespecial 3, 3) := by decide +kernel
theorem dX5_init_4 : decode cX5_init 4 = .ok (.aload_n 0, 1) := by decide +kernel
theorem dX5_init_5 : decode cX5_init 5 = .ok (.new 9, 3) := by decide +kernel
theorem dX5_init_8 : decode cX5_init 8 = .ok (.dup, 1) := by decide +kernel
theorem dX5_init_9 : decode cX5_init 9 = .ok (.iconst 4, 1) := by decide +kernel
theorem dX5_init_10 : decode cX5_init 10 = .ok (.invokespecial 11, 3) := by decide +kernel
theorem dX5_init_13 : decode cX5_init 13 = .ok (.putfield 14, 3) := by decide +kernel
theorem dX5_init_16 : decode cX5_init 16 = .ok (.aload_n 0, 1) := by decide +kernel
theorem dX5_init_17 : decode cX5_init 17 = .ok (.new 9, 3) := by decide +kernel
theorem dX5_init_20 : decode cX5_init 20 = .ok (.dup, 1) := by decide +kernel
theorem dX5_init_21 : decode cX5_init 21 = .ok (.bipush 24, 2) := by decide +kernel
theorem dX5_init_23 : decode cX5_init 23 = .ok (.invokespecial 11, 3) := by decide +kernel
theorem dX5_init_26 : decode cX5_init 26 = .ok (.putfield 20, 3) := by decide +kernel
theorem dX5_init_29 : decode cX5_init 29 = .ok (.aload_n 0, 1) := by decide +kernel
theorem dX5_init_30 : decode cX5_init 30 = .ok (.new 9, 3) := by decide +kernel
theorem dX5_init_33 : decode cX5_init 33 = .ok (.dup, 1) := by decide +kernel
theorem dX5_init_34 : decode cX5_init 34 = .ok (.bipush 24, 2) := by decide +kernel
theorem dX5_init_36 : decode cX5_init 36 = .ok (.invokespecial 11, 3) := by decide +kernel
theorem dX5_init_39 : decode cX5_init 39 = .ok (.putfield 23, 3) := by decide +kernel
theorem dX5_init_42 : decode cX5_init 42 = .ok (.aload_n 0, 1) := by decide +kernel
theorem dX5_init_43 : decode cX5_init 43 = .ok (.new 9, 3) := by decide +kernel
theorem dX5_init_46 : decode cX5_init 46 = .ok (.dup, 1) := by decide +kernel
theorem dX5_init_47 : decode cX5_init 47 = .ok (.bipush 24, 2) := by decide +kernel
theorem dX5_init_49 : decode cX5_init 49 = .ok (.invokespecial 11, 3) := by decide +kernel
theorem dX5_init_52 : decode cX5_init 52 = .ok (.putfield 26, 3) := by decide +kernel
theorem dX5_init_55 : decode cX5_init 55 = .ok (.aload_n 0, 1) := by decide +kernel
theorem dX5_init_56 : decode cX5_init 56 = .ok (.new 9, 3) := by decide +kernel
theorem dX5_init_59 : decode cX5_init 59 = .ok (.dup, 1) := by decide +kernel
theorem dX5_init_60 : decode cX5_init 60 = .ok (.bipush 30, 2) := by decide +kernel
theorem dX5_init_62 : decode cX5_init 62 = .ok (.invokespecial 11, 3) := by decide +kernel
theorem dX5_init_65 : decode cX5_init 65 = .ok (.putfield 29, 3) := by decide +kernel
theorem dX5_init_68 : decode cX5_init 68 = .ok (.aload_n 0, 1) := by decide +kernel
theorem dX5_init_69 : decode cX5_init 69 = .ok (.new 9, 3) := by decide +kernel
theorem dX5_init_72 : decode cX5_init 72 = .ok (.dup, 1) := by decide +kernel
theorem dX5_init_73 : decode cX5_init 73 = .ok (.bipush 30, 2) := by decide +kernel
theorem dX5_init_75 : decode cX5_init 75 = .ok (.invokespecial 11, 3) := by decide +kernel
theorem dX5_init_78 : decode cX5_init 78 = .ok (.putfield 32, 3) := by decide +kernel
theorem dX5_init_81 : decode cX5_init 81 = .ok (.iconst 0, 1) := by decide +kernel
theorem dX5_init_82 : decode cX5_init 82 = .ok (.istore_n 1, 1) := by decide +kernel
theorem dX5_init_83 : decode cX5_init 83 = .ok (.iload_n 1, 1) := by decide +kernel
theorem dX5_init_84 : decode cX5_init 84 = .ok (.getstatic 35, 3) := by decide +kernel
theorem dX5_init_87 : decode cX5_init 87 = .ok (.arraylength, 1) := by decide +kernel
theorem dX5_init_88 : decode cX5_init 88 = .ok (.if_icmp .ge 22, 3) := by decide +kernel
theorem dX5_init_91 : decode cX5_init 91 = .ok (.aload_n 0, 1) := by decide +kernel
theorem dX5_init_92 : decode cX5_init 92 = .ok (.getfield 14, 3) := by decide +kernel
theorem dX5_init_95 : decode cX5_init 95 = .ok (.iload_n 1, 1) := by decide +kernel
theorem dX5_init_96 : decode cX5_init 96 = .ok (.getstatic 35, 3) := by decide +kernel
theorem dX5_init_99 : decode cX5_init 99 = .ok (.iload_n 1, 1) := by decide +kernel
theorem dX5_init_100 : decode cX5_init 100 = .ok (.iaload, 1) := by decide +kernel
theorem dX5_init_101 : decode cX5_init 101 = .ok (.invokevirtual 39, 3) := by decide +kernel
theorem dX5_init_104 : decode cX5_init 104 = .ok (.iinc 1 1, 3) := by decide +kernel
theorem dX5_init_107 : decode cX5_init 107 = .ok (.goto (-24), 3) := by decide +kernel
theorem dX5_init_110 : decode cX5_init 110 = .ok (.return_, 1) := by decide +kernel
theorem dX5_setting_0 : decode cX5_setting 0 = .ok (.aload_n 0, 1) := by decide +kernel
theorem dX5_setting_1 : decode cX5_setting 1 = .ok (.getfield 14, 3) := by decide +kernel
theorem dX5_setting_4 : decode cX5_setting 4 = .ok (.iload_n 1, 1) := by decide +kernel
theorem dX5_setting_5 : decode cX5_setting 5 = .ok (.invokevirtual 43, 3) := by decide +kernel
theorem dX5_setting_8 : decode cX5_setting 8 = .ok (.ireturn, 1) := by decide +kernel
theorem dX5_putSetting_0 : decode cX5_putSetting 0 = .ok (.aload_n 0, 1) := by decide +kernel
theorem dX5_putSetting_1 : decode cX5_putSetting 1 = .ok (.getfield 14, 3) := by decide +kernel
theorem dX5_putSetting_4 : decode cX5_putSetting 4 = .ok (.iload_n 1, 1) := by decide +kernel
theorem dX5_putSetting_5 : decode cX5_putSetting 5 = .ok (.iload_n 2, 1) := by decide +kernel
theorem dX5_putSetting_6 : decode cX5_putSetting 6 = .ok (.invokevirtual 39, 3) := by decide +kernel
theorem dX5_putSetting_9 : decode cX5_putSetting 9 = .ok (.return_, 1) := by decide +kernel
theorem dX5_taskCount_0 : decode cX5_taskCount 0 = .ok (.aload_n 0, 1) := by decide +kernel
theorem dX5_taskCount_1 : decode cX5_taskCount 1 = .ok (.getfield 47, 3) := by decide +kernel
theorem dX5_taskCount_4 : decode cX5_taskCount 4 = .ok (.ireturn, 1) := by decide +kernel
theorem dX5_arrowCount_0 : decode cX5_arrowCount 0 = .ok (.aload_n 0, 1) := by decide +kernel
theorem dX5_arrowCount_1 : decode cX5_arrowCount 1 = .ok (.getfield 51, 3) := by decide +kernel
theorem dX5_arrowCount_4 : decode cX5_arrowCount 4 = .ok (.ireturn, 1) := by decide +kernel
theorem dX5_hasTask_0 : decode cX5_hasTask 0 = .ok (.iload_n 1, 1) := by decide +kernel
theorem dX5_hasTask_1 : decode cX5_hasTask 1 = .ok (.ifCond .lt 15, 3) := by decide +kernel
theorem dX5_hasTask_4 : decode cX5_hasTask 4 = .ok (.iload_n 1, 1) := by decide +kernel
theorem dX5_hasTask_5 : decode cX5_hasTask 5 = .ok (.aload_n 0, 1) := by decide +kernel
theorem dX5_hasTask_6 : decode cX5_hasTask 6 = .ok (.getfield 47, 3) := by decide +kernel
theorem dX5_hasTask_9 : decode cX5_hasTask 9 = .ok (.if_icmp .ge 7, 3) := by decide +kernel
theorem dX5_hasTask_12 : decode cX5_hasTask 12 = .ok (.iconst 1, 1) := by decide +kernel
theorem dX5_hasTask_13 : decode cX5_hasTask 13 = .ok (.goto 4, 3) := by decide +kernel
theorem dX5_hasTask_16 : decode cX5_hasTask 16 = .ok (.iconst 0, 1) := by decide +kernel
theorem dX5_hasTask_17 : decode cX5_hasTask 17 = .ok (.ireturn, 1) := by decide +kernel
theorem dX5_hasArrow_0 : decode cX5_hasArrow 0 = .ok (.iload_n 1, 1) := by decide +kernel
theorem dX5_hasArrow_1 : decode cX5_hasArrow 1 = .ok (.ifCond .lt 15, 3) := by decide +kernel
theorem dX5_hasArrow_4 : decode cX5_hasArrow 4 = .ok (.iload_n 1, 1) := by decide +kernel
theorem dX5_hasArrow_5 : decode cX5_hasArrow 5 = .ok (.aload_n 0, 1) := by decide +kernel
theorem dX5_hasArrow_6 : decode cX5_hasArrow 6 = .ok (.getfield 51, 3) := by decide +kernel
theorem dX5_hasArrow_9 : decode cX5_hasArrow 9 = .ok (.if_icmp .ge 7, 3) := by decide +kernel
theorem dX5_hasArrow_12 : decode cX5_hasArrow 12 = .ok (.iconst 1, 1) := by decide +kernel
theorem dX5_hasArrow_13 : decode cX5_hasArrow 13 = .ok (.goto 4, 3) := by decide +kernel
theorem dX5_hasArrow_16 : decode cX5_hasArrow 16 = .ok (.iconst 0, 1) := by decide +kernel
theorem dX5_hasArrow_17 : decode cX5_hasArrow 17 = .ok (.ireturn, 1) := by decide +kernel
theorem dX5_group_0 : decode cX5_group 0 = .ok (.aload_n 0, 1) := by decide +kernel
theorem dX5_group_1 : decode cX5_group 1 = .ok (.getfield 20, 3) := by decide +kernel
theorem dX5_group_4 : decode cX5_group 4 = .ok (.iload_n 1, 1) := by decide +kernel
theorem dX5_group_5 : decode cX5_group 5 = .ok (.invokevirtual 43, 3) := by decide +kernel
theorem dX5_group_8 : decode cX5_group 8 = .ok (.ireturn, 1) := by decide +kernel
theorem dX5_first_0 : decode cX5_first 0 = .ok (.aload_n 0, 1) := by decide +kernel
theorem dX5_first_1 : decode cX5_first 1 = .ok (.getfield 23, 3) := by decide +kernel
theorem dX5_first_4 : decode cX5_first 4 = .ok (.iload_n 1, 1) := by decide +kernel
theorem dX5_first_5 : decode cX5_first 5 = .ok (.invokevirtual 43, 3) := by decide +kernel
theorem dX5_first_8 : decode cX5_first 8 = .ok (.ireturn, 1) := by decide +kernel
theorem dX5_length_0 : decode cX5_length 0 = .ok (.aload_n 0, 1) := by decide +kernel
theorem dX5_length_1 : decode cX5_length 1 = .ok (.getfield 26, 3) := by decide +kernel
theorem dX5_length_4 : decode cX5_length 4 = .ok (.iload_n 1, 1) := by decide +kernel
theorem dX5_length_5 : decode cX5_length 5 = .ok (.invokevirtual 43, 3) := by decide +kernel
theorem dX5_length_8 : decode cX5_length 8 = .ok (.ireturn, 1) := by decide +kernel
theorem dX5_last_0 : decode cX5_last 0 = .ok (.aload_n 0, 1) := by decide +kernel
theorem dX5_last_1 : decode cX5_last 1 = .ok (.getfield 23, 3) := by decide +kernel
theorem dX5_last_4 : decode cX5_last 4 = .ok (.iload_n 1, 1) := by decide +kernel
theorem dX5_last_5 : decode cX5_last 5 = .ok (.invokevirtual 43, 3) := by decide +kernel
theorem dX5_last_8 : decode cX5_last 8 = .ok (.aload_n 0, 1) := by decide +kernel
theorem dX5_last_9 : decode cX5_last 9 = .ok (.getfield 26, 3) := by decide +kernel
theorem dX5_last_12 : decode cX5_last 12 = .ok (.iload_n 1, 1) := by decide +kernel
theorem dX5_last_13 : decode cX5_last 13 = .ok (.invokevirtual 43, 3) := by decide +kernel
theorem dX5_last_16 : decode cX5_last 16 = .ok (.iadd, 1) := by decide +kernel
theorem dX5_last_17 : decode cX5_last 17 = .ok (.iconst 1, 1) := by decide +kernel
theorem dX5_last_18 : decode cX5_last 18 = .ok (.isub, 1) := by decide +kernel
theorem dX5_last_19 : decode cX5_last 19 = .ok (.ireturn, 1) := by decide +kernel
theorem dX5_from_0 : decode cX5_from 0 = .ok (.aload_n 0, 1) := by decide +kernel
theorem dX5_from_1 : decode cX5_from 1 = .ok (.getfield 29, 3) := by decide +kernel
theorem dX5_from_4 : decode cX5_from 4 = .ok (.iload_n 1, 1) := by decide +kernel
theorem dX5_from_5 : decode cX5_from 5 = .ok (.invokevirtual 43, 3) := by decide +kernel
theorem dX5_from_8 : decode cX5_from 8 = .ok (.ireturn, 1) := by decide +kernel
theorem dX5_to_0 : decode cX5_to 0 = .ok (.aload_n 0, 1) := by decide +kernel
theorem dX5_to_1 : decode cX5_to 1 = .ok (.getfield 32, 3) := by decide +kernel
theorem dX5_to_4 : decode cX5_to 4 = .ok (.iload_n 1, 1) := by decide +kernel
theorem dX5_to_5 : decode cX5_to 5 = .ok (.invokevirtual 43, 3) := by decide +kernel
theorem dX5_to_8 : decode cX5_to 8 = .ok (.ireturn, 1) := by decide +kernel
theorem dX5_isLate_0 : decode cX5_isLate 0 = .ok (.aload_n 0, 1) := by decide +kernel
theorem dX5_isLate_1 : decode cX5_isLate 1 = .ok (.aload_n 0, 1) := by decide +kernel
theorem dX5_isLate_2 : decode cX5_isLate 2 = .ok (.iload_n 1, 1) := by decide +kernel
theorem dX5_isLate_3 : decode cX5_isLate 3 = .ok (.invokevirtual 54, 3) := by decide +kernel
theorem dX5_isLate_6 : decode cX5_isLate 6 = .ok (.invokevirtual 57, 3) := by decide +kernel
theorem dX5_isLate_9 : decode cX5_isLate 9 = .ok (.aload_n 0, 1) := by decide +kernel
theorem dX5_isLate_10 : decode cX5_isLate 10 = .ok (.aload_n 0, 1) := by decide +kernel
theorem dX5_isLate_11 : decode cX5_isLate 11 = .ok (.iload_n 1, 1) := by decide +kernel
theorem dX5_isLate_12 : decode cX5_isLate 12 = .ok (.invokevirtual 60, 3) := by decide +kernel
theorem dX5_isLate_15 : decode cX5_isLate 15 = .ok (.invokevirtual 63, 3) := by decide +kernel
theorem dX5_isLate_18 : decode cX5_isLate 18 = .ok (.if_icmp .gt 7, 3) := by decide +kernel
theorem dX5_isLate_21 : decode cX5_isLate 21 = .ok (.iconst 1, 1) := by decide +kernel
theorem dX5_isLate_22 : decode cX5_isLate 22 = .ok (.goto 4, 3) := by decide +kernel
theorem dX5_isLate_25 : decode cX5_isLate 25 = .ok (.iconst 0, 1) := by decide +kernel
theorem dX5_isLate_26 : decode cX5_isLate 26 = .ok (.ireturn, 1) := by decide +kernel
theorem dX5_covers_0 : decode cX5_covers 0 = .ok (.aload_n 0, 1) := by decide +kernel
theorem dX5_covers_1 : decode cX5_covers 1 = .ok (.iload_n 1, 1) := by decide +kernel
theorem dX5_covers_2 : decode cX5_covers 2 = .ok (.invokevirtual 66, 3) := by decide +kernel
theorem dX5_covers_5 : decode cX5_covers 5 = .ok (.ifCond .eq 25, 3) := by decide +kernel
theorem dX5_covers_8 : decode cX5_covers 8 = .ok (.iload_n 2, 1) := by decide +kernel
theorem dX5_covers_9 : decode cX5_covers 9 = .ok (.aload_n 0, 1) := by decide +kernel
theorem dX5_covers_10 : decode cX5_covers 10 = .ok (.iload_n 1, 1) := by decide +kernel
theorem dX5_covers_11 : decode cX5_covers 11 = .ok (.invokevirtual 57, 3) := by decide +kernel
theorem dX5_covers_14 : decode cX5_covers 14 = .ok (.if_icmp .lt 16, 3) := by decide +kernel
theorem dX5_covers_17 : decode cX5_covers 17 = .ok (.iload_n 2, 1) := by decide +kernel
theorem dX5_covers_18 : decode cX5_covers 18 = .ok (.aload_n 0, 1) := by decide +kernel
theorem dX5_covers_19 : decode cX5_covers 19 = .ok (.iload_n 1, 1) := by decide +kernel
theorem dX5_covers_20 : decode cX5_covers 20 = .ok (.invokevirtual 63, 3) := by decide +kernel
theorem dX5_covers_23 : decode cX5_covers 23 = .ok (.if_icmp .gt 7, 3) := by decide +kernel
theorem dX5_covers_26 : decode cX5_covers 26 = .ok (.iconst 1, 1) := by decide +kernel
theorem dX5_covers_27 : decode cX5_covers 27 = .ok (.goto 4, 3) := by decide +kernel
theorem dX5_covers_30 : decode cX5_covers 30 = .ok (.iconst 0, 1) := by decide +kernel
theorem dX5_covers_31 : decode cX5_covers 31 = .ok (.ireturn, 1) := by decide +kernel
theorem dX5_daysOfBars_0 : decode cX5_daysOfBars 0 = .ok (.iconst 0, 1) := by decide +kernel
theorem dX5_daysOfBars_1 : decode cX5_daysOfBars 1 = .ok (.istore_n 1, 1) := by decide +kernel
theorem dX5_daysOfBars_2 : decode cX5_daysOfBars 2 = .ok (.iconst 0, 1) := by decide +kernel
theorem dX5_daysOfBars_3 : decode cX5_daysOfBars 3 = .ok (.istore_n 2, 1) := by decide +kernel
theorem dX5_daysOfBars_4 : decode cX5_daysOfBars 4 = .ok (.iload_n 2, 1) := by decide +kernel
theorem dX5_daysOfBars_5 : decode cX5_daysOfBars 5 = .ok (.aload_n 0, 1) := by decide +kernel
theorem dX5_daysOfBars_6 : decode cX5_daysOfBars 6 = .ok (.getfield 47, 3) := by decide +kernel
theorem dX5_daysOfBars_9 : decode cX5_daysOfBars 9 = .ok (.if_icmp .ge 17, 3) := by decide +kernel
theorem dX5_daysOfBars_12 : decode cX5_daysOfBars 12 = .ok (.iload_n 1, 1) := by decide +kernel
theorem dX5_daysOfBars_13 : decode cX5_daysOfBars 13 = .ok (.aload_n 0, 1) := by decide +kernel
theorem dX5_daysOfBars_14 : decode cX5_daysOfBars 14 = .ok (.iload_n 2, 1) := by decide +kernel
theorem dX5_daysOfBars_15 : decode cX5_daysOfBars 15 = .ok (.invokevirtual 70, 3) := by decide +kernel
theorem dX5_daysOfBars_18 : decode cX5_daysOfBars 18 = .ok (.iadd, 1) := by decide +kernel
theorem dX5_daysOfBars_19 : decode cX5_daysOfBars 19 = .ok (.istore_n 1, 1) := by decide +kernel
theorem dX5_daysOfBars_20 : decode cX5_daysOfBars 20 = .ok (.iinc 2 1, 3) := by decide +kernel
theorem dX5_daysOfBars_23 : decode cX5_daysOfBars 23 = .ok (.goto (-19), 3) := by decide +kernel
theorem dX5_daysOfBars_26 : decode cX5_daysOfBars 26 = .ok (.iload_n 1, 1) := by decide +kernel
theorem dX5_daysOfBars_27 : decode cX5_daysOfBars 27 = .ok (.ireturn, 1) := by decide +kernel
theorem dX5_hasArrowBetween_0 : decode cX5_hasArrowBetween 0 = .ok (.iconst 0, 1) := by decide +kernel
theorem dX5_hasArrowBetween_1 : decode cX5_hasArrowBetween 1 = .ok (.istore_n 3, 1) := by decide +kernel
theorem dX5_hasArrowBetween_2 : decode cX5_hasArrowBetween 2 = .ok (.iload_n 3, 1) := by decide +kernel
theorem dX5_hasArrowBetween_3 : decode cX5_hasArrowBetween 3 = .ok (.aload_n 0, 1) := by decide +kernel
theorem dX5_hasArrowBetween_4 : decode cX5_hasArrowBetween 4 = .ok (.getfield 51, 3) := by decide +kernel
theorem dX5_hasArrowBetween_7 : decode cX5_hasArrowBetween 7 = .ok (.if_icmp .ge 29, 3) := by decide +kernel
theorem dX5_hasArrowBetween_10 : decode cX5_hasArrowBetween 10 = .ok (.aload_n 0, 1) := by decide +kernel
theorem dX5_hasArrowBetween_11 : decode cX5_hasArrowBetween 11 = .ok (.iload_n 3, 1) := by decide +kernel
theorem dX5_hasArrowBetween_12 : decode cX5_hasArrowBetween 12 = .ok (.invokevirtual 60, 3) := by decide +kernel
theorem dX5_hasArrowBetween_15 : decode cX5_hasArrowBetween 15 = .ok (.iload_n 1, 1) := by decide +kernel
theorem dX5_hasArrowBetween_16 : decode cX5_hasArrowBetween 16 = .ok (.if_icmp .ne 14, 3) := by decide +kernel
theorem dX5_hasArrowBetween_19 : decode cX5_hasArrowBetween 19 = .ok (.aload_n 0, 1) := by decide +kernel
theorem dX5_hasArrowBetween_20 : decode cX5_hasArrowBetween 20 = .ok (.iload_n 3, 1) := by decide +kernel
theorem dX5_hasArrowBetween_21 : decode cX5_hasArrowBetween 21 = .ok (.invokevirtual 54, 3) := by decide +kernel
theorem dX5_hasArrowBetween_24 : decode cX5_hasArrowBetween 24 = .ok (.iload_n 2, 1) := by decide +kernel
theorem dX5_hasArrowBetween_25 : decode cX5_hasArrowBetween 25 = .ok (.if_icmp .ne 5, 3) := by decide +kernel
theorem dX5_hasArrowBetween_28 : decode cX5_hasArrowBetween 28 = .ok (.iconst 1, 1) := by decide +kernel
theorem dX5_hasArrowBetween_29 : decode cX5_hasArrowBetween 29 = .ok (.ireturn, 1) := by decide +kernel
theorem dX5_hasArrowBetween_30 : decode cX5_hasArrowBetween 30 = .ok (.iinc 3 1, 3) := by decide +kernel
theorem dX5_hasArrowBetween_33 : decode cX5_hasArrowBetween 33 = .ok (.goto (-31), 3) := by decide +kernel
theorem dX5_hasArrowBetween_36 : decode cX5_hasArrowBetween 36 = .ok (.iconst 0, 1) := by decide +kernel
theorem dX5_hasArrowBetween_37 : decode cX5_hasArrowBetween 37 = .ok (.ireturn, 1) := by decide +kernel
theorem dX5_tellTask_0 : decode cX5_tellTask 0 = .ok (.aload_n 0, 1) := by decide +kernel
theorem dX5_tellTask_1 : decode cX5_tellTask 1 = .ok (.getfield 47, 3) := by decide +kernel
theorem dX5_tellTask_4 : decode cX5_tellTask 4 = .ok (.bipush 24, 2) := by decide +kernel
theorem dX5_tellTask_6 : decode cX5_tellTask 6 = .ok (.if_icmp .lt 5, 3) := by decide +kernel
theorem dX5_tellTask_9 : decode cX5_tellTask 9 = .ok (.iconst (-1), 1) := by decide +kernel
theorem dX5_tellTask_10 : decode cX5_tellTask 10 = .ok (.ireturn, 1) := by decide +kernel
theorem dX5_tellTask_11 : decode cX5_tellTask 11 = .ok (.aload_n 0, 1) := by decide +kernel
theorem dX5_tellTask_12 : decode cX5_tellTask 12 = .ok (.getfield 20, 3) := by decide +kernel
theorem dX5_tellTask_15 : decode cX5_tellTask 15 = .ok (.aload_n 0, 1) := by decide +kernel
theorem dX5_tellTask_16 : decode cX5_tellTask 16 = .ok (.getfield 47, 3) := by decide +kernel
theorem dX5_tellTask_19 : decode cX5_tellTask 19 = .ok (.iload_n 1, 1) := by decide +kernel
theorem dX5_tellTask_20 : decode cX5_tellTask 20 = .ok (.invokevirtual 39, 3) := by decide +kernel
theorem dX5_tellTask_23 : decode cX5_tellTask 23 = .ok (.aload_n 0, 1) := by decide +kernel
theorem dX5_tellTask_24 : decode cX5_tellTask 24 = .ok (.aload_n 0, 1) := by decide +kernel
theorem dX5_tellTask_25 : decode cX5_tellTask 25 = .ok (.getfield 47, 3) := by decide +kernel
theorem dX5_tellTask_28 : decode cX5_tellTask 28 = .ok (.iload_n 2, 1) := by decide +kernel
theorem dX5_tellTask_29 : decode cX5_tellTask 29 = .ok (.iload_n 3, 1) := by decide +kernel
theorem dX5_tellTask_30 : decode cX5_tellTask 30 = .ok (.invokevirtual 73, 3) := by decide +kernel
theorem dX5_tellTask_33 : decode cX5_tellTask 33 = .ok (.aload_n 0, 1) := by decide +kernel
theorem dX5_tellTask_34 : decode cX5_tellTask 34 = .ok (.dup, 1) := by decide +kernel
theorem dX5_tellTask_35 : decode cX5_tellTask 35 = .ok (.getfield 47, 3) := by decide +kernel
theorem dX5_tellTask_38 : decode cX5_tellTask 38 = .ok (.iconst 1, 1) := by decide +kernel
theorem dX5_tellTask_39 : decode cX5_tellTask 39 = .ok (.iadd, 1) := by decide +kernel
theorem dX5_tellTask_40 : decode cX5_tellTask 40 = .ok (.putfield 47, 3) := by decide +kernel
theorem dX5_tellTask_43 : decode cX5_tellTask 43 = .ok (.aload_n 0, 1) := by decide +kernel
theorem dX5_tellTask_44 : decode cX5_tellTask 44 = .ok (.getfield 47, 3) := by decide +kernel
theorem dX5_tellTask_47 : decode cX5_tellTask 47 = .ok (.iconst 1, 1) := by decide +kernel
theorem dX5_tellTask_48 : decode cX5_tellTask 48 = .ok (.isub, 1) := by decide +kernel
theorem dX5_tellTask_49 : decode cX5_tellTask 49 = .ok (.ireturn, 1) := by decide +kernel
theorem dX5_putBar_0 : decode cX5_putBar 0 = .ok (.aload_n 0, 1) := by decide +kernel
theorem dX5_putBar_1 : decode cX5_putBar 1 = .ok (.getfield 23, 3) := by decide +kernel
theorem dX5_putBar_4 : decode cX5_putBar 4 = .ok (.iload_n 1, 1) := by decide +kernel
theorem dX5_putBar_5 : decode cX5_putBar 5 = .ok (.iload_n 2, 1) := by decide +kernel
theorem dX5_putBar_6 : decode cX5_putBar 6 = .ok (.invokevirtual 39, 3) := by decide +kernel
theorem dX5_putBar_9 : decode cX5_putBar 9 = .ok (.aload_n 0, 1) := by decide +kernel
theorem dX5_putBar_10 : decode cX5_putBar 10 = .ok (.getfield 26, 3) := by decide +kernel
theorem dX5_putBar_13 : decode cX5_putBar 13 = .ok (.iload_n 1, 1) := by decide +kernel
theorem dX5_putBar_14 : decode cX5_putBar 14 = .ok (.iload_n 3, 1) := by decide +kernel
theorem dX5_putBar_15 : decode cX5_putBar 15 = .ok (.invokevirtual 39, 3) := by decide +kernel
theorem dX5_putBar_18 : decode cX5_putBar 18 = .ok (.return_, 1) := by decide +kernel
theorem dX5_tellArrow_0 : decode cX5_tellArrow 0 = .ok (.aload_n 0, 1) := by decide +kernel
theorem dX5_tellArrow_1 : decode cX5_tellArrow 1 = .ok (.getfield 51, 3) := by decide +kernel
theorem dX5_tellArrow_4 : decode cX5_tellArrow 4 = .ok (.bipush 30, 2) := by decide +kernel
theorem dX5_tellArrow_6 : decode cX5_tellArrow 6 = .ok (.if_icmp .lt 5, 3) := by decide +kernel
theorem dX5_tellArrow_9 : decode cX5_tellArrow 9 = .ok (.iconst (-1), 1) := by decide +kernel
theorem dX5_tellArrow_10 : decode cX5_tellArrow 10 = .ok (.ireturn, 1) := by decide +kernel
theorem dX5_tellArrow_11 : decode cX5_tellArrow 11 = .ok (.aload_n 0, 1) := by decide +kernel
theorem dX5_tellArrow_12 : decode cX5_tellArrow 12 = .ok (.getfield 29, 3) := by decide +kernel
theorem dX5_tellArrow_15 : decode cX5_tellArrow 15 = .ok (.aload_n 0, 1) := by decide +kernel
theorem dX5_tellArrow_16 : decode cX5_tellArrow 16 = .ok (.getfield 51, 3) := by decide +kernel
theorem dX5_tellArrow_19 : decode cX5_tellArrow 19 = .ok (.iload_n 1, 1) := by decide +kernel
theorem dX5_tellArrow_20 : decode cX5_tellArrow 20 = .ok (.invokevirtual 39, 3) := by decide +kernel
theorem dX5_tellArrow_23 : decode cX5_tellArrow 23 = .ok (.aload_n 0, 1) := by decide +kernel
theorem dX5_tellArrow_24 : decode cX5_tellArrow 24 = .ok (.getfield 32, 3) := by decide +kernel
theorem dX5_tellArrow_27 : decode cX5_tellArrow 27 = .ok (.aload_n 0, 1) := by decide +kernel
theorem dX5_tellArrow_28 : decode cX5_tellArrow 28 = .ok (.getfield 51, 3) := by decide +kernel
theorem dX5_tellArrow_31 : decode cX5_tellArrow 31 = .ok (.iload_n 2, 1) := by decide +kernel
theorem dX5_tellArrow_32 : decode cX5_tellArrow 32 = .ok (.invokevirtual 39, 3) := by decide +kernel
theorem dX5_tellArrow_35 : decode cX5_tellArrow 35 = .ok (.aload_n 0, 1) := by decide +kernel
theorem dX5_tellArrow_36 : decode cX5_tellArrow 36 = .ok (.dup, 1) := by decide +kernel
theorem dX5_tellArrow_37 : decode cX5_tellArrow 37 = .ok (.getfield 51, 3) := by decide +kernel
theorem dX5_tellArrow_40 : decode cX5_tellArrow 40 = .ok (.iconst 1, 1) := by decide +kernel
theorem dX5_tellArrow_41 : decode cX5_tellArrow 41 = .ok (.iadd, 1) := by decide +kernel
theorem dX5_tellArrow_42 : decode cX5_tellArrow 42 = .ok (.putfield 51, 3) := by decide +kernel
theorem dX5_tellArrow_45 : decode cX5_tellArrow 45 = .ok (.aload_n 0, 1) := by decide +kernel
theorem dX5_tellArrow_46 : decode cX5_tellArrow 46 = .ok (.getfield 51, 3) := by decide +kernel
theorem dX5_tellArrow_49 : decode cX5_tellArrow 49 = .ok (.iconst 1, 1) := by decide +kernel
theorem dX5_tellArrow_50 : decode cX5_tellArrow 50 = .ok (.isub, 1) := by decide +kernel
theorem dX5_tellArrow_51 : decode cX5_tellArrow 51 = .ok (.ireturn, 1) := by decide +kernel
theorem dX5_dropArrow_0 : decode cX5_dropArrow 0 = .ok (.aload_n 0, 1) := by decide +kernel
theorem dX5_dropArrow_1 : decode cX5_dropArrow 1 = .ok (.iload_n 1, 1) := by decide +kernel
theorem dX5_dropArrow_2 : decode cX5_dropArrow 2 = .ok (.invokevirtual 77, 3) := by decide +kernel
theorem dX5_dropArrow_5 : decode cX5_dropArrow 5 = .ok (.ifCond .eq 29, 3) := by decide +kernel
theorem dX5_dropArrow_8 : decode cX5_dropArrow 8 = .ok (.aload_n 0, 1) := by decide +kernel
theorem dX5_dropArrow_9 : decode cX5_dropArrow 9 = .ok (.getfield 29, 3) := by decide +kernel
theorem dX5_dropArrow_12 : decode cX5_dropArrow 12 = .ok (.iload_n 1, 1) := by decide +kernel
theorem dX5_dropArrow_13 : decode cX5_dropArrow 13 = .ok (.invokevirtual 80, 3) := by decide +kernel
theorem dX5_dropArrow_16 : decode cX5_dropArrow 16 = .ok (.aload_n 0, 1) := by decide +kernel
theorem dX5_dropArrow_17 : decode cX5_dropArrow 17 = .ok (.getfield 32, 3) := by decide +kernel
theorem dX5_dropArrow_20 : decode cX5_dropArrow 20 = .ok (.iload_n 1, 1) := by decide +kernel
theorem dX5_dropArrow_21 : decode cX5_dropArrow 21 = .ok (.invokevirtual 80, 3) := by decide +kernel
theorem dX5_dropArrow_24 : decode cX5_dropArrow 24 = .ok (.aload_n 0, 1) := by decide +kernel
theorem dX5_dropArrow_25 : decode cX5_dropArrow 25 = .ok (.dup, 1) := by decide +kernel
theorem dX5_dropArrow_26 : decode cX5_dropArrow 26 = .ok (.getfield 51, 3) := by decide +kernel
theorem dX5_dropArrow_29 : decode cX5_dropArrow 29 = .ok (.iconst 1, 1) := by decide +kernel
theorem dX5_dropArrow_30 : decode cX5_dropArrow 30 = .ok (.isub, 1) := by decide +kernel
theorem dX5_dropArrow_31 : decode cX5_dropArrow 31 = .ok (.putfield 51, 3) := by decide +kernel
theorem dX5_dropArrow_34 : decode cX5_dropArrow 34 = .ok (.return_, 1) := by decide +kernel
theorem dX5_dropTask_0 : decode cX5_dropTask 0 = .ok (.aload_n 0, 1) := by decide +kernel
theorem dX5_dropTask_1 : decode cX5_dropTask 1 = .ok (.iload_n 1, 1) := by decide +kernel
theorem dX5_dropTask_2 : decode cX5_dropTask 2 = .ok (.invokevirtual 66, 3) := by decide +kernel
theorem dX5_dropTask_5 : decode cX5_dropTask 5 = .ok (.ifCond .ne 5, 3) := by decide +kernel
theorem dX5_dropTask_8 : decode cX5_dropTask 8 = .ok (.iconst 0, 1) := by decide +kernel
theorem dX5_dropTask_9 : decode cX5_dropTask 9 = .ok (.ireturn, 1) := by decide +kernel
theorem dX5_dropTask_10 : decode cX5_dropTask 10 = .ok (.aload_n 0, 1) := by decide +kernel
theorem dX5_dropTask_11 : decode cX5_dropTask 11 = .ok (.getfield 20, 3) := by decide +kernel
theorem dX5_dropTask_14 : decode cX5_dropTask 14 = .ok (.iload_n 1, 1) := by decide +kernel
theorem dX5_dropTask_15 : decode cX5_dropTask 15 = .ok (.invokevirtual 80, 3) := by decide +kernel
theorem dX5_dropTask_18 : decode cX5_dropTask 18 = .ok (.aload_n 0, 1) := by decide +kernel
theorem dX5_dropTask_19 : decode cX5_dropTask 19 = .ok (.getfield 23, 3) := by decide +kernel
theorem dX5_dropTask_22 : decode cX5_dropTask 22 = .ok (.iload_n 1, 1) := by decide +kernel
theorem dX5_dropTask_23 : decode cX5_dropTask 23 = .ok (.invokevirtual 80, 3) := by decide +kernel
theorem dX5_dropTask_26 : decode cX5_dropTask 26 = .ok (.aload_n 0, 1) := by decide +kernel
theorem dX5_dropTask_27 : decode cX5_dropTask 27 = .ok (.getfield 26, 3) := by decide +kernel
theorem dX5_dropTask_30 : decode cX5_dropTask 30 = .ok (.iload_n 1, 1) := by decide +kernel
theorem dX5_dropTask_31 : decode cX5_dropTask 31 = .ok (.invokevirtual 80, 3) := by decide +kernel
theorem dX5_dropTask_34 : decode cX5_dropTask 34 = .ok (.aload_n 0, 1) := by decide +kernel
theorem dX5_dropTask_35 : decode cX5_dropTask 35 = .ok (.dup, 1) := by decide +kernel
theorem dX5_dropTask_36 : decode cX5_dropTask 36 = .ok (.getfield 47, 3) := by decide +kernel
theorem dX5_dropTask_39 : decode cX5_dropTask 39 = .ok (.iconst 1, 1) := by decide +kernel
theorem dX5_dropTask_40 : decode cX5_dropTask 40 = .ok (.isub, 1) := by decide +kernel
theorem dX5_dropTask_41 : decode cX5_dropTask 41 = .ok (.putfield 47, 3) := by decide +kernel
theorem dX5_dropTask_44 : decode cX5_dropTask 44 = .ok (.aload_n 0, 1) := by decide +kernel
theorem dX5_dropTask_45 : decode cX5_dropTask 45 = .ok (.iload_n 1, 1) := by decide +kernel
theorem dX5_dropTask_46 : decode cX5_dropTask 46 = .ok (.invokevirtual 83, 3) := by decide +kernel
theorem dX5_dropTask_49 : decode cX5_dropTask 49 = .ok (.ireturn, 1) := by decide +kernel
theorem dX5_dropArrowsOf_0 : decode cX5_dropArrowsOf 0 = .ok (.iconst 0, 1) := by decide +kernel
theorem dX5_dropArrowsOf_1 : decode cX5_dropArrowsOf 1 = .ok (.istore_n 2, 1) := by decide +kernel
theorem dX5_dropArrowsOf_2 : decode cX5_dropArrowsOf 2 = .ok (.iconst 0, 1) := by decide +kernel
theorem dX5_dropArrowsOf_3 : decode cX5_dropArrowsOf 3 = .ok (.istore_n 3, 1) := by decide +kernel
theorem dX5_dropArrowsOf_4 : decode cX5_dropArrowsOf 4 = .ok (.iload_n 3, 1) := by decide +kernel
theorem dX5_dropArrowsOf_5 : decode cX5_dropArrowsOf 5 = .ok (.aload_n 0, 1) := by decide +kernel
theorem dX5_dropArrowsOf_6 : decode cX5_dropArrowsOf 6 = .ok (.getfield 51, 3) := by decide +kernel
theorem dX5_dropArrowsOf_9 : decode cX5_dropArrowsOf 9 = .ok (.if_icmp .ge 84, 3) := by decide +kernel
theorem dX5_dropArrowsOf_12 : decode cX5_dropArrowsOf 12 = .ok (.aload_n 0, 1) := by decide +kernel
theorem dX5_dropArrowsOf_13 : decode cX5_dropArrowsOf 13 = .ok (.iload_n 3, 1) := by decide +kernel
theorem dX5_dropArrowsOf_14 : decode cX5_dropArrowsOf 14 = .ok (.invokevirtual 60, 3) := by decide +kernel
theorem dX5_dropArrowsOf_17 : decode cX5_dropArrowsOf 17 = .ok (.istore 4, 2) := by decide +kernel
theorem dX5_dropArrowsOf_19 : decode cX5_dropArrowsOf 19 = .ok (.aload_n 0, 1) := by decide +kernel
theorem dX5_dropArrowsOf_20 : decode cX5_dropArrowsOf 20 = .ok (.iload_n 3, 1) := by decide +kernel
theorem dX5_dropArrowsOf_21 : decode cX5_dropArrowsOf 21 = .ok (.invokevirtual 54, 3) := by decide +kernel
theorem dX5_dropArrowsOf_24 : decode cX5_dropArrowsOf 24 = .ok (.istore 5, 2) := by decide +kernel
theorem dX5_dropArrowsOf_26 : decode cX5_dropArrowsOf 26 = .ok (.iload 4, 2) := by decide +kernel
theorem dX5_dropArrowsOf_28 : decode cX5_dropArrowsOf 28 = .ok (.iload_n 1, 1) := by decide +kernel
theorem dX5_dropArrowsOf_29 : decode cX5_dropArrowsOf 29 = .ok (.if_icmp .eq 58, 3) := by decide +kernel
theorem dX5_dropArrowsOf_32 : decode cX5_dropArrowsOf 32 = .ok (.iload 5, 2) := by decide +kernel
theorem dX5_dropArrowsOf_34 : decode cX5_dropArrowsOf 34 = .ok (.iload_n 1, 1) := by decide +kernel
theorem dX5_dropArrowsOf_35 : decode cX5_dropArrowsOf 35 = .ok (.if_icmp .eq 52, 3) := by decide +kernel
theorem dX5_dropArrowsOf_38 : decode cX5_dropArrowsOf 38 = .ok (.aload_n 0, 1) := by decide +kernel
theorem dX5_dropArrowsOf_39 : decode cX5_dropArrowsOf 39 = .ok (.getfield 29, 3) := by decide +kernel
theorem dX5_dropArrowsOf_42 : decode cX5_dropArrowsOf 42 = .ok (.iload_n 2, 1) := by decide +kernel
theorem dX5_dropArrowsOf_43 : decode cX5_dropArrowsOf 43 = .ok (.iload 4, 2) := by decide +kernel
theorem dX5_dropArrowsOf_45 : decode cX5_dropArrowsOf 45 = .ok (.iload_n 1, 1) := by decide +kernel
theorem dX5_dropArrowsOf_46 : decode cX5_dropArrowsOf 46 = .ok (.if_icmp .le 10, 3) := by decide +kernel
theorem dX5_dropArrowsOf_49 : decode cX5_dropArrowsOf 49 = .ok (.iload 4, 2) := by decide +kernel
theorem dX5_dropArrowsOf_51 : decode cX5_dropArrowsOf 51 = .ok (.iconst 1, 1) := by decide +kernel
theorem dX5_dropArrowsOf_52 : decode cX5_dropArrowsOf 52 = .ok (.isub, 1) := by decide +kernel
theorem dX5_dropArrowsOf_53 : decode cX5_dropArrowsOf 53 = .ok (.goto 5, 3) := by decide +kernel
theorem dX5_dropArrowsOf_56 : decode cX5_dropArrowsOf 56 = .ok (.iload 4, 2) := by decide +kernel
theorem dX5_dropArrowsOf_58 : decode cX5_dropArrowsOf 58 = .ok (.invokevirtual 39, 3) := by decide +kernel
theorem dX5_dropArrowsOf_61 : decode cX5_dropArrowsOf 61 = .ok (.aload_n 0, 1) := by decide +kernel
theorem dX5_dropArrowsOf_62 : decode cX5_dropArrowsOf 62 = .ok (.getfield 32, 3) := by decide +kernel
theorem dX5_dropArrowsOf_65 : decode cX5_dropArrowsOf 65 = .ok (.iload_n 2, 1) := by decide +kernel
theorem dX5_dropArrowsOf_66 : decode cX5_dropArrowsOf 66 = .ok (.iload 5, 2) := by decide +kernel
theorem dX5_dropArrowsOf_68 : decode cX5_dropArrowsOf 68 = .ok (.iload_n 1, 1) := by decide +kernel
theorem dX5_dropArrowsOf_69 : decode cX5_dropArrowsOf 69 = .ok (.if_icmp .le 10, 3) := by decide +kernel
theorem dX5_dropArrowsOf_72 : decode cX5_dropArrowsOf 72 = .ok (.iload 5, 2) := by decide +kernel
theorem dX5_dropArrowsOf_74 : decode cX5_dropArrowsOf 74 = .ok (.iconst 1, 1) := by decide +kernel
theorem dX5_dropArrowsOf_75 : decode cX5_dropArrowsOf 75 = .ok (.isub, 1) := by decide +kernel
theorem dX5_dropArrowsOf_76 : decode cX5_dropArrowsOf 76 = .ok (.goto 5, 3) := by decide +kernel
theorem dX5_dropArrowsOf_79 : decode cX5_dropArrowsOf 79 = .ok (.iload 5, 2) := by decide +kernel
theorem dX5_dropArrowsOf_81 : decode cX5_dropArrowsOf 81 = .ok (.invokevirtual 39, 3) := by decide +kernel
theorem dX5_dropArrowsOf_84 : decode cX5_dropArrowsOf 84 = .ok (.iinc 2 1, 3) := by decide +kernel
theorem dX5_dropArrowsOf_87 : decode cX5_dropArrowsOf 87 = .ok (.iinc 3 1, 3) := by decide +kernel
theorem dX5_dropArrowsOf_90 : decode cX5_dropArrowsOf 90 = .ok (.goto (-86), 3) := by decide +kernel
theorem dX5_dropArrowsOf_93 : decode cX5_dropArrowsOf 93 = .ok (.aload_n 0, 1) := by decide +kernel
theorem dX5_dropArrowsOf_94 : decode cX5_dropArrowsOf 94 = .ok (.getfield 51, 3) := by decide +kernel
theorem dX5_dropArrowsOf_97 : decode cX5_dropArrowsOf 97 = .ok (.iload_n 2, 1) := by decide +kernel
theorem dX5_dropArrowsOf_98 : decode cX5_dropArrowsOf 98 = .ok (.isub, 1) := by decide +kernel
theorem dX5_dropArrowsOf_99 : decode cX5_dropArrowsOf 99 = .ok (.istore_n 3, 1) := by decide +kernel
theorem dX5_dropArrowsOf_100 : decode cX5_dropArrowsOf 100 = .ok (.aload_n 0, 1) := by decide +kernel
theorem dX5_dropArrowsOf_101 : decode cX5_dropArrowsOf 101 = .ok (.iload_n 2, 1) := by decide +kernel
theorem dX5_dropArrowsOf_102 : decode cX5_dropArrowsOf 102 = .ok (.putfield 51, 3) := by decide +kernel
theorem dX5_dropArrowsOf_105 : decode cX5_dropArrowsOf 105 = .ok (.iload_n 3, 1) := by decide +kernel
theorem dX5_dropArrowsOf_106 : decode cX5_dropArrowsOf 106 = .ok (.ireturn, 1) := by decide +kernel
theorem dX5_forgetTasksAndArrows_0 : decode cX5_forgetTasksAndArrows 0 = .ok (.aload_n 0, 1) := by decide +kernel
theorem dX5_forgetTasksAndArrows_1 : decode cX5_forgetTasksAndArrows 1 = .ok (.iconst 0, 1) := by decide +kernel
theorem dX5_forgetTasksAndArrows_2 : decode cX5_forgetTasksAndArrows 2 = .ok (.putfield 47, 3) := by decide +kernel
theorem dX5_forgetTasksAndArrows_5 : decode cX5_forgetTasksAndArrows 5 = .ok (.aload_n 0, 1) := by decide +kernel
theorem dX5_forgetTasksAndArrows_6 : decode cX5_forgetTasksAndArrows 6 = .ok (.iconst 0, 1) := by decide +kernel
theorem dX5_forgetTasksAndArrows_7 : decode cX5_forgetTasksAndArrows 7 = .ok (.putfield 51, 3) := by decide +kernel
theorem dX5_forgetTasksAndArrows_10 : decode cX5_forgetTasksAndArrows 10 = .ok (.return_, 1) := by decide +kernel
theorem dX5_copyTasksAndArrows_0 : decode cX5_copyTasksAndArrows 0 = .ok (.aload_n 0, 1) := by decide +kernel
theorem dX5_copyTasksAndArrows_1 : decode cX5_copyTasksAndArrows 1 = .ok (.getfield 20, 3) := by decide +kernel
theorem dX5_copyTasksAndArrows_4 : decode cX5_copyTasksAndArrows 4 = .ok (.aload_n 1, 1) := by decide +kernel
theorem dX5_copyTasksAndArrows_5 : decode cX5_copyTasksAndArrows 5 = .ok (.getfield 20, 3) := by decide +kernel
theorem dX5_copyTasksAndArrows_8 : decode cX5_copyTasksAndArrows 8 = .ok (.invokevirtual 86, 3) := by decide +kernel
theorem dX5_copyTasksAndArrows_11 : decode cX5_copyTasksAndArrows 11 = .ok (.aload_n 0, 1) := by decide +kernel
theorem dX5_copyTasksAndArrows_12 : decode cX5_copyTasksAndArrows 12 = .ok (.getfield 23, 3) := by decide +kernel
theorem dX5_copyTasksAndArrows_15 : decode cX5_copyTasksAndArrows 15 = .ok (.aload_n 1, 1) := by decide +kernel
theorem dX5_copyTasksAndArrows_16 : decode cX5_copyTasksAndArrows 16 = .ok (.getfield 23, 3) := by decide +kernel
theorem dX5_copyTasksAndArrows_19 : decode cX5_copyTasksAndArrows 19 = .ok (.invokevirtual 86, 3) := by decide +kernel
theorem dX5_copyTasksAndArrows_22 : decode cX5_copyTasksAndArrows 22 = .ok (.aload_n 0, 1) := by decide +kernel
theorem dX5_copyTasksAndArrows_23 : decode cX5_copyTasksAndArrows 23 = .ok (.getfield 26, 3) := by decide +kernel
theorem dX5_copyTasksAndArrows_26 : decode cX5_copyTasksAndArrows 26 = .ok (.aload_n 1, 1) := by decide +kernel
theorem dX5_copyTasksAndArrows_27 : decode cX5_copyTasksAndArrows 27 = .ok (.getfield 26, 3) := by decide +kernel
theorem dX5_copyTasksAndArrows_30 : decode cX5_copyTasksAndArrows 30 = .ok (.invokevirtual 86, 3) := by decide +kernel
theorem dX5_copyTasksAndArrows_33 : decode cX5_copyTasksAndArrows 33 = .ok (.aload_n 0, 1) := by decide +kernel
theorem dX5_copyTasksAndArrows_34 : decode cX5_copyTasksAndArrows 34 = .ok (.getfield 29, 3) := by decide +kernel
theorem dX5_copyTasksAndArrows_37 : decode cX5_copyTasksAndArrows 37 = .ok (.aload_n 1, 1) := by decide +kernel
theorem dX5_copyTasksAndArrows_38 : decode cX5_copyTasksAndArrows 38 = .ok (.getfield 29, 3) := by decide +kernel
theorem dX5_copyTasksAndArrows_41 : decode cX5_copyTasksAndArrows 41 = .ok (.invokevirtual 86, 3) := by decide +kernel
theorem dX5_copyTasksAndArrows_44 : decode cX5_copyTasksAndArrows 44 = .ok (.aload_n 0, 1) := by decide +kernel
theorem dX5_copyTasksAndArrows_45 : decode cX5_copyTasksAndArrows 45 = .ok (.getfield 32, 3) := by decide +kernel
theorem dX5_copyTasksAndArrows_48 : decode cX5_copyTasksAndArrows 48 = .ok (.aload_n 1, 1) := by decide +kernel
theorem dX5_copyTasksAndArrows_49 : decode cX5_copyTasksAndArrows 49 = .ok (.getfield 32, 3) := by decide +kernel
theorem dX5_copyTasksAndArrows_52 : decode cX5_copyTasksAndArrows 52 = .ok (.invokevirtual 86, 3) := by decide +kernel
theorem dX5_copyTasksAndArrows_55 : decode cX5_copyTasksAndArrows 55 = .ok (.aload_n 0, 1) := by decide +kernel
theorem dX5_copyTasksAndArrows_56 : decode cX5_copyTasksAndArrows 56 = .ok (.aload_n 1, 1) := by decide +kernel
theorem dX5_copyTasksAndArrows_57 : decode cX5_copyTasksAndArrows 57 = .ok (.getfield 47, 3) := by decide +kernel
theorem dX5_copyTasksAndArrows_60 : decode cX5_copyTasksAndArrows 60 = .ok (.putfield 47, 3) := by decide +kernel
theorem dX5_copyTasksAndArrows_63 : decode cX5_copyTasksAndArrows 63 = .ok (.aload_n 0, 1) := by decide +kernel
theorem dX5_copyTasksAndArrows_64 : decode cX5_copyTasksAndArrows 64 = .ok (.aload_n 1, 1) := by decide +kernel
theorem dX5_copyTasksAndArrows_65 : decode cX5_copyTasksAndArrows 65 = .ok (.getfield 51, 3) := by decide +kernel
theorem dX5_copyTasksAndArrows_68 : decode cX5_copyTasksAndArrows 68 = .ok (.putfield 51, 3) := by decide +kernel
theorem dX5_copyTasksAndArrows_71 : decode cX5_copyTasksAndArrows 71 = .ok (.return_, 1) := by decide +kernel
theorem dX5_copyAll_0 : decode cX5_copyAll 0 = .ok (.aload_n 0, 1) := by decide +kernel
theorem dX5_copyAll_1 : decode cX5_copyAll 1 = .ok (.getfield 14, 3) := by decide +kernel
theorem dX5_copyAll_4 : decode cX5_copyAll 4 = .ok (.aload_n 1, 1) := by decide +kernel
theorem dX5_copyAll_5 : decode cX5_copyAll 5 = .ok (.getfield 14, 3) := by decide +kernel
theorem dX5_copyAll_8 : decode cX5_copyAll 8 = .ok (.invokevirtual 86, 3) := by decide +kernel
theorem dX5_copyAll_11 : decode cX5_copyAll 11 = .ok (.aload_n 0, 1) := by decide +kernel
theorem dX5_copyAll_12 : decode cX5_copyAll 12 = .ok (.aload_n 1, 1) := by decide +kernel
theorem dX5_copyAll_13 : decode cX5_copyAll 13 = .ok (.invokevirtual 90, 3) := by decide +kernel
theorem dX5_copyAll_16 : decode cX5_copyAll 16 = .ok (.return_, 1) := by decide +kernel
theorem dX6_init_0 : decode cX6_init 0 = .ok (.aload_n 0, 1) := by decide +kernel
theorem dX6_init_1 : decode cX6_init 1 = .ok (.invokespecial 3, 3) := by decide +kernel
theorem dX6_init_4 : decode cX6_init 4 = .ok (.aload_n 0, 1) := by decide +kernel
theorem dX6_init_5 : decode cX6_init 5 = .ok (.new 9, 3) := by decide +kernel
theorem dX6_init_8 : decode cX6_init 8 = .ok (.dup, 1) := by decide +kernel
theorem dX6_init_9 : decode cX6_init 9 = .ok (.sipush 1248, 3) := by decide +kernel
theorem dX6_init_12 : decode cX6_init 12 = .ok (.invokespecial 11, 3) := by decide +kernel
theorem dX6_init_15 : decode cX6_init 15 = .ok (.putfield 14, 3) := by decide +kernel
theorem dX6_init_18 : decode cX6_init 18 = .ok (.aload_n 0, 1) := by decide +kernel
theorem dX6_init_19 : decode cX6_init 19 = .ok (.new 9, 3) := by decide +kernel
theorem dX6_init_22 : decode cX6_init 22 = .ok (.dup, 1) := by decide +kernel
theorem dX6_init_23 : decode cX6_init 23 = .ok (.sipush 1248, 3) := by decide +kernel
theorem dX6_init_26 : decode cX6_init 26 = .ok (.invokespecial 11, 3) := by decide +kernel
theorem dX6_init_29 : decode cX6_init 29 = .ok (.putfield 20, 3) := by decide +kernel
theorem dX6_init_32 : decode cX6_init 32 = .ok (.aload_n 0, 1) := by decide +kernel
theorem dX6_init_33 : decode cX6_init 33 = .ok (.new 9, 3) := by decide +kernel
theorem dX6_init_36 : decode cX6_init 36 = .ok (.dup, 1) := by decide +kernel
theorem dX6_init_37 : decode cX6_init 37 = .ok (.sipush 312, 3) := by decide +kernel
theorem dX6_init_40 : decode cX6_init 40 = .ok (.invokespecial 11, 3) := by decide +kernel
theorem dX6_init_43 : decode cX6_init 43 = .ok (.putfield 23, 3) := by decide +kernel
theorem dX6_init_46 : decode cX6_init 46 = .ok (.aload_n 0, 1) := by decide +kernel
theorem dX6_init_47 : decode cX6_init 47 = .ok (.new 9, 3) := by decide +kernel
theorem dX6_init_50 : decode cX6_init 50 = .ok (.dup, 1) := by decide +kernel
theorem dX6_init_51 : decode cX6_init 51 = .ok (.sipush 312, 3) := by decide +kernel
theorem dX6_init_54 : decode cX6_init 54 = .ok (.invokespecial 11, 3) := by decide +kernel
theorem dX6_init_57 : decode cX6_init 57 = .ok (.putfield 26, 3) := by decide +kernel
theorem dX6_init_60 : decode cX6_init 60 = .ok (.return_, 1) := by decide +kernel
theorem dX6_count_0 : decode cX6_count 0 = .ok (.aload_n 0, 1) := by decide +kernel
theorem dX6_count_1 : decode cX6_count 1 = .ok (.getfield 29, 3) := by decide +kernel
theorem dX6_count_4 : decode cX6_count 4 = .ok (.ireturn, 1) := by decide +kernel
theorem dX6_bandOf_0 : decode cX6_bandOf 0 = .ok (.aload_n 0, 1) := by decide +kernel
theorem dX6_bandOf_1 : decode cX6_bandOf 1 = .ok (.getfield 23, 3) := by decide +kernel
theorem dX6_bandOf_4 : decode cX6_bandOf 4 = .ok (.iload_n 1, 1) := by decide +kernel
theorem dX6_bandOf_5 : decode cX6_bandOf 5 = .ok (.invokevirtual 33, 3) := by decide +kernel
theorem dX6_bandOf_8 : decode cX6_bandOf 8 = .ok (.ireturn, 1) := by decide +kernel
theorem dX6_stripOf_0 : decode cX6_stripOf 0 = .ok (.aload_n 0, 1) := by decide +kernel
theorem dX6_stripOf_1 : decode cX6_stripOf 1 = .ok (.getfield 26, 3) := by decide +kernel
theorem dX6_stripOf_4 : decode cX6_stripOf 4 = .ok (.iload_n 1, 1) := by decide +kernel
theorem dX6_stripOf_5 : decode cX6_stripOf 5 = .ok (.invokevirtual 33, 3) := by decide +kernel
theorem dX6_stripOf_8 : decode cX6_stripOf 8 = .ok (.ireturn, 1) := by decide +kernel
theorem dX6_partsOn_0 : decode cX6_partsOn 0 = .ok (.aload_n 0, 1) := by decide +kernel
theorem dX6_partsOn_1 : decode cX6_partsOn 1 = .ok (.getfield 14, 3) := by decide +kernel
theorem dX6_partsOn_4 : decode cX6_partsOn 4 = .ok (.aload_n 0, 1) := by decide +kernel
theorem dX6_partsOn_5 : decode cX6_partsOn 5 = .ok (.iload_n 1, 1) := by decide +kernel
theorem dX6_partsOn_6 : decode cX6_partsOn 6 = .ok (.invokevirtual 37, 3) := by decide +kernel
theorem dX6_partsOn_9 : decode cX6_partsOn 9 = .ok (.aload_n 0, 1) := by decide +kernel
theorem dX6_partsOn_10 : decode cX6_partsOn 10 = .ok (.iload_n 1, 1) := by decide +kernel
theorem dX6_partsOn_11 : decode cX6_partsOn 11 = .ok (.invokevirtual 40, 3) := by decide +kernel
theorem dX6_partsOn_14 : decode cX6_partsOn 14 = .ok (.invokestatic 43, 3) := by decide +kernel
theorem dX6_partsOn_17 : decode cX6_partsOn 17 = .ok (.invokevirtual 33, 3) := by decide +kernel
theorem dX6_partsOn_20 : decode cX6_partsOn 20 = .ok (.ireturn, 1) := by decide +kernel
theorem dX6_numberAt_0 : decode cX6_numberAt 0 = .ok (.aload_n 0, 1) := by decide +kernel
theorem dX6_numberAt_1 : decode cX6_numberAt 1 = .ok (.getfield 20, 3) := by decide +kernel
theorem dX6_numberAt_4 : decode cX6_numberAt 4 = .ok (.iload_n 1, 1) := by decide +kernel
theorem dX6_numberAt_5 : decode cX6_numberAt 5 = .ok (.iload_n 2, 1) := by decide +kernel
theorem dX6_numberAt_6 : decode cX6_numberAt 6 = .ok (.invokestatic 43, 3) := by decide +kernel
theorem dX6_numberAt_9 : decode cX6_numberAt 9 = .ok (.invokevirtual 33, 3) := by decide +kernel
theorem dX6_numberAt_12 : decode cX6_numberAt 12 = .ok (.ireturn, 1) := by decide +kernel
theorem dX6_spot_0 : decode cX6_spot 0 = .ok (.iload_n 0, 1) := by decide +kernel
theorem dX6_spot_1 : decode cX6_spot 1 = .ok (.ifCond .lt 23, 3) := by decide +kernel
theorem dX6_spot_4 : decode cX6_spot 4 = .ok (.iload_n 0, 1) := by decide +kernel
theorem dX6_spot_5 : decode cX6_spot 5 = .ok (.bipush 24, 2) := by decide +kernel
theorem dX6_spot_7 : decode cX6_spot 7 = .ok (.if_icmp .ge 17, 3) := by decide +kernel
theorem dX6_spot_10 : decode cX6_spot 10 = .ok (.iload_n 1, 1) := by decide +kernel
theorem dX6_spot_11 : decode cX6_spot 11 = .ok (.ifCond .lt 13, 3) := by decide +kernel
theorem dX6_spot_14 : decode cX6_spot 14 = .ok (.iload_n 1, 1) := by decide +kernel
theorem dX6_spot_15 : decode cX6_spot 15 = .ok (.bipush 52, 2) := by decide +kernel
theorem dX6_spot_17 : decode cX6_spot 17 = .ok (.if_icmp .ge 7, 3) := by decide +kernel
theorem dX6_spot_20 : decode cX6_spot 20 = .ok (.iconst 1, 1) := by decide +kernel
theorem dX6_spot_21 : decode cX6_spot 21 = .ok (.goto 4, 3) := by decide +kernel
theorem dX6_spot_24 : decode cX6_spot 24 = .ok (.iconst 0, 1) := by decide +kernel
theorem dX6_spot_25 : decode cX6_spot 25 = .ok (.istore_n 2, 1) := by decide +kernel
theorem dX6_spot_26 : decode cX6_spot 26 = .ok (.iload_n 2, 1) := by decide +kernel
theorem dX6_spot_27 : decode cX6_spot 27 = .ok (.ifCond .eq 12, 3) := by decide +kernel
theorem dX6_spot_30 : decode cX6_spot 30 = .ok (.iload_n 0, 1) := by decide +kernel
theorem dX6_spot_31 : decode cX6_spot 31 = .ok (.bipush 52, 2) := by decide +kernel
theorem dX6_spot_33 : decode cX6_spot 33 = .ok (.imul, 1) := by decide +kernel
theorem dX6_spot_34 : decode cX6_spot 34 = .ok (.iload_n 1, 1) := by decide +kernel
theorem dX6_spot_35 : decode cX6_spot 35 = .ok (.iadd, 1) := by decide +kernel
theorem dX6_spot_36 : decode cX6_spot 36 = .ok (.goto 4, 3) := by decide +kernel
theorem dX6_spot_39 : decode cX6_spot 39 = .ok (.iconst (-1), 1) := by decide +kernel
theorem dX6_spot_40 : decode cX6_spot 40 = .ok (.ireturn, 1) := by decide +kernel
theorem dX6_print_0 : decode cX6_print 0 = .ok (.aload_n 0, 1) := by decide +kernel
theorem dX6_print_1 : decode cX6_print 1 = .ok (.getfield 14, 3) := by decide +kernel
theorem dX6_print_4 : decode cX6_print 4 = .ok (.iconst 0, 1) := by decide +kernel
theorem dX6_print_5 : decode cX6_print 5 = .ok (.aload_n 2, 1) := by decide +kernel
theorem dX6_print_6 : decode cX6_print 6 = .ok (.invokevirtual 47, 3) := by decide +kernel
theorem dX6_print_9 : decode cX6_print 9 = .ok (.bipush 52, 2) := by decide +kernel
theorem dX6_print_11 : decode cX6_print 11 = .ok (.imul, 1) := by decide +kernel
theorem dX6_print_12 : decode cX6_print 12 = .ok (.iconst 0, 1) := by decide +kernel
theorem dX6_print_13 : decode cX6_print 13 = .ok (.invokevirtual 52, 3) := by decide +kernel
theorem dX6_print_16 : decode cX6_print 16 = .ok (.aload_n 0, 1) := by decide +kernel
theorem dX6_print_17 : decode cX6_print 17 = .ok (.getfield 20, 3) := by decide +kernel
theorem dX6_print_20 : decode cX6_print 20 = .ok (.iconst 0, 1) := by decide +kernel
theorem dX6_print_21 : decode cX6_print 21 = .ok (.aload_n 2, 1) := by decide +kernel
theorem dX6_print_22 : decode cX6_print 22 = .ok (.invokevirtual 47, 3) := by decide +kernel
theorem dX6_print_25 : decode cX6_print 25 = .ok (.bipush 52, 2) := by decide +kernel
theorem dX6_print_27 : decode cX6_print 27 = .ok (.imul, 1) := by decide +kernel
theorem dX6_print_28 : decode cX6_print 28 = .ok (.iconst (-1), 1) := by decide +kernel
theorem dX6_print_29 : decode cX6_print 29 = .ok (.invokevirtual 52, 3) := by decide +kernel
theorem dX6_print_32 : decode cX6_print 32 = .ok (.iconst 0, 1) := by decide +kernel
theorem dX6_print_33 : decode cX6_print 33 = .ok (.istore 4, 2) := by decide +kernel
theorem dX6_print_35 : decode cX6_print 35 = .ok (.iload 4, 2) := by decide +kernel
theorem dX6_print_37 : decode cX6_print 37 = .ok (.aload_n 1, 1) := by decide +kernel
theorem dX6_print_38 : decode cX6_print 38 = .ok (.invokevirtual 56, 3) := by decide +kernel
theorem dX6_print_41 : decode cX6_print 41 = .ok (.if_icmp .ge 64, 3) := by decide +kernel
theorem dX6_print_44 : decode cX6_print 44 = .ok (.aload_n 1, 1) := by decide +kernel
theorem dX6_print_45 : decode cX6_print 45 = .ok (.iload 4, 2) := by decide +kernel
theorem dX6_print_47 : decode cX6_print 47 = .ok (.invokevirtual 61, 3) := by decide +kernel
theorem dX6_print_50 : decode cX6_print 50 = .ok (.iload_n 3, 1) := by decide +kernel
theorem dX6_print_51 : decode cX6_print 51 = .ok (.invokestatic 64, 3) := by decide +kernel
theorem dX6_print_54 : decode cX6_print 54 = .ok (.istore 5, 2) := by decide +kernel
theorem dX6_print_56 : decode cX6_print 56 = .ok (.aload_n 1, 1) := by decide +kernel
theorem dX6_print_57 : decode cX6_print 57 = .ok (.iload 4, 2) := by decide +kernel
theorem dX6_print_59 : decode cX6_print 59 = .ok (.invokevirtual 67, 3) := by decide +kernel
theorem dX6_print_62 : decode cX6_print 62 = .ok (.iload_n 3, 1) := by decide +kernel
theorem dX6_print_63 : decode cX6_print 63 = .ok (.invokestatic 64, 3) := by decide +kernel
theorem dX6_print_66 : decode cX6_print 66 = .ok (.istore 6, 2) := by decide +kernel
theorem dX6_print_68 : decode cX6_print 68 = .ok (.iload 6, 2) := by decide +kernel
theorem dX6_print_70 : decode cX6_print 70 = .ok (.iload 5, 2) := by decide +kernel
theorem dX6_print_72 : decode cX6_print 72 = .ok (.if_icmp .gt 27, 3) := by decide +kernel
theorem dX6_print_75 : decode cX6_print 75 = .ok (.aload_n 0, 1) := by decide +kernel
theorem dX6_print_76 : decode cX6_print 76 = .ok (.getfield 14, 3) := by decide +kernel
theorem dX6_print_79 : decode cX6_print 79 = .ok (.aload_n 2, 1) := by decide +kernel
theorem dX6_print_80 : decode cX6_print 80 = .ok (.iload 4, 2) := by decide +kernel
theorem dX6_print_82 : decode cX6_print 82 = .ok (.invokevirtual 70, 3) := by decide +kernel
theorem dX6_print_85 : decode cX6_print 85 = .ok (.iload 6, 2) := by decide +kernel
theorem dX6_print_87 : decode cX6_print 87 = .ok (.invokestatic 43, 3) := by decide +kernel
theorem dX6_print_90 : decode cX6_print 90 = .ok (.invokevirtual 71, 3) := by decide +kernel
theorem dX6_print_93 : decode cX6_print 93 = .ok (.iinc 6 1, 3) := by decide +kernel
theorem dX6_print_96 : decode cX6_print 96 = .ok (.goto (-28), 3) := by decide +kernel
theorem dX6_print_99 : decode cX6_print 99 = .ok (.iinc 4 1, 3) := by decide +kernel
theorem dX6_print_102 : decode cX6_print 102 = .ok (.goto (-67), 3) := by decide +kernel
theorem dX6_print_105 : decode cX6_print 105 = .ok (.aload_n 0, 1) := by decide +kernel
theorem dX6_print_106 : decode cX6_print 106 = .ok (.iconst 0, 1) := by decide +kernel
theorem dX6_print_107 : decode cX6_print 107 = .ok (.putfield 29, 3) := by decide +kernel
theorem dX6_print_110 : decode cX6_print 110 = .ok (.sipush 258, 3) := by decide +kernel
theorem dX6_print_113 : decode cX6_print 113 = .ok (.iload_n 3, 1) := by decide +kernel
theorem dX6_print_114 : decode cX6_print 114 = .ok (.invokestatic 64, 3) := by decide +kernel
theorem dX6_print_117 : decode cX6_print 117 = .ok (.iconst 1, 1) := by decide +kernel
theorem dX6_print_118 : decode cX6_print 118 = .ok (.iadd, 1) := by decide +kernel
theorem dX6_print_119 : decode cX6_print 119 = .ok (.istore 4, 2) := by decide +kernel
theorem dX6_print_121 : decode cX6_print 121 = .ok (.aload_n 1, 1) := by decide +kernel
theorem dX6_print_122 : decode cX6_print 122 = .ok (.iconst 3, 1) := by decide +kernel
theorem dX6_print_123 : decode cX6_print 123 = .ok (.invokevirtual 74, 3) := by decide +kernel
theorem dX6_print_126 : decode cX6_print 126 = .ok (.ifCond .ne 16, 3) := by decide +kernel
theorem dX6_print_129 : decode cX6_print 129 = .ok (.aload_n 0, 1) := by decide +kernel
theorem dX6_print_130 : decode cX6_print 130 = .ok (.aload_n 2, 1) := by decide +kernel
theorem dX6_print_131 : decode cX6_print 131 = .ok (.invokevirtual 47, 3) := by decide +kernel
theorem dX6_print_134 : decode cX6_print 134 = .ok (.iload 4, 2) := by decide +kernel
theorem dX6_print_136 : decode cX6_print 136 = .ok (.invokevirtual 77, 3) := by decide +kernel
theorem dX6_print_139 : decode cX6_print 139 = .ok (.goto 13, 3) := by decide +kernel
theorem dX6_print_142 : decode cX6_print 142 = .ok (.aload_n 0, 1) := by decide +kernel
theorem dX6_print_143 : decode cX6_print 143 = .ok (.aload_n 2, 1) := by decide +kernel
theorem dX6_print_144 : decode cX6_print 144 = .ok (.invokevirtual 47, 3) := by decide +kernel
theorem dX6_print_147 : decode cX6_print 147 = .ok (.iload 4, 2) := by decide +kernel
theorem dX6_print_149 : decode cX6_print 149 = .ok (.invokevirtual 81, 3) := by decide +kernel
theorem dX6_print_152 : decode cX6_print 152 = .ok (.return_, 1) := by decide +kernel
theorem dX6_numberByBands_0 : decode cX6_numberByBands 0 = .ok (.iconst 0, 1) := by decide +kernel
theorem dX6_numberByBands_1 : decode cX6_numberByBands 1 = .ok (.istore_n 3, 1) := by decide +kernel
theorem dX6_numberByBands_2 : decode cX6_numberByBands 2 = .ok (.iload_n 3, 1) := by decide +kernel
theorem dX6_numberByBands_3 : decode cX6_numberByBands 3 = .ok (.iload_n 1, 1) := by decide +kernel
theorem dX6_numberByBands_4 : decode cX6_numberByBands 4 = .ok (.if_icmp .ge 31, 3) := by decide +kernel
theorem dX6_numberByBands_7 : decode cX6_numberByBands 7 = .ok (.iconst 0, 1) := by decide +kernel
theorem dX6_numberByBands_8 : decode cX6_numberByBands 8 = .ok (.istore 4, 2) := by decide +kernel
theorem dX6_numberByBands_10 : decode cX6_numberByBands 10 = .ok (.iload 4, 2) := by decide +kernel
theorem dX6_numberByBands_12 : decode cX6_numberByBands 12 = .ok (.iload_n 2, 1) := by decide +kernel
theorem dX6_numberByBands_13 : decode cX6_numberByBands 13 = .ok (.if_icmp .ge 16, 3) := by decide +kernel
theorem dX6_numberByBands_16 : decode cX6_numberByBands 16 = .ok (.aload_n 0, 1) := by decide +kernel
theorem dX6_numberByBands_17 : decode cX6_numberByBands 17 = .ok (.iload_n 3, 1) := by decide +kernel
theorem dX6_numberByBands_18 : decode cX6_numberByBands 18 = .ok (.iload 4, 2) := by decide +kernel
theorem dX6_numberByBands_20 : decode cX6_numberByBands 20 = .ok (.invokevirtual 84, 3) := by decide +kernel
theorem dX6_numberByBands_23 : decode cX6_numberByBands 23 = .ok (.iinc 4 1, 3) := by decide +kernel
theorem dX6_numberByBands_26 : decode cX6_numberByBands 26 = .ok (.goto (-16), 3) := by decide +kernel
theorem dX6_numberByBands_29 : decode cX6_numberByBands 29 = .ok (.iinc 3 1, 3) := by decide +kernel
theorem dX6_numberByBands_32 : decode cX6_numberByBands 32 = .ok (.goto (-30), 3) := by decide +kernel
theorem dX6_numberByBands_35 : decode cX6_numberByBands 35 = .ok (.return_, 1) := by decide +kernel
theorem dX6_numberByStrips_0 : decode cX6_numberByStrips 0 = .ok (.iconst 0, 1) := by decide +kernel
theorem dX6_numberByStrips_1 : decode cX6_numberByStrips 1 = .ok (.istore_n 3, 1) := by decide +kernel
theorem dX6_numberByStrips_2 : decode cX6_numberByStrips 2 = .ok (.iload_n 3, 1) := by decide +kernel
theorem dX6_numberByStrips_3 : decode cX6_numberByStrips 3 = .ok (.iload_n 2, 1) := by decide +kernel
theorem dX6_numberByStrips_4 : decode cX6_numberByStrips 4 = .ok (.if_icmp .ge 31, 3) := by decide +kernel
theorem dX6_numberByStrips_7 : decode cX6_numberByStrips 7 = .ok (.iconst 0, 1) := by decide +kernel
theorem dX6_numberByStrips_8 : decode cX6_numberByStrips 8 = .ok (.istore 4, 2) := by decide +kernel
theorem dX6_numberByStrips_10 : decode cX6_numberByStrips 10 = .ok (.iload 4, 2) := by decide +kernel
theorem dX6_numberByStrips_12 : decode cX6_numberByStrips 12 = .ok (.iload_n 1, 1) := by decide +kernel
theorem dX6_numberByStrips_13 : decode cX6_numberByStrips 13 = .ok (.if_icmp .ge 16, 3) := by decide +kernel
theorem dX6_numberByStrips_16 : decode cX6_numberByStrips 16 = .ok (.aload_n 0, 1) := by decide +kernel
theorem dX6_numberByStrips_17 : decode cX6_numberByStrips 17 = .ok (.iload 4, 2) := by decide +kernel
theorem dX6_numberByStrips_19 : decode cX6_numberByStrips 19 = .ok (.iload_n 3, 1) := by decide +kernel
theorem dX6_numberByStrips_20 : decode cX6_numberByStrips 20 = .ok (.invokevirtual 84, 3) := by decide +kernel
theorem dX6_numberByStrips_23 : decode cX6_numberByStrips 23 = .ok (.iinc 4 1, 3) := by decide +kernel
theorem dX6_numberByStrips_26 : decode cX6_numberByStrips 26 = .ok (.goto (-16), 3) := by decide +kernel
theorem dX6_numberByStrips_29 : decode cX6_numberByStrips 29 = .ok (.iinc 3 1, 3) := by decide +kernel
theorem dX6_numberByStrips_32 : decode cX6_numberByStrips 32 = .ok (.goto (-30), 3) := by decide +kernel
theorem dX6_numberByStrips_35 : decode cX6_numberByStrips 35 = .ok (.return_, 1) := by decide +kernel
theorem dX6_number_0 : decode cX6_number 0 = .ok (.iload_n 1, 1) := by decide +kernel
theorem dX6_number_1 : decode cX6_number 1 = .ok (.iload_n 2, 1) := by decide +kernel
theorem dX6_number_2 : decode cX6_number 2 = .ok (.invokestatic 43, 3) := by decide +kernel
theorem dX6_number_5 : decode cX6_number 5 = .ok (.istore_n 3, 1) := by decide +kernel
theorem dX6_number_6 : decode cX6_number 6 = .ok (.aload_n 0, 1) := by decide +kernel
theorem dX6_number_7 : decode cX6_number 7 = .ok (.getfield 14, 3) := by decide +kernel
theorem dX6_number_10 : decode cX6_number 10 = .ok (.iload_n 3, 1) := by decide +kernel
theorem dX6_number_11 : decode cX6_number 11 = .ok (.invokevirtual 33, 3) := by decide +kernel
theorem dX6_number_14 : decode cX6_number 14 = .ok (.ifCond .le 49, 3) := by decide +kernel
theorem dX6_number_17 : decode cX6_number 17 = .ok (.aload_n 0, 1) := by decide +kernel
theorem dX6_number_18 : decode cX6_number 18 = .ok (.getfield 20, 3) := by decide +kernel
theorem dX6_number_21 : decode cX6_number 21 = .ok (.iload_n 3, 1) := by decide +kernel
theorem dX6_number_22 : decode cX6_number 22 = .ok (.aload_n 0, 1) := by decide +kernel
theorem dX6_number_23 : decode cX6_number 23 = .ok (.getfield 29, 3) := by decide +kernel
theorem dX6_number_26 : decode cX6_number 26 = .ok (.invokevirtual 87, 3) := by decide +kernel
theorem dX6_number_29 : decode cX6_number 29 = .ok (.aload_n 0, 1) := by decide +kernel
theorem dX6_number_30 : decode cX6_number 30 = .ok (.getfield 23, 3) := by decide +kernel
theorem dX6_number_33 : decode cX6_number 33 = .ok (.aload_n 0, 1) := by decide +kernel
theorem dX6_number_34 : decode cX6_number 34 = .ok (.getfield 29, 3) := by decide +kernel
theorem dX6_number_37 : decode cX6_number 37 = .ok (.iload_n 1, 1) := by decide +kernel
theorem dX6_number_38 : decode cX6_number 38 = .ok (.invokevirtual 87, 3) := by decide +kernel
theorem dX6_number_41 : decode cX6_number 41 = .ok (.aload_n 0, 1) := by decide +kernel
theorem dX6_number_42 : decode cX6_number 42 = .ok (.getfield 26, 3) := by decide +kernel
theorem dX6_number_45 : decode cX6_number 45 = .ok (.aload_n 0, 1) := by decide +kernel
theorem dX6_number_46 : decode cX6_number 46 = .ok (.getfield 29, 3) := by decide +kernel
theorem dX6_number_49 : decode cX6_number 49 = .ok (.iload_n 2, 1) := by decide +kernel
theorem dX6_number_50 : decode cX6_number 50 = .ok (.invokevirtual 87, 3) := by decide +kernel
theorem dX6_number_53 : decode cX6_number 53 = .ok (.aload_n 0, 1) := by decide +kernel
theorem dX6_number_54 : decode cX6_number 54 = .ok (.dup, 1) := by decide +kernel
theorem dX6_number_55 : decode cX6_number 55 = .ok (.getfield 29, 3) := by decide +kernel
theorem dX6_number_58 : decode cX6_number 58 = .ok (.iconst 1, 1) := by decide +kernel
theorem dX6_number_59 : decode cX6_number 59 = .ok (.iadd, 1) := by decide +kernel
theorem dX6_number_60 : decode cX6_number 60 = .ok (.putfield 29, 3) := by decide +kernel
theorem dX6_number_63 : decode cX6_number 63 = .ok (.return_, 1) := by decide +kernel
theorem dX7_init_0 : decode cX7_init 0 = .ok (.aload_n 0, 1) := by decide +kernel
theorem dX7_init_1 : decode cX7_init 1 = .ok (.invokespecial 3, 3) := by decide +kernel
theorem dX7_init_4 : decode cX7_init 4 = .ok (.aload_n 0, 1) := by decide +kernel
theorem dX7_init_5 : decode cX7_init 5 = .ok (.new 9, 3) := by decide +kernel
theorem dX7_init_8 : decode cX7_init 8 = .ok (.dup, 1) := by decide +kernel
theorem dX7_init_9 : decode cX7_init 9 = .ok (.sipush 150, 3) := by decide +kernel
theorem dX7_init_12 : decode cX7_init 12 = .ok (.invokespecial 11, 3) := by decide +kernel
theorem dX7_init_15 : decode cX7_init 15 = .ok (.putfield 14, 3) := by decide +kernel
theorem dX7_init_18 : decode cX7_init 18 = .ok (.return_, 1) := by decide +kernel
theorem dX7_length_0 : decode cX7_length 0 = .ok (.aload_n 0, 1) := by decide +kernel
theorem dX7_length_1 : decode cX7_length 1 = .ok (.getfield 20, 3) := by decide +kernel
theorem dX7_length_4 : decode cX7_length 4 = .ok (.ireturn, 1) := by decide +kernel
theorem dX7_add_0 : decode cX7_add 0 = .ok (.aload_n 0, 1) := by decide +kernel
theorem dX7_add_1 : decode cX7_add 1 = .ok (.getfield 20, 3) := by decide +kernel
theorem dX7_add_4 : decode cX7_add 4 = .ok (.sipush 150, 3) := by decide +kernel
theorem dX7_add_7 : decode cX7_add 7 = .ok (.if_icmp .ge 25, 3) := by decide +kernel
theorem dX7_add_10 : decode cX7_add 10 = .ok (.aload_n 0, 1) := by decide +kernel
theorem dX7_add_11 : decode cX7_add 11 = .ok (.getfield 14, 3) := by decide +kernel
theorem dX7_add_14 : decode cX7_add 14 = .ok (.aload_n 0, 1) := by decide +kernel
theorem dX7_add_15 : decode cX7_add 15 = .ok (.getfield 20, 3) := by decide +kernel
theorem dX7_add_18 : decode cX7_add 18 = .ok (.iload_n 1, 1) := by decide +kernel
theorem dX7_add_19 : decode cX7_add 19 = .ok (.invokevirtual 24, 3) := by decide +kernel
theorem dX7_add_22 : decode cX7_add 22 = .ok (.aload_n 0, 1) := by decide +kernel
theorem dX7_add_23 : decode cX7_add 23 = .ok (.dup, 1) := by decide +kernel
theorem dX7_add_24 : decode cX7_add 24 = .ok (.getfield 20, 3) := by decide +kernel
theorem dX7_add_27 : decode cX7_add 27 = .ok (.iconst 1, 1) := by decide +kernel
theorem dX7_add_28 : decode cX7_add 28 = .ok (.iadd, 1) := by decide +kernel
theorem dX7_add_29 : decode cX7_add 29 = .ok (.putfield 20, 3) := by decide +kernel
theorem dX7_add_32 : decode cX7_add 32 = .ok (.return_, 1) := by decide +kernel
theorem dX7_empty_0 : decode cX7_empty 0 = .ok (.aload_n 0, 1) := by decide +kernel
theorem dX7_empty_1 : decode cX7_empty 1 = .ok (.iconst 0, 1) := by decide +kernel
theorem dX7_empty_2 : decode cX7_empty 2 = .ok (.putfield 20, 3) := by decide +kernel
theorem dX7_empty_5 : decode cX7_empty 5 = .ok (.return_, 1) := by decide +kernel
theorem dX7_read_0 : decode cX7_read 0 = .ok (.aload_n 1, 1) := by decide +kernel
theorem dX7_read_1 : decode cX7_read 1 = .ok (.invokevirtual 28, 3) := by decide +kernel
theorem dX7_read_4 : decode cX7_read 4 = .ok (.aload_n 0, 1) := by decide +kernel
theorem dX7_read_5 : decode cX7_read 5 = .ok (.iconst 0, 1) := by decide +kernel
theorem dX7_read_6 : decode cX7_read 6 = .ok (.putfield 33, 3) := by decide +kernel
theorem dX7_read_9 : decode cX7_read 9 = .ok (.aload_n 0, 1) := by decide +kernel
theorem dX7_read_10 : decode cX7_read 10 = .ok (.iconst (-1), 1) := by decide +kernel
theorem dX7_read_11 : decode cX7_read 11 = .ok (.putfield 36, 3) := by decide +kernel
theorem dX7_read_14 : decode cX7_read 14 = .ok (.iconst 1, 1) := by decide +kernel
theorem dX7_read_15 : decode cX7_read 15 = .ok (.istore_n 2, 1) := by decide +kernel
theorem dX7_read_16 : decode cX7_read 16 = .ok (.iconst 0, 1) := by decide +kernel
theorem dX7_read_17 : decode cX7_read 17 = .ok (.istore_n 3, 1) := by decide +kernel
theorem dX7_read_18 : decode cX7_read 18 = .ok (.iload_n 2, 1) := by decide +kernel
theorem dX7_read_19 : decode cX7_read 19 = .ok (.ifCond .eq 50, 3) := by decide +kernel
theorem dX7_read_22 : decode cX7_read 22 = .ok (.aload_n 0, 1) := by decide +kernel
theorem dX7_read_23 : decode cX7_read 23 = .ok (.getfield 33, 3) := by decide +kernel
theorem dX7_read_26 : decode cX7_read 26 = .ok (.aload_n 0, 1) := by decide +kernel
theorem dX7_read_27 : decode cX7_read 27 = .ok (.getfield 20, 3) := by decide +kernel
theorem dX7_read_30 : decode cX7_read 30 = .ok (.if_icmp .ge 39, 3) := by decide +kernel
theorem dX7_read_33 : decode cX7_read 33 = .ok (.iload_n 3, 1) := by decide +kernel
theorem dX7_read_34 : decode cX7_read 34 = .ok (.sipush 150, 3) := by decide +kernel
theorem dX7_read_37 : decode cX7_read 37 = .ok (.if_icmp .ge 32, 3) := by decide +kernel
theorem dX7_read_40 : decode cX7_read 40 = .ok (.aload_n 0, 1) := by decide +kernel
theorem dX7_read_41 : decode cX7_read 41 = .ok (.invokevirtual 39, 3) := by decide +kernel
theorem dX7_read_44 : decode cX7_read 44 = .ok (.bipush 116, 2) := by decide +kernel
theorem dX7_read_46 : decode cX7_read 46 = .ok (.if_icmp .ne 11, 3) := by decide +kernel
theorem dX7_read_49 : decode cX7_read 49 = .ok (.aload_n 0, 1) := by decide +kernel
theorem dX7_read_50 : decode cX7_read 50 = .ok (.aload_n 1, 1) := by decide +kernel
theorem dX7_read_51 : decode cX7_read 51 = .ok (.invokevirtual 43, 3) := by decide +kernel
theorem dX7_read_54 : decode cX7_read 54 = .ok (.goto 8, 3) := by decide +kernel
theorem dX7_read_57 : decode cX7_read 57 = .ok (.aload_n 0, 1) := by decide +kernel
theorem dX7_read_58 : decode cX7_read 58 = .ok (.aload_n 1, 1) := by decide +kernel
theorem dX7_read_59 : decode cX7_read 59 = .ok (.invokevirtual 47, 3) := by decide +kernel
theorem dX7_read_62 : decode cX7_read 62 = .ok (.istore_n 2, 1) := by decide +kernel
theorem dX7_read_63 : decode cX7_read 63 = .ok (.iinc 3 1, 3) := by decide +kernel
theorem dX7_read_66 : decode cX7_read 66 = .ok (.goto (-48), 3) := by decide +kernel
theorem dX7_read_69 : decode cX7_read 69 = .ok (.aload_n 0, 1) := by decide +kernel
theorem dX7_read_70 : decode cX7_read 70 = .ok (.getfield 36, 3) := by decide +kernel
theorem dX7_read_73 : decode cX7_read 73 = .ok (.ireturn, 1) := by decide +kernel
theorem dX7_readTask_0 : decode cX7_readTask 0 = .ok (.aload_n 0, 1) := by decide +kernel
theorem dX7_readTask_1 : decode cX7_readTask 1 = .ok (.dup, 1) := by decide +kernel
theorem dX7_readTask_2 : decode cX7_readTask 2 = .ok (.getfield 33, 3) := by decide +kernel
theorem dX7_readTask_5 : decode cX7_readTask 5 = .ok (.iconst 1, 1) := by decide +kernel
theorem dX7_readTask_6 : decode cX7_readTask 6 = .ok (.iadd, 1) := by decide +kernel
theorem dX7_readTask_7 : decode cX7_readTask 7 = .ok (.putfield 33, 3) := by decide +kernel
theorem dX7_readTask_10 : decode cX7_readTask 10 = .ok (.aload_n 0, 1) := by decide +kernel
theorem dX7_readTask_11 : decode cX7_readTask 11 = .ok (.invokevirtual 39, 3) := by decide +kernel
theorem dX7_readTask_14 : decode cX7_readTask 14 = .ok (.bipush 48, 2) := by decide +kernel
theorem dX7_readTask_16 : decode cX7_readTask 16 = .ok (.isub, 1) := by decide +kernel
theorem dX7_readTask_17 : decode cX7_readTask 17 = .ok (.istore_n 2, 1) := by decide +kernel
theorem dX7_readTask_18 : decode cX7_readTask 18 = .ok (.iload_n 2, 1) := by decide +kernel
theorem dX7_readTask_19 : decode cX7_readTask 19 = .ok (.ifCond .lt 9, 3) := by decide +kernel
theorem dX7_readTask_22 : decode cX7_readTask 22 = .ok (.iload_n 2, 1) := by decide +kernel
theorem dX7_readTask_23 : decode cX7_readTask 23 = .ok (.bipush 6, 2) := by decide +kernel
theorem dX7_readTask_25 : decode cX7_readTask 25 = .ok (.if_icmp .lt 12, 3) := by decide +kernel
theorem dX7_readTask_28 : decode cX7_readTask 28 = .ok (.aload_n 0, 1) := by decide +kernel
theorem dX7_readTask_29 : decode cX7_readTask 29 = .ok (.aload_n 0, 1) := by decide +kernel
theorem dX7_readTask_30 : decode cX7_readTask 30 = .ok (.getfield 33, 3) := by decide +kernel
theorem dX7_readTask_33 : decode cX7_readTask 33 = .ok (.invokevirtual 50, 3) := by decide +kernel
theorem dX7_readTask_36 : decode cX7_readTask 36 = .ok (.ireturn, 1) := by decide +kernel
theorem dX7_readTask_37 : decode cX7_readTask 37 = .ok (.aload_n 0, 1) := by decide +kernel
theorem dX7_readTask_38 : decode cX7_readTask 38 = .ok (.dup, 1) := by decide +kernel
theorem dX7_readTask_39 : decode cX7_readTask 39 = .ok (.getfield 33, 3) := by decide +kernel
theorem dX7_readTask_42 : decode cX7_readTask 42 = .ok (.iconst 1, 1) := by decide +kernel
theorem dX7_readTask_43 : decode cX7_readTask 43 = .ok (.iadd, 1) := by decide +kernel
theorem dX7_readTask_44 : decode cX7_readTask 44 = .ok (.putfield 33, 3) := by decide +kernel
theorem dX7_readTask_47 : decode cX7_readTask 47 = .ok (.aload_n 0, 1) := by decide +kernel
theorem dX7_readTask_48 : decode cX7_readTask 48 = .ok (.bipush 44, 2) := by decide +kernel
theorem dX7_readTask_50 : decode cX7_readTask 50 = .ok (.invokevirtual 54, 3) := by decide +kernel
theorem dX7_readTask_53 : decode cX7_readTask 53 = .ok (.ifCond .eq 15, 3) := by decide +kernel
theorem dX7_readTask_56 : decode cX7_readTask 56 = .ok (.aload_n 0, 1) := by decide +kernel
theorem dX7_readTask_57 : decode cX7_readTask 57 = .ok (.iconst 3, 1) := by decide +kernel
theorem dX7_readTask_58 : decode cX7_readTask 58 = .ok (.iconst 0, 1) := by decide +kernel
theorem dX7_readTask_59 : decode cX7_readTask 59 = .ok (.sipush 199, 3) := by decide +kernel
theorem dX7_readTask_62 : decode cX7_readTask 62 = .ok (.invokevirtual 57, 3) := by decide +kernel
theorem dX7_readTask_65 : decode cX7_readTask 65 = .ok (.ifCond .ne 5, 3) := by decide +kernel
theorem dX7_readTask_68 : decode cX7_readTask 68 = .ok (.iconst 0, 1) := by decide +kernel
theorem dX7_readTask_69 : decode cX7_readTask 69 = .ok (.ireturn, 1) := by decide +kernel
theorem dX7_readTask_70 : decode cX7_readTask 70 = .ok (.aload_n 0, 1) := by decide +kernel
theorem dX7_readTask_71 : decode cX7_readTask 71 = .ok (.getfield 61, 3) := by decide +kernel
theorem dX7_readTask_74 : decode cX7_readTask 74 = .ok (.istore_n 3, 1) := by decide +kernel
theorem dX7_readTask_75 : decode cX7_readTask 75 = .ok (.aload_n 0, 1) := by decide +kernel
theorem dX7_readTask_76 : decode cX7_readTask 76 = .ok (.bipush 44, 2) := by decide +kernel
theorem dX7_readTask_78 : decode cX7_readTask 78 = .ok (.invokevirtual 54, 3) := by decide +kernel
theorem dX7_readTask_81 : decode cX7_readTask 81 = .ok (.ifCond .eq 23, 3) := by decide +kernel
theorem dX7_readTask_84 : decode cX7_readTask 84 = .ok (.aload_n 0, 1) := by decide +kernel
theorem dX7_readTask_85 : decode cX7_readTask 85 = .ok (.iconst 2, 1) := by decide +kernel
theorem dX7_readTask_86 : decode cX7_readTask 86 = .ok (.iconst 1, 1) := by decide +kernel
theorem dX7_readTask_87 : decode cX7_readTask 87 = .ok (.bipush 60, 2) := by decide +kernel
theorem dX7_readTask_89 : decode cX7_readTask 89 = .ok (.invokevirtual 57, 3) := by decide +kernel
theorem dX7_readTask_92 : decode cX7_readTask 92 = .ok (.ifCond .eq 12, 3) := by decide +kernel
theorem dX7_readTask_95 : decode cX7_readTask 95 = .ok (.aload_n 0, 1) := by decide +kernel
theorem dX7_readTask_96 : decode cX7_readTask 96 = .ok (.bipush 59, 2) := by decide +kernel
theorem dX7_readTask_98 : decode cX7_readTask 98 = .ok (.invokevirtual 54, 3) := by decide +kernel
theorem dX7_readTask_101 : decode cX7_readTask 101 = .ok (.ifCond .ne 5, 3) := by decide +kernel
theorem dX7_readTask_104 : decode cX7_readTask 104 = .ok (.iconst 0, 1) := by decide +kernel
theorem dX7_readTask_105 : decode cX7_readTask 105 = .ok (.ireturn, 1) := by decide +kernel
theorem dX7_readTask_106 : decode cX7_readTask 106 = .ok (.aload_n 1, 1) := by decide +kernel
theorem dX7_readTask_107 : decode cX7_readTask 107 = .ok (.iload_n 2, 1) := by decide +kernel
theorem dX7_readTask_108 : decode cX7_readTask 108 = .ok (.iload_n 3, 1) := by decide +kernel
theorem dX7_readTask_109 : decode cX7_readTask 109 = .ok (.aload_n 0, 1) := by decide +kernel
theorem dX7_readTask_110 : decode cX7_readTask 110 = .ok (.getfield 61, 3) := by decide +kernel
theorem dX7_readTask_113 : decode cX7_readTask 113 = .ok (.invokevirtual 64, 3) := by decide +kernel
theorem dX7_readTask_116 : decode cX7_readTask 116 = .ok (.pop, 1) := by decide +kernel
theorem dX7_readTask_117 : decode cX7_readTask 117 = .ok (.iconst 1, 1) := by decide +kernel
theorem dX7_readTask_118 : decode cX7_readTask 118 = .ok (.ireturn, 1) := by decide +kernel
theorem dX7_readArrow_0 : decode cX7_readArrow 0 = .ok (.aload_n 0, 1) := by decide +kernel
theorem dX7_readArrow_1 : decode cX7_readArrow 1 = .ok (.bipush 97, 2) := by decide +kernel
theorem dX7_readArrow_3 : decode cX7_readArrow 3 = .ok (.invokevirtual 54, 3) := by decide +kernel
theorem dX7_readArrow_6 : decode cX7_readArrow 6 = .ok (.ifCond .eq 18, 3) := by decide +kernel
theorem dX7_readArrow_9 : decode cX7_readArrow 9 = .ok (.aload_n 0, 1) := by decide +kernel
theorem dX7_readArrow_10 : decode cX7_readArrow 10 = .ok (.iconst 2, 1) := by decide +kernel
theorem dX7_readArrow_11 : decode cX7_readArrow 11 = .ok (.iconst 0, 1) := by decide +kernel
theorem dX7_readArrow_12 : decode cX7_readArrow 12 = .ok (.aload_n 1, 1) := by decide +kernel
theorem dX7_readArrow_13 : decode cX7_readArrow 13 = .ok (.invokevirtual 68, 3) := by decide +kernel
theorem dX7_readArrow_16 : decode cX7_readArrow 16 = .ok (.iconst 1, 1) := by decide +kernel
theorem dX7_readArrow_17 : decode cX7_readArrow 17 = .ok (.isub, 1) := by decide +kernel
theorem dX7_readArrow_18 : decode cX7_readArrow 18 = .ok (.invokevirtual 57, 3) := by decide +kernel
theorem dX7_readArrow_21 : decode cX7_readArrow 21 = .ok (.ifCond .ne 5, 3) := by decide +kernel
theorem dX7_readArrow_24 : decode cX7_readArrow 24 = .ok (.iconst 0, 1) := by decide +kernel
theorem dX7_readArrow_25 : decode cX7_readArrow 25 = .ok (.ireturn, 1) := by decide +kernel
theorem dX7_readArrow_26 : decode cX7_readArrow 26 = .ok (.aload_n 0, 1) := by decide +kernel
theorem dX7_readArrow_27 : decode cX7_readArrow 27 = .ok (.getfield 61, 3) := by decide +kernel
theorem dX7_readArrow_30 : decode cX7_readArrow 30 = .ok (.istore_n 2, 1) := by decide +kernel
theorem dX7_readArrow_31 : decode cX7_readArrow 31 = .ok (.aload_n 0, 1) := by decide +kernel
theorem dX7_readArrow_32 : decode cX7_readArrow 32 = .ok (.bipush 44, 2) := by decide +kernel
theorem dX7_readArrow_34 : decode cX7_readArrow 34 = .ok (.invokevirtual 54, 3) := by decide +kernel
theorem dX7_readArrow_37 : decode cX7_readArrow 37 = .ok (.ifCond .ne 5, 3) := by decide +kernel
theorem dX7_readArrow_40 : decode cX7_readArrow 40 = .ok (.iconst 0, 1) := by decide +kernel
theorem dX7_readArrow_41 : decode cX7_readArrow 41 = .ok (.ireturn, 1) := by decide +kernel
theorem dX7_readArrow_42 : decode cX7_readArrow 42 = .ok (.aload_n 0, 1) := by decide +kernel
theorem dX7_readArrow_43 : decode cX7_readArrow 43 = .ok (.getfield 33, 3) := by decide +kernel
theorem dX7_readArrow_46 : decode cX7_readArrow 46 = .ok (.istore_n 3, 1) := by decide +kernel
theorem dX7_readArrow_47 : decode cX7_readArrow 47 = .ok (.aload_n 0, 1) := by decide +kernel
theorem dX7_readArrow_48 : decode cX7_readArrow 48 = .ok (.iconst 2, 1) := by decide +kernel
theorem dX7_readArrow_49 : decode cX7_readArrow 49 = .ok (.iconst 0, 1) := by decide +kernel
theorem dX7_readArrow_50 : decode cX7_readArrow 50 = .ok (.aload_n 1, 1) := by decide +kernel
theorem dX7_readArrow_51 : decode cX7_readArrow 51 = .ok (.invokevirtual 68, 3) := by decide +kernel
theorem dX7_readArrow_54 : decode cX7_readArrow 54 = .ok (.iconst 1, 1) := by decide +kernel
theorem dX7_readArrow_55 : decode cX7_readArrow 55 = .ok (.isub, 1) := by decide +kernel
theorem dX7_readArrow_56 : decode cX7_readArrow 56 = .ok (.invokevirtual 57, 3) := by decide +kernel
theorem dX7_readArrow_59 : decode cX7_readArrow 59 = .ok (.ifCond .ne 5, 3) := by decide +kernel
theorem dX7_readArrow_62 : decode cX7_readArrow 62 = .ok (.iconst 0, 1) := by decide +kernel
theorem dX7_readArrow_63 : decode cX7_readArrow 63 = .ok (.ireturn, 1) := by decide +kernel
theorem dX7_readArrow_64 : decode cX7_readArrow 64 = .ok (.aload_n 0, 1) := by decide +kernel
theorem dX7_readArrow_65 : decode cX7_readArrow 65 = .ok (.getfield 61, 3) := by decide +kernel
theorem dX7_readArrow_68 : decode cX7_readArrow 68 = .ok (.iload_n 2, 1) := by decide +kernel
theorem dX7_readArrow_69 : decode cX7_readArrow 69 = .ok (.if_icmp .ne 9, 3) := by decide +kernel
theorem dX7_readArrow_72 : decode cX7_readArrow 72 = .ok (.aload_n 0, 1) := by decide +kernel
theorem dX7_readArrow_73 : decode cX7_readArrow 73 = .ok (.iload_n 3, 1) := by decide +kernel
theorem dX7_readArrow_74 : decode cX7_readArrow 74 = .ok (.invokevirtual 50, 3) := by decide +kernel
theorem dX7_readArrow_77 : decode cX7_readArrow 77 = .ok (.ireturn, 1) := by decide +kernel
theorem dX7_readArrow_78 : decode cX7_readArrow 78 = .ok (.aload_n 0, 1) := by decide +kernel
theorem dX7_readArrow_79 : decode cX7_readArrow 79 = .ok (.bipush 59, 2) := by decide +kernel
theorem dX7_readArrow_81 : decode cX7_readArrow 81 = .ok (.invokevirtual 54, 3) := by decide +kernel
theorem dX7_readArrow_84 : decode cX7_readArrow 84 = .ok (.ifCond .ne 5, 3) := by decide +kernel
theorem dX7_readArrow_87 : decode cX7_readArrow 87 = .ok (.iconst 0, 1) := by decide +kernel
theorem dX7_readArrow_88 : decode cX7_readArrow 88 = .ok (.ireturn, 1) := by decide +kernel
theorem dX7_readArrow_89 : decode cX7_readArrow 89 = .ok (.aload_n 1, 1) := by decide +kernel
theorem dX7_readArrow_90 : decode cX7_readArrow 90 = .ok (.iload_n 2, 1) := by decide +kernel
theorem dX7_readArrow_91 : decode cX7_readArrow 91 = .ok (.aload_n 0, 1) := by decide +kernel
theorem dX7_readArrow_92 : decode cX7_readArrow 92 = .ok (.getfield 61, 3) := by decide +kernel
theorem dX7_readArrow_95 : decode cX7_readArrow 95 = .ok (.invokevirtual 71, 3) := by decide +kernel
theorem dX7_readArrow_98 : decode cX7_readArrow 98 = .ok (.ifCond .ne 13, 3) := by decide +kernel
theorem dX7_readArrow_101 : decode cX7_readArrow 101 = .ok (.aload_n 1, 1) := by decide +kernel
theorem dX7_readArrow_102 : decode cX7_readArrow 102 = .ok (.iload_n 2, 1) := by decide +kernel
theorem dX7_readArrow_103 : decode cX7_readArrow 103 = .ok (.aload_n 0, 1) := by decide +kernel
theorem dX7_readArrow_104 : decode cX7_readArrow 104 = .ok (.getfield 61, 3) := by decide +kernel
theorem dX7_readArrow_107 : decode cX7_readArrow 107 = .ok (.invokevirtual 75, 3) := by decide +kernel
theorem dX7_readArrow_110 : decode cX7_readArrow 110 = .ok (.pop, 1) := by decide +kernel
theorem dX7_readArrow_111 : decode cX7_readArrow 111 = .ok (.iconst 1, 1) := by decide +kernel
theorem dX7_readArrow_112 : decode cX7_readArrow 112 = .ok (.ireturn, 1) := by decide +kernel
theorem dX7_readSign_0 : decode cX7_readSign 0 = .ok (.aload_n 0, 1) := by decide +kernel
theorem dX7_readSign_1 : decode cX7_readSign 1 = .ok (.invokevirtual 39, 3) := by decide +kernel
theorem dX7_readSign_4 : decode cX7_readSign 4 = .ok (.iload_n 1, 1) := by decide +kernel
theorem dX7_readSign_5 : decode cX7_readSign 5 = .ok (.if_icmp .eq 12, 3) := by decide +kernel
theorem dX7_readSign_8 : decode cX7_readSign 8 = .ok (.aload_n 0, 1) := by decide +kernel
theorem dX7_readSign_9 : decode cX7_readSign 9 = .ok (.aload_n 0, 1) := by decide +kernel
theorem dX7_readSign_10 : decode cX7_readSign 10 = .ok (.getfield 33, 3) := by decide +kernel
theorem dX7_readSign_13 : decode cX7_readSign 13 = .ok (.invokevirtual 50, 3) := by decide +kernel
theorem dX7_readSign_16 : decode cX7_readSign 16 = .ok (.ireturn, 1) := by decide +kernel
theorem dX7_readSign_17 : decode cX7_readSign 17 = .ok (.aload_n 0, 1) := by decide +kernel
theorem dX7_readSign_18 : decode cX7_readSign 18 = .ok (.dup, 1) := by decide +kernel
theorem dX7_readSign_19 : decode cX7_readSign 19 = .ok (.getfield 33, 3) := by decide +kernel
theorem dX7_readSign_22 : decode cX7_readSign 22 = .ok (.iconst 1, 1) := by decide +kernel
theorem dX7_readSign_23 : decode cX7_readSign 23 = .ok (.iadd, 1) := by decide +kernel
theorem dX7_readSign_24 : decode cX7_readSign 24 = .ok (.putfield 33, 3) := by decide +kernel
theorem dX7_readSign_27 : decode cX7_readSign 27 = .ok (.iconst 1, 1) := by decide +kernel
theorem dX7_readSign_28 : decode cX7_readSign 28 = .ok (.ireturn, 1) := by decide +kernel
theorem dX7_readNumber_0 : decode cX7_readNumber 0 = .ok (.aload_n 0, 1) := by decide +kernel
theorem dX7_readNumber_1 : decode cX7_readNumber 1 = .ok (.getfield 33, 3) := by decide +kernel
theorem dX7_readNumber_4 : decode cX7_readNumber 4 = .ok (.istore 4, 2) := by decide +kernel
theorem dX7_readNumber_6 : decode cX7_readNumber 6 = .ok (.aload_n 0, 1) := by decide +kernel
theorem dX7_readNumber_7 : decode cX7_readNumber 7 = .ok (.iconst 0, 1) := by decide +kernel
theorem dX7_readNumber_8 : decode cX7_readNumber 8 = .ok (.putfield 61, 3) := by decide +kernel
theorem dX7_readNumber_11 : decode cX7_readNumber 11 = .ok (.aload_n 0, 1) := by decide +kernel
theorem dX7_readNumber_12 : decode cX7_readNumber 12 = .ok (.getfield 33, 3) := by decide +kernel
theorem dX7_readNumber_15 : decode cX7_readNumber 15 = .ok (.iload 4, 2) := by decide +kernel
theorem dX7_readNumber_17 : decode cX7_readNumber 17 = .ok (.iload_n 1, 1) := by decide +kernel
theorem dX7_readNumber_18 : decode cX7_readNumber 18 = .ok (.iadd, 1) := by decide +kernel
theorem dX7_readNumber_19 : decode cX7_readNumber 19 = .ok (.if_icmp .ge 42, 3) := by decide +kernel
theorem dX7_readNumber_22 : decode cX7_readNumber 22 = .ok (.aload_n 0, 1) := by decide +kernel
theorem dX7_readNumber_23 : decode cX7_readNumber 23 = .ok (.invokevirtual 79, 3) := by decide +kernel
theorem dX7_readNumber_26 : decode cX7_readNumber 26 = .ok (.ifCond .eq 35, 3) := by decide +kernel
theorem dX7_readNumber_29 : decode cX7_readNumber 29 = .ok (.aload_n 0, 1) := by decide +kernel
theorem dX7_readNumber_30 : decode cX7_readNumber 30 = .ok (.aload_n 0, 1) := by decide +kernel
theorem dX7_readNumber_31 : decode cX7_readNumber 31 = .ok (.getfield 61, 3) := by decide +kernel
theorem dX7_readNumber_34 : decode cX7_readNumber 34 = .ok (.bipush 10, 2) := by decide +kernel
theorem dX7_readNumber_36 : decode cX7_readNumber 36 = .ok (.imul, 1) := by decide +kernel
theorem dX7_readNumber_37 : decode cX7_readNumber 37 = .ok (.aload_n 0, 1) := by decide +kernel
theorem dX7_readNumber_38 : decode cX7_readNumber 38 = .ok (.invokevirtual 39, 3) := by decide +kernel
theorem dX7_readNumber_41 : decode cX7_readNumber 41 = .ok (.iadd, 1) := by decide +kernel
theorem dX7_readNumber_42 : decode cX7_readNumber 42 = .ok (.bipush 48, 2) := by decide +kernel
theorem dX7_readNumber_44 : decode cX7_readNumber 44 = .ok (.isub, 1) := by decide +kernel
theorem dX7_readNumber_45 : decode cX7_readNumber 45 = .ok (.putfield 61, 3) := by decide +kernel
theorem dX7_readNumber_48 : decode cX7_readNumber 48 = .ok (.aload_n 0, 1) := by decide +kernel
theorem dX7_readNumber_49 : decode cX7_readNumber 49 = .ok (.dup, 1) := by decide +kernel
theorem dX7_readNumber_50 : decode cX7_readNumber 50 = .ok (.getfield 33, 3) := by decide +kernel
theorem dX7_readNumber_53 : decode cX7_readNumber 53 = .ok (.iconst 1, 1) := by decide +kernel
theorem dX7_readNumber_54 : decode cX7_readNumber 54 = .ok (.iadd, 1) := by decide +kernel
theorem dX7_readNumber_55 : decode cX7_readNumber 55 = .ok (.putfield 33, 3) := by decide +kernel
theorem dX7_readNumber_58 : decode cX7_readNumber 58 = .ok (.goto (-47), 3) := by decide +kernel
theorem dX7_readNumber_61 : decode cX7_readNumber 61 = .ok (.aload_n 0, 1) := by decide +kernel
theorem dX7_readNumber_62 : decode cX7_readNumber 62 = .ok (.getfield 33, 3) := by decide +kernel
theorem dX7_readNumber_65 : decode cX7_readNumber 65 = .ok (.iload 4, 2) := by decide +kernel
theorem dX7_readNumber_67 : decode cX7_readNumber 67 = .ok (.if_icmp .eq 10, 3) := by decide +kernel
theorem dX7_readNumber_70 : decode cX7_readNumber 70 = .ok (.aload_n 0, 1) := by decide +kernel
theorem dX7_readNumber_71 : decode cX7_readNumber 71 = .ok (.invokevirtual 79, 3) := by decide +kernel
theorem dX7_readNumber_74 : decode cX7_readNumber 74 = .ok (.ifCond .eq 12, 3) := by decide +kernel
theorem dX7_readNumber_77 : decode cX7_readNumber 77 = .ok (.aload_n 0, 1) := by decide +kernel
theorem dX7_readNumber_78 : decode cX7_readNumber 78 = .ok (.aload_n 0, 1) := by decide +kernel
theorem dX7_readNumber_79 : decode cX7_readNumber 79 = .ok (.getfield 33, 3) := by decide +kernel
theorem dX7_readNumber_82 : decode cX7_readNumber 82 = .ok (.invokevirtual 50, 3) := by decide +kernel
theorem dX7_readNumber_85 : decode cX7_readNumber 85 = .ok (.ireturn, 1) := by decide +kernel
theorem dX7_readNumber_86 : decode cX7_readNumber 86 = .ok (.aload_n 0, 1) := by decide +kernel
theorem dX7_readNumber_87 : decode cX7_readNumber 87 = .ok (.getfield 61, 3) := by decide +kernel
theorem dX7_readNumber_90 : decode cX7_readNumber 90 = .ok (.iload_n 2, 1) := by decide +kernel
theorem dX7_readNumber_91 : decode cX7_readNumber 91 = .ok (.if_icmp .lt 11, 3) := by decide +kernel
theorem dX7_readNumber_94 : decode cX7_readNumber 94 = .ok (.aload_n 0, 1) := by decide +kernel
theorem dX7_readNumber_95 : decode cX7_readNumber 95 = .ok (.getfield 61, 3) := by decide +kernel
theorem dX7_readNumber_98 : decode cX7_readNumber 98 = .ok (.iload_n 3, 1) := by decide +kernel
theorem dX7_readNumber_99 : decode cX7_readNumber 99 = .ok (.if_icmp .le 10, 3) := by decide +kernel
theorem dX7_readNumber_102 : decode cX7_readNumber 102 = .ok (.aload_n 0, 1) := by decide +kernel
theorem dX7_readNumber_103 : decode cX7_readNumber 103 = .ok (.iload 4, 2) := by decide +kernel
theorem dX7_readNumber_105 : decode cX7_readNumber 105 = .ok (.invokevirtual 50, 3) := by decide +kernel
theorem dX7_readNumber_108 : decode cX7_readNumber 108 = .ok (.ireturn, 1) := by decide +kernel
theorem dX7_readNumber_109 : decode cX7_readNumber 109 = .ok (.iconst 1, 1) := by decide +kernel
theorem dX7_readNumber_110 : decode cX7_readNumber 110 = .ok (.ireturn, 1) := by decide +kernel
theorem dX7_nextIsDigit_0 : decode cX7_nextIsDigit 0 = .ok (.aload_n 0, 1) := by decide +kernel
theorem dX7_nextIsDigit_1 : decode cX7_nextIsDigit 1 = .ok (.invokevirtual 39, 3) := by decide +kernel
theorem dX7_nextIsDigit_4 : decode cX7_nextIsDigit 4 = .ok (.bipush 48, 2) := by decide +kernel
theorem dX7_nextIsDigit_6 : decode cX7_nextIsDigit 6 = .ok (.if_icmp .lt 16, 3) := by decide +kernel
theorem dX7_nextIsDigit_9 : decode cX7_nextIsDigit 9 = .ok (.aload_n 0, 1) := by decide +kernel
theorem dX7_nextIsDigit_10 : decode cX7_nextIsDigit 10 = .ok (.invokevirtual 39, 3) := by decide +kernel
theorem dX7_nextIsDigit_13 : decode cX7_nextIsDigit 13 = .ok (.bipush 57, 2) := by decide +kernel
theorem dX7_nextIsDigit_15 : decode cX7_nextIsDigit 15 = .ok (.if_icmp .gt 7, 3) := by decide +kernel
theorem dX7_nextIsDigit_18 : decode cX7_nextIsDigit 18 = .ok (.iconst 1, 1) := by decide +kernel
theorem dX7_nextIsDigit_19 : decode cX7_nextIsDigit 19 = .ok (.goto 4, 3) := by decide +kernel
theorem dX7_nextIsDigit_22 : decode cX7_nextIsDigit 22 = .ok (.iconst 0, 1) := by decide +kernel
theorem dX7_nextIsDigit_23 : decode cX7_nextIsDigit 23 = .ok (.ireturn, 1) := by decide +kernel
theorem dX7_next_0 : decode cX7_next 0 = .ok (.aload_n 0, 1) := by decide +kernel
theorem dX7_next_1 : decode cX7_next 1 = .ok (.getfield 33, 3) := by decide +kernel
theorem dX7_next_4 : decode cX7_next 4 = .ok (.aload_n 0, 1) := by decide +kernel
theorem dX7_next_5 : decode cX7_next 5 = .ok (.getfield 20, 3) := by decide +kernel
theorem dX7_next_8 : decode cX7_next 8 = .ok (.if_icmp .ge 17, 3) := by decide +kernel
theorem dX7_next_11 : decode cX7_next 11 = .ok (.aload_n 0, 1) := by decide +kernel
theorem dX7_next_12 : decode cX7_next 12 = .ok (.getfield 14, 3) := by decide +kernel
theorem dX7_next_15 : decode cX7_next 15 = .ok (.aload_n 0, 1) := by decide +kernel
theorem dX7_next_16 : decode cX7_next 16 = .ok (.getfield 33, 3) := by decide +kernel
theorem dX7_next_19 : decode cX7_next 19 = .ok (.invokevirtual 83, 3) := by decide +kernel
theorem dX7_next_22 : decode cX7_next 22 = .ok (.goto 4, 3) := by decide +kernel
theorem dX7_next_25 : decode cX7_next 25 = .ok (.iconst (-1), 1) := by decide +kernel
theorem dX7_next_26 : decode cX7_next 26 = .ok (.ireturn, 1) := by decide +kernel
theorem dX7_fail_0 : decode cX7_fail 0 = .ok (.aload_n 0, 1) := by decide +kernel
theorem dX7_fail_1 : decode cX7_fail 1 = .ok (.iload_n 1, 1) := by decide +kernel
theorem dX7_fail_2 : decode cX7_fail 2 = .ok (.putfield 36, 3) := by decide +kernel
theorem dX7_fail_5 : decode cX7_fail 5 = .ok (.iconst 0, 1) := by decide +kernel
theorem dX7_fail_6 : decode cX7_fail 6 = .ok (.ireturn, 1) := by decide +kernel
theorem dX8_init_0 : decode cX8_init 0 = .ok (.aload_n 0, 1) := by decide +kernel
theorem dX8_init_1 : decode cX8_init 1 = .ok (.invokespecial 3, 3) := by decide +kernel
theorem dX8_init_4 : decode cX8_init 4 = .ok (.aload_n 0, 1) := by decide +kernel
theorem dX8_init_5 : decode cX8_init 5 = .ok (.new 9, 3) := by decide +kernel
theorem dX8_init_8 : decode cX8_init 8 = .ok (.dup, 1) := by decide +kernel
theorem dX8_init_9 : decode cX8_init 9 = .ok (.invokespecial 11, 3) := by decide +kernel
theorem dX8_init_12 : decode cX8_init 12 = .ok (.putfield 12, 3) := by decide +kernel
theorem dX8_init_15 : decode cX8_init 15 = .ok (.aload_n 0, 1) := by decide +kernel
theorem dX8_init_16 : decode cX8_init 16 = .ok (.new 9, 3) := by decide +kernel
theorem dX8_init_19 : decode cX8_init 19 = .ok (.dup, 1) := by decide +kernel
theorem dX8_init_20 : decode cX8_init 20 = .ok (.invokespecial 11, 3) := by decide +kernel
theorem dX8_init_23 : decode cX8_init 23 = .ok (.putfield 16, 3) := by decide +kernel
theorem dX8_init_26 : decode cX8_init 26 = .ok (.aload_n 0, 1) := by decide +kernel
theorem dX8_init_27 : decode cX8_init 27 = .ok (.new 19, 3) := by decide +kernel
theorem dX8_init_30 : decode cX8_init 30 = .ok (.dup, 1) := by decide +kernel
theorem dX8_init_31 : decode cX8_init 31 = .ok (.invokespecial 21, 3) := by decide +kernel
theorem dX8_init_34 : decode cX8_init 34 = .ok (.putfield 22, 3) := by decide +kernel
theorem dX8_init_37 : decode cX8_init 37 = .ok (.aload_n 0, 1) := by decide +kernel
theorem dX8_init_38 : decode cX8_init 38 = .ok (.new 26, 3) := by decide +kernel
theorem dX8_init_41 : decode cX8_init 41 = .ok (.dup, 1) := by decide +kernel
theorem dX8_init_42 : decode cX8_init 42 = .ok (.invokespecial 28, 3) := by decide +kernel
theorem dX8_init_45 : decode cX8_init 45 = .ok (.putfield 29, 3) := by decide +kernel
theorem dX8_init_48 : decode cX8_init 48 = .ok (.aload_n 0, 1) := by decide +kernel
theorem dX8_init_49 : decode cX8_init 49 = .ok (.new 33, 3) := by decide +kernel
theorem dX8_init_52 : decode cX8_init 52 = .ok (.dup, 1) := by decide +kernel
theorem dX8_init_53 : decode cX8_init 53 = .ok (.invokespecial 35, 3) := by decide +kernel
theorem dX8_init_56 : decode cX8_init 56 = .ok (.putfield 36, 3) := by decide +kernel
theorem dX8_init_59 : decode cX8_init 59 = .ok (.aload_n 0, 1) := by decide +kernel
theorem dX8_init_60 : decode cX8_init 60 = .ok (.new 40, 3) := by decide +kernel
theorem dX8_init_63 : decode cX8_init 63 = .ok (.dup, 1) := by decide +kernel
theorem dX8_init_64 : decode cX8_init 64 = .ok (.invokespecial 42, 3) := by decide +kernel
theorem dX8_init_67 : decode cX8_init 67 = .ok (.putfield 43, 3) := by decide +kernel
theorem dX8_init_70 : decode cX8_init 70 = .ok (.aload_n 0, 1) := by decide +kernel
theorem dX8_init_71 : decode cX8_init 71 = .ok (.new 47, 3) := by decide +kernel
theorem dX8_init_74 : decode cX8_init 74 = .ok (.dup, 1) := by decide +kernel
theorem dX8_init_75 : decode cX8_init 75 = .ok (.invokespecial 49, 3) := by decide +kernel
theorem dX8_init_78 : decode cX8_init 78 = .ok (.putfield 50, 3) := by decide +kernel
theorem dX8_init_81 : decode cX8_init 81 = .ok (.aload_n 0, 1) := by decide +kernel
theorem dX8_init_82 : decode cX8_init 82 = .ok (.new 54, 3) := by decide +kernel
theorem dX8_init_85 : decode cX8_init 85 = .ok (.dup, 1) := by decide +kernel
theorem dX8_init_86 : decode cX8_init 86 = .ok (.invokespecial 56, 3) := by decide +kernel
theorem dX8_init_89 : decode cX8_init 89 = .ok (.putfield 57, 3) := by decide +kernel
theorem dX8_init_92 : decode cX8_init 92 = .ok (.aload_n 0, 1) := by decide +kernel
theorem dX8_init_93 : decode cX8_init 93 = .ok (.new 40, 3) := by decide +kernel
theorem dX8_init_96 : decode cX8_init 96 = .ok (.dup, 1) := by decide +kernel
theorem dX8_init_97 : decode cX8_init 97 = .ok (.invokespecial 42, 3) := by decide +kernel
theorem dX8_init_100 : decode cX8_init 100 = .ok (.putfield 61, 3) := by decide +kernel
theorem dX8_init_103 : decode cX8_init 103 = .ok (.aload_n 0, 1) := by decide +kernel
theorem dX8_init_104 : decode cX8_init 104 = .ok (.new 47, 3) := by decide +kernel
theorem dX8_init_107 : decode cX8_init 107 = .ok (.dup, 1) := by decide +kernel
theorem dX8_init_108 : decode cX8_init 108 = .ok (.invokespecial 49, 3) := by decide +kernel
theorem dX8_init_111 : decode cX8_init 111 = .ok (.putfield 64, 3) := by decide +kernel
theorem dX8_init_114 : decode cX8_init 114 = .ok (.return_, 1) := by decide +kernel
theorem dX8_set_0 : decode cX8_set 0 = .ok (.iload_n 1, 1) := by decide +kernel
theorem dX8_set_1 : decode cX8_set 1 = .ok (.iload_n 2, 1) := by decide +kernel
theorem dX8_set_2 : decode cX8_set 2 = .ok (.invokestatic 67, 3) := by decide +kernel
theorem dX8_set_5 : decode cX8_set 5 = .ok (.ifCond .ne 13, 3) := by decide +kernel
theorem dX8_set_8 : decode cX8_set 8 = .ok (.new 71, 3) := by decide +kernel
theorem dX8_set_11 : decode cX8_set 11 = .ok (.dup, 1) := by decide +kernel
theorem dX8_set_12 : decode cX8_set 12 = .ok (.ldc 73, 2) := by decide +kernel
theorem dX8_set_14 : decode cX8_set 14 = .ok (.invokespecial 75, 3) := by decide +kernel
theorem dX8_set_17 : decode cX8_set 17 = .ok (.athrow, 1) := by decide +kernel
theorem dX8_set_18 : decode cX8_set 18 = .ok (.aload_n 0, 1) := by decide +kernel
theorem dX8_set_19 : decode cX8_set 19 = .ok (.getfield 22, 3) := by decide +kernel
theorem dX8_set_22 : decode cX8_set 22 = .ok (.aload_n 0, 1) := by decide +kernel
theorem dX8_set_23 : decode cX8_set 23 = .ok (.getfield 12, 3) := by decide +kernel
theorem dX8_set_26 : decode cX8_set 26 = .ok (.invokevirtual 78, 3) := by decide +kernel
theorem dX8_set_29 : decode cX8_set 29 = .ok (.aload_n 0, 1) := by decide +kernel
theorem dX8_set_30 : decode cX8_set 30 = .ok (.getfield 12, 3) := by decide +kernel
theorem dX8_set_33 : decode cX8_set 33 = .ok (.iload_n 1, 1) := by decide +kernel
theorem dX8_set_34 : decode cX8_set 34 = .ok (.invokevirtual 82, 3) := by decide +kernel
theorem dX8_set_37 : decode cX8_set 37 = .ok (.istore_n 3, 1) := by decide +kernel
theorem dX8_set_38 : decode cX8_set 38 = .ok (.aload_n 0, 1) := by decide +kernel
theorem dX8_set_39 : decode cX8_set 39 = .ok (.getfield 12, 3) := by decide +kernel
theorem dX8_set_42 : decode cX8_set 42 = .ok (.iload_n 1, 1) := by decide +kernel
theorem dX8_set_43 : decode cX8_set 43 = .ok (.iload_n 2, 1) := by decide +kernel
theorem dX8_set_44 : decode cX8_set 44 = .ok (.invokevirtual 86, 3) := by decide +kernel
theorem dX8_set_47 : decode cX8_set 47 = .ok (.aload_n 0, 1) := by decide +kernel
theorem dX8_set_48 : decode cX8_set 48 = .ok (.invokevirtual 90, 3) := by decide +kernel
theorem dX8_set_51 : decode cX8_set 51 = .ok (.iload_n 3, 1) := by decide +kernel
theorem dX8_set_52 : decode cX8_set 52 = .ok (.ireturn, 1) := by decide +kernel
theorem dX8_value_0 : decode cX8_value 0 = .ok (.iload_n 1, 1) := by decide +kernel
theorem dX8_value_1 : decode cX8_value 1 = .ok (.ifCond .lt 9, 3) := by decide +kernel
theorem dX8_value_4 : decode cX8_value 4 = .ok (.iload_n 1, 1) := by decide +kernel
theorem dX8_value_5 : decode cX8_value 5 = .ok (.bipush 6, 2) := by decide +kernel
theorem dX8_value_7 : decode cX8_value 7 = .ok (.if_icmp .lt 13, 3) := by decide +kernel
theorem dX8_value_10 : decode cX8_value 10 = .ok (.new 71, 3) := by decide +kernel
theorem dX8_value_13 : decode cX8_value 13 = .ok (.dup, 1) := by decide +kernel
theorem dX8_value_14 : decode cX8_value 14 = .ok (.ldc 93, 2) := by decide +kernel
theorem dX8_value_16 : decode cX8_value 16 = .ok (.invokespecial 75, 3) := by decide +kernel
theorem dX8_value_19 : decode cX8_value 19 = .ok (.athrow, 1) := by decide +kernel
theorem dX8_value_20 : decode cX8_value 20 = .ok (.aload_n 0, 1) := by decide +kernel
theorem dX8_value_21 : decode cX8_value 21 = .ok (.iload_n 1, 1) := by decide +kernel
theorem dX8_value_22 : decode cX8_value 22 = .ok (.invokevirtual 95, 3) := by decide +kernel
theorem dX8_value_25 : decode cX8_value 25 = .ok (.ireturn, 1) := by decide +kernel
theorem dX8_addTask_0 : decode cX8_addTask 0 = .ok (.iload_n 1, 1) := by decide +kernel
theorem dX8_addTask_1 : decode cX8_addTask 1 = .ok (.ifCond .lt 17, 3) := by decide +kernel
theorem dX8_addTask_4 : decode cX8_addTask 4 = .ok (.iload_n 1, 1) := by decide +kernel
theorem dX8_addTask_5 : decode cX8_addTask 5 = .ok (.bipush 6, 2) := by decide +kernel
theorem dX8_addTask_7 : decode cX8_addTask 7 = .ok (.if_icmp .ge 11, 3) := by decide +kernel
theorem dX8_addTask_10 : decode cX8_addTask 10 = .ok (.iload_n 2, 1) := by decide +kernel
theorem dX8_addTask_11 : decode cX8_addTask 11 = .ok (.iload_n 3, 1) := by decide +kernel
theorem dX8_addTask_12 : decode cX8_addTask 12 = .ok (.invokestatic 98, 3) := by decide +kernel
theorem dX8_addTask_15 : decode cX8_addTask 15 = .ok (.ifCond .ne 13, 3) := by decide +kernel
theorem dX8_addTask_18 : decode cX8_addTask 18 = .ok (.new 71, 3) := by decide +kernel
theorem dX8_addTask_21 : decode cX8_addTask 21 = .ok (.dup, 1) := by decide +kernel
theorem dX8_addTask_22 : decode cX8_addTask 22 = .ok (.ldc 101, 2) := by decide +kernel
theorem dX8_addTask_24 : decode cX8_addTask 24 = .ok (.invokespecial 75, 3) := by decide +kernel
theorem dX8_addTask_27 : decode cX8_addTask 27 = .ok (.athrow, 1) := by decide +kernel
theorem dX8_addTask_28 : decode cX8_addTask 28 = .ok (.aload_n 0, 1) := by decide +kernel
theorem dX8_addTask_29 : decode cX8_addTask 29 = .ok (.getfield 12, 3) := by decide +kernel
theorem dX8_addTask_32 : decode cX8_addTask 32 = .ok (.invokevirtual 103, 3) := by decide +kernel
theorem dX8_addTask_35 : decode cX8_addTask 35 = .ok (.bipush 24, 2) := by decide +kernel
theorem dX8_addTask_37 : decode cX8_addTask 37 = .ok (.if_icmp .lt 13, 3) := by decide +kernel
theorem dX8_addTask_40 : decode cX8_addTask 40 = .ok (.new 107, 3) := by decide +kernel
theorem dX8_addTask_43 : decode cX8_addTask 43 = .ok (.dup, 1) := by decide +kernel
theorem dX8_addTask_44 : decode cX8_addTask 44 = .ok (.ldc 109, 2) := by decide +kernel
theorem dX8_addTask_46 : decode cX8_addTask 46 = .ok (.invokespecial 111, 3) := by decide +kernel
theorem dX8_addTask_49 : decode cX8_addTask 49 = .ok (.athrow, 1) := by decide +kernel
theorem dX8_addTask_50 : decode cX8_addTask 50 = .ok (.aload_n 0, 1) := by decide +kernel
theorem dX8_addTask_51 : decode cX8_addTask 51 = .ok (.getfield 22, 3) := by decide +kernel
theorem dX8_addTask_54 : decode cX8_addTask 54 = .ok (.aload_n 0, 1) := by decide +kernel
theorem dX8_addTask_55 : decode cX8_addTask 55 = .ok (.getfield 12, 3) := by decide +kernel
theorem dX8_addTask_58 : decode cX8_addTask 58 = .ok (.invokevirtual 78, 3) := by decide +kernel
theorem dX8_addTask_61 : decode cX8_addTask 61 = .ok (.aload_n 0, 1) := by decide +kernel
theorem dX8_addTask_62 : decode cX8_addTask 62 = .ok (.getfield 12, 3) := by decide +kernel
theorem dX8_addTask_65 : decode cX8_addTask 65 = .ok (.iload_n 1, 1) := by decide +kernel
theorem dX8_addTask_66 : decode cX8_addTask 66 = .ok (.iload_n 2, 1) := by decide +kernel
theorem dX8_addTask_67 : decode cX8_addTask 67 = .ok (.iload_n 3, 1) := by decide +kernel
theorem dX8_addTask_68 : decode cX8_addTask 68 = .ok (.invokevirtual 112, 3) := by decide +kernel
theorem dX8_addTask_71 : decode cX8_addTask 71 = .ok (.istore 4, 2) := by decide +kernel
theorem dX8_addTask_73 : decode cX8_addTask 73 = .ok (.aload_n 0, 1) := by decide +kernel
theorem dX8_addTask_74 : decode cX8_addTask 74 = .ok (.invokevirtual 90, 3) := by decide +kernel
theorem dX8_addTask_77 : decode cX8_addTask 77 = .ok (.iload 4, 2) := by decide +kernel
theorem dX8_addTask_79 : decode cX8_addTask 79 = .ok (.ireturn, 1) := by decide +kernel
theorem dX8_move_0 : decode cX8_move 0 = .ok (.aload_n 0, 1) := by decide +kernel
theorem dX8_move_1 : decode cX8_move 1 = .ok (.iload_n 1, 1) := by decide +kernel
theorem dX8_move_2 : decode cX8_move 2 = .ok (.invokevirtual 116, 3) := by decide +kernel
theorem dX8_move_5 : decode cX8_move 5 = .ok (.iload_n 2, 1) := by decide +kernel
theorem dX8_move_6 : decode cX8_move 6 = .ok (.iload_n 3, 1) := by decide +kernel
theorem dX8_move_7 : decode cX8_move 7 = .ok (.invokestatic 98, 3) := by decide +kernel
theorem dX8_move_10 : decode cX8_move 10 = .ok (.ifCond .ne 13, 3) := by decide +kernel
theorem dX8_move_13 : decode cX8_move 13 = .ok (.new 71, 3) := by decide +kernel
theorem dX8_move_16 : decode cX8_move 16 = .ok (.dup, 1) := by decide +kernel
theorem dX8_move_17 : decode cX8_move 17 = .ok (.ldc 120, 2) := by decide +kernel
theorem dX8_move_19 : decode cX8_move 19 = .ok (.invokespecial 75, 3) := by decide +kernel
theorem dX8_move_22 : decode cX8_move 22 = .ok (.athrow, 1) := by decide +kernel
theorem dX8_move_23 : decode cX8_move 23 = .ok (.aload_n 0, 1) := by decide +kernel
theorem dX8_move_24 : decode cX8_move 24 = .ok (.getfield 22, 3) := by decide +kernel
theorem dX8_move_27 : decode cX8_move 27 = .ok (.aload_n 0, 1) := by decide +kernel
theorem dX8_move_28 : decode cX8_move 28 = .ok (.getfield 12, 3) := by decide +kernel
theorem dX8_move_31 : decode cX8_move 31 = .ok (.invokevirtual 78, 3) := by decide +kernel
theorem dX8_move_34 : decode cX8_move 34 = .ok (.aload_n 0, 1) := by decide +kernel
theorem dX8_move_35 : decode cX8_move 35 = .ok (.getfield 12, 3) := by decide +kernel
theorem dX8_move_38 : decode cX8_move 38 = .ok (.iload_n 1, 1) := by decide +kernel
theorem dX8_move_39 : decode cX8_move 39 = .ok (.invokevirtual 122, 3) := by decide +kernel
theorem dX8_move_42 : decode cX8_move 42 = .ok (.istore 4, 2) := by decide +kernel
theorem dX8_move_44 : decode cX8_move 44 = .ok (.aload_n 0, 1) := by decide +kernel
theorem dX8_move_45 : decode cX8_move 45 = .ok (.getfield 12, 3) := by decide +kernel
theorem dX8_move_48 : decode cX8_move 48 = .ok (.iload_n 1, 1) := by decide +kernel
theorem dX8_move_49 : decode cX8_move 49 = .ok (.iload_n 2, 1) := by decide +kernel
theorem dX8_move_50 : decode cX8_move 50 = .ok (.iload_n 3, 1) := by decide +kernel
theorem dX8_move_51 : decode cX8_move 51 = .ok (.invokevirtual 125, 3) := by decide +kernel
theorem dX8_move_54 : decode cX8_move 54 = .ok (.aload_n 0, 1) := by decide +kernel
theorem dX8_move_55 : decode cX8_move 55 = .ok (.invokevirtual 90, 3) := by decide +kernel
theorem dX8_move_58 : decode cX8_move 58 = .ok (.iload 4, 2) := by decide +kernel
theorem dX8_move_60 : decode cX8_move 60 = .ok (.ireturn, 1) := by decide +kernel
theorem dX8_removeTask_0 : decode cX8_removeTask 0 = .ok (.aload_n 0, 1) := by decide +kernel
theorem dX8_removeTask_1 : decode cX8_removeTask 1 = .ok (.iload_n 1, 1) := by decide +kernel
theorem dX8_removeTask_2 : decode cX8_removeTask 2 = .ok (.invokevirtual 116, 3) := by decide +kernel
theorem dX8_removeTask_5 : decode cX8_removeTask 5 = .ok (.aload_n 0, 1) := by decide +kernel
theorem dX8_removeTask_6 : decode cX8_removeTask 6 = .ok (.getfield 22, 3) := by decide +kernel
theorem dX8_removeTask_9 : decode cX8_removeTask 9 = .ok (.aload_n 0, 1) := by decide +kernel
theorem dX8_removeTask_10 : decode cX8_removeTask 10 = .ok (.getfield 12, 3) := by decide +kernel
theorem dX8_removeTask_13 : decode cX8_removeTask 13 = .ok (.invokevirtual 78, 3) := by decide +kernel
theorem dX8_removeTask_16 : decode cX8_removeTask 16 = .ok (.aload_n 0, 1) := by decide +kernel
theorem dX8_removeTask_17 : decode cX8_removeTask 17 = .ok (.getfield 12, 3) := by decide +kernel
theorem dX8_removeTask_20 : decode cX8_removeTask 20 = .ok (.iload_n 1, 1) := by decide +kernel
theorem dX8_removeTask_21 : decode cX8_removeTask 21 = .ok (.invokevirtual 129, 3) := by decide +kernel
theorem dX8_removeTask_24 : decode cX8_removeTask 24 = .ok (.istore_n 2, 1) := by decide +kernel
theorem dX8_removeTask_25 : decode cX8_removeTask 25 = .ok (.aload_n 0, 1) := by decide +kernel
theorem dX8_removeTask_26 : decode cX8_removeTask 26 = .ok (.invokevirtual 90, 3) := by decide +kernel
theorem dX8_removeTask_29 : decode cX8_removeTask 29 = .ok (.iload_n 2, 1) := by decide +kernel
theorem dX8_removeTask_30 : decode cX8_removeTask 30 = .ok (.ireturn, 1) := by decide +kernel
theorem dX8_addArrow_0 : decode cX8_addArrow 0 = .ok (.aload_n 0, 1) := by decide +kernel
theorem dX8_addArrow_1 : decode cX8_addArrow 1 = .ok (.iload_n 1, 1) := by decide +kernel
theorem dX8_addArrow_2 : decode cX8_addArrow 2 = .ok (.invokevirtual 116, 3) := by decide +kernel
theorem dX8_addArrow_5 : decode cX8_addArrow 5 = .ok (.aload_n 0, 1) := by decide +kernel
theorem dX8_addArrow_6 : decode cX8_addArrow 6 = .ok (.iload_n 2, 1) := by decide +kernel
theorem dX8_addArrow_7 : decode cX8_addArrow 7 = .ok (.invokevirtual 116, 3) := by decide +kernel
theorem dX8_addArrow_10 : decode cX8_addArrow 10 = .ok (.iload_n 1, 1) := by decide +kernel
theorem dX8_addArrow_11 : decode cX8_addArrow 11 = .ok (.iload_n 2, 1) := by decide +kernel
theorem dX8_addArrow_12 : decode cX8_addArrow 12 = .ok (.if_icmp .ne 13, 3) := by decide +kernel
theorem dX8_addArrow_15 : decode cX8_addArrow 15 = .ok (.new 71, 3) := by decide +kernel
theorem dX8_addArrow_18 : decode cX8_addArrow 18 = .ok (.dup, 1) := by decide +kernel
theorem dX8_addArrow_19 : decode cX8_addArrow 19 = .ok (.ldc 132, 2) := by decide +kernel
theorem dX8_addArrow_21 : decode cX8_addArrow 21 = .ok (.invokespecial 75, 3) := by decide +kernel
theorem dX8_addArrow_24 : decode cX8_addArrow 24 = .ok (.athrow, 1) := by decide +kernel
theorem dX8_addArrow_25 : decode cX8_addArrow 25 = .ok (.aload_n 0, 1) := by decide +kernel
theorem dX8_addArrow_26 : decode cX8_addArrow 26 = .ok (.getfield 12, 3) := by decide +kernel
theorem dX8_addArrow_29 : decode cX8_addArrow 29 = .ok (.iload_n 1, 1) := by decide +kernel
theorem dX8_addArrow_30 : decode cX8_addArrow 30 = .ok (.iload_n 2, 1) := by decide +kernel
theorem dX8_addArrow_31 : decode cX8_addArrow 31 = .ok (.invokevirtual 134, 3) := by decide +kernel
theorem dX8_addArrow_34 : decode cX8_addArrow 34 = .ok (.ifCond .ne 15, 3) := by decide +kernel
theorem dX8_addArrow_37 : decode cX8_addArrow 37 = .ok (.aload_n 0, 1) := by decide +kernel
theorem dX8_addArrow_38 : decode cX8_addArrow 38 = .ok (.getfield 12, 3) := by decide +kernel
theorem dX8_addArrow_41 : decode cX8_addArrow 41 = .ok (.invokevirtual 137, 3) := by decide +kernel
theorem dX8_addArrow_44 : decode cX8_addArrow 44 = .ok (.bipush 30, 2) := by decide +kernel
theorem dX8_addArrow_46 : decode cX8_addArrow 46 = .ok (.if_icmp .lt 13, 3) := by decide +kernel
theorem dX8_addArrow_49 : decode cX8_addArrow 49 = .ok (.new 107, 3) := by decide +kernel
theorem dX8_addArrow_52 : decode cX8_addArrow 52 = .ok (.dup, 1) := by decide +kernel
theorem dX8_addArrow_53 : decode cX8_addArrow 53 = .ok (.ldc 140, 2) := by decide +kernel
theorem dX8_addArrow_55 : decode cX8_addArrow 55 = .ok (.invokespecial 111, 3) := by decide +kernel
theorem dX8_addArrow_58 : decode cX8_addArrow 58 = .ok (.athrow, 1) := by decide +kernel
theorem dX8_addArrow_59 : decode cX8_addArrow 59 = .ok (.aload_n 0, 1) := by decide +kernel
theorem dX8_addArrow_60 : decode cX8_addArrow 60 = .ok (.getfield 22, 3) := by decide +kernel
theorem dX8_addArrow_63 : decode cX8_addArrow 63 = .ok (.aload_n 0, 1) := by decide +kernel
theorem dX8_addArrow_64 : decode cX8_addArrow 64 = .ok (.getfield 12, 3) := by decide +kernel
theorem dX8_addArrow_67 : decode cX8_addArrow 67 = .ok (.invokevirtual 78, 3) := by decide +kernel
theorem dX8_addArrow_70 : decode cX8_addArrow 70 = .ok (.aload_n 0, 1) := by decide +kernel
theorem dX8_addArrow_71 : decode cX8_addArrow 71 = .ok (.getfield 12, 3) := by decide +kernel
theorem dX8_addArrow_74 : decode cX8_addArrow 74 = .ok (.iload_n 1, 1) := by decide +kernel
theorem dX8_addArrow_75 : decode cX8_addArrow 75 = .ok (.iload_n 2, 1) := by decide +kernel
theorem dX8_addArrow_76 : decode cX8_addArrow 76 = .ok (.invokevirtual 142, 3) := by decide +kernel
theorem dX8_addArrow_79 : decode cX8_addArrow 79 = .ok (.istore_n 3, 1) := by decide +kernel
theorem dX8_addArrow_80 : decode cX8_addArrow 80 = .ok (.aload_n 0, 1) := by decide +kernel
theorem dX8_addArrow_81 : decode cX8_addArrow 81 = .ok (.invokevirtual 90, 3) := by decide +kernel
theorem dX8_addArrow_84 : decode cX8_addArrow 84 = .ok (.iload_n 3, 1) := by decide +kernel
theorem dX8_addArrow_85 : decode cX8_addArrow 85 = .ok (.ireturn, 1) := by decide +kernel
theorem dX8_removeArrow_0 : decode cX8_removeArrow 0 = .ok (.aload_n 0, 1) := by decide +kernel
theorem dX8_removeArrow_1 : decode cX8_removeArrow 1 = .ok (.iload_n 1, 1) := by decide +kernel
theorem dX8_removeArrow_2 : decode cX8_removeArrow 2 = .ok (.invokevirtual 146, 3) := by decide +kernel
theorem dX8_removeArrow_5 : decode cX8_removeArrow 5 = .ok (.aload_n 0, 1) := by decide +kernel
theorem dX8_removeArrow_6 : decode cX8_removeArrow 6 = .ok (.getfield 22, 3) := by decide +kernel
theorem dX8_removeArrow_9 : decode cX8_removeArrow 9 = .ok (.aload_n 0, 1) := by decide +kernel
theorem dX8_removeArrow_10 : decode cX8_removeArrow 10 = .ok (.getfield 12, 3) := by decide +kernel
theorem dX8_removeArrow_13 : decode cX8_removeArrow 13 = .ok (.invokevirtual 78, 3) := by decide +kernel
theorem dX8_removeArrow_16 : decode cX8_removeArrow 16 = .ok (.aload_n 0, 1) := by decide +kernel
theorem dX8_removeArrow_17 : decode cX8_removeArrow 17 = .ok (.getfield 12, 3) := by decide +kernel
theorem dX8_removeArrow_20 : decode cX8_removeArrow 20 = .ok (.iload_n 1, 1) := by decide +kernel
theorem dX8_removeArrow_21 : decode cX8_removeArrow 21 = .ok (.invokevirtual 149, 3) := by decide +kernel
theorem dX8_removeArrow_24 : decode cX8_removeArrow 24 = .ok (.aload_n 0, 1) := by decide +kernel
theorem dX8_removeArrow_25 : decode cX8_removeArrow 25 = .ok (.invokevirtual 90, 3) := by decide +kernel
theorem dX8_removeArrow_28 : decode cX8_removeArrow 28 = .ok (.aload_n 0, 1) := by decide +kernel
theorem dX8_removeArrow_29 : decode cX8_removeArrow 29 = .ok (.getfield 12, 3) := by decide +kernel
theorem dX8_removeArrow_32 : decode cX8_removeArrow 32 = .ok (.invokevirtual 137, 3) := by decide +kernel
theorem dX8_removeArrow_35 : decode cX8_removeArrow 35 = .ok (.ireturn, 1) := by decide +kernel
theorem dX8_task_0 : decode cX8_task 0 = .ok (.aload_n 0, 1) := by decide +kernel
theorem dX8_task_1 : decode cX8_task 1 = .ok (.iload_n 1, 1) := by decide +kernel
theorem dX8_task_2 : decode cX8_task 2 = .ok (.invokevirtual 116, 3) := by decide +kernel
theorem dX8_task_5 : decode cX8_task 5 = .ok (.iload_n 2, 1) := by decide +kernel
theorem dX8_task_6 : decode cX8_task 6 = .ok (.ifCond .lt 9, 3) := by decide +kernel
theorem dX8_task_9 : decode cX8_task 9 = .ok (.iload_n 2, 1) := by decide +kernel
theorem dX8_task_10 : decode cX8_task 10 = .ok (.bipush 7, 2) := by decide +kernel
theorem dX8_task_12 : decode cX8_task 12 = .ok (.if_icmp .lt 13, 3) := by decide +kernel
theorem dX8_task_15 : decode cX8_task 15 = .ok (.new 71, 3) := by decide +kernel
theorem dX8_task_18 : decode cX8_task 18 = .ok (.dup, 1) := by decide +kernel
theorem dX8_task_19 : decode cX8_task 19 = .ok (.ldc 152, 2) := by decide +kernel
theorem dX8_task_21 : decode cX8_task 21 = .ok (.invokespecial 75, 3) := by decide +kernel
theorem dX8_task_24 : decode cX8_task 24 = .ok (.athrow, 1) := by decide +kernel
theorem dX8_task_25 : decode cX8_task 25 = .ok (.aload_n 0, 1) := by decide +kernel
theorem dX8_task_26 : decode cX8_task 26 = .ok (.iload_n 1, 1) := by decide +kernel
theorem dX8_task_27 : decode cX8_task 27 = .ok (.iload_n 2, 1) := by decide +kernel
theorem dX8_task_28 : decode cX8_task 28 = .ok (.invokevirtual 154, 3) := by decide +kernel
theorem dX8_task_31 : decode cX8_task 31 = .ok (.ireturn, 1) := by decide +kernel
theorem dX8_bands_0 : decode cX8_bands 0 = .ok (.aload_n 0, 1) := by decide +kernel
theorem dX8_bands_1 : decode cX8_bands 1 = .ok (.getfield 43, 3) := by decide +kernel
theorem dX8_bands_4 : decode cX8_bands 4 = .ok (.invokevirtual 157, 3) := by decide +kernel
theorem dX8_bands_7 : decode cX8_bands 7 = .ok (.ireturn, 1) := by decide +kernel
theorem dX8_row_0 : decode cX8_row 0 = .ok (.aload_n 0, 1) := by decide +kernel
theorem dX8_row_1 : decode cX8_row 1 = .ok (.iload_n 1, 1) := by decide +kernel
theorem dX8_row_2 : decode cX8_row 2 = .ok (.invokevirtual 160, 3) := by decide +kernel
theorem dX8_row_5 : decode cX8_row 5 = .ok (.aload_n 0, 1) := by decide +kernel
theorem dX8_row_6 : decode cX8_row 6 = .ok (.iload_n 2, 1) := by decide +kernel
theorem dX8_row_7 : decode cX8_row 7 = .ok (.invokevirtual 163, 3) := by decide +kernel
theorem dX8_row_10 : decode cX8_row 10 = .ok (.aload_n 0, 1) := by decide +kernel
theorem dX8_row_11 : decode cX8_row 11 = .ok (.getfield 43, 3) := by decide +kernel
theorem dX8_row_14 : decode cX8_row 14 = .ok (.iload_n 1, 1) := by decide +kernel
theorem dX8_row_15 : decode cX8_row 15 = .ok (.iload_n 2, 1) := by decide +kernel
theorem dX8_row_16 : decode cX8_row 16 = .ok (.invokevirtual 166, 3) := by decide +kernel
theorem dX8_row_19 : decode cX8_row 19 = .ok (.ireturn, 1) := by decide +kernel
theorem dX8_sheets_0 : decode cX8_sheets 0 = .ok (.aload_n 0, 1) := by decide +kernel
theorem dX8_sheets_1 : decode cX8_sheets 1 = .ok (.getfield 50, 3) := by decide +kernel
theorem dX8_sheets_4 : decode cX8_sheets 4 = .ok (.invokevirtual 169, 3) := by decide +kernel
theorem dX8_sheets_7 : decode cX8_sheets 7 = .ok (.ireturn, 1) := by decide +kernel
theorem dX8_sheet_0 : decode cX8_sheet 0 = .ok (.aload_n 0, 1) := by decide +kernel
theorem dX8_sheet_1 : decode cX8_sheet 1 = .ok (.iload_n 1, 1) := by decide +kernel
theorem dX8_sheet_2 : decode cX8_sheet 2 = .ok (.invokevirtual 170, 3) := by decide +kernel
theorem dX8_sheet_5 : decode cX8_sheet 5 = .ok (.iload_n 2, 1) := by decide +kernel
theorem dX8_sheet_6 : decode cX8_sheet 6 = .ok (.ifCond .lt 8, 3) := by decide +kernel
theorem dX8_sheet_9 : decode cX8_sheet 9 = .ok (.iload_n 2, 1) := by decide +kernel
theorem dX8_sheet_10 : decode cX8_sheet 10 = .ok (.iconst 5, 1) := by decide +kernel
theorem dX8_sheet_11 : decode cX8_sheet 11 = .ok (.if_icmp .lt 13, 3) := by decide +kernel
theorem dX8_sheet_14 : decode cX8_sheet 14 = .ok (.new 71, 3) := by decide +kernel
theorem dX8_sheet_17 : decode cX8_sheet 17 = .ok (.dup, 1) := by decide +kernel
theorem dX8_sheet_18 : decode cX8_sheet 18 = .ok (.ldc 173, 2) := by decide +kernel
theorem dX8_sheet_20 : decode cX8_sheet 20 = .ok (.invokespecial 75, 3) := by decide +kernel
theorem dX8_sheet_23 : decode cX8_sheet 23 = .ok (.athrow, 1) := by decide +kernel
theorem dX8_sheet_24 : decode cX8_sheet 24 = .ok (.aload_n 0, 1) := by decide +kernel
theorem dX8_sheet_25 : decode cX8_sheet 25 = .ok (.iload_n 1, 1) := by decide +kernel
theorem dX8_sheet_26 : decode cX8_sheet 26 = .ok (.iload_n 2, 1) := by decide +kernel
theorem dX8_sheet_27 : decode cX8_sheet 27 = .ok (.invokevirtual 175, 3) := by decide +kernel
theorem dX8_sheet_30 : decode cX8_sheet 30 = .ok (.ireturn, 1) := by decide +kernel
theorem dX8_sheetAt_0 : decode cX8_sheetAt 0 = .ok (.aload_n 0, 1) := by decide +kernel
theorem dX8_sheetAt_1 : decode cX8_sheetAt 1 = .ok (.iload_n 1, 1) := by decide +kernel
theorem dX8_sheetAt_2 : decode cX8_sheetAt 2 = .ok (.invokevirtual 160, 3) := by decide +kernel
theorem dX8_sheetAt_5 : decode cX8_sheetAt 5 = .ok (.iload_n 2, 1) := by decide +kernel
theorem dX8_sheetAt_6 : decode cX8_sheetAt 6 = .ok (.ifCond .ge 13, 3) := by decide +kernel
theorem dX8_sheetAt_9 : decode cX8_sheetAt 9 = .ok (.new 71, 3) := by decide +kernel
theorem dX8_sheetAt_12 : decode cX8_sheetAt 12 = .ok (.dup, 1) := by decide +kernel
theorem dX8_sheetAt_13 : decode cX8_sheetAt 13 = .ok (.ldc 178, 2) := by decide +kernel
theorem dX8_sheetAt_15 : decode cX8_sheetAt 15 = .ok (.invokespecial 75, 3) := by decide +kernel
theorem dX8_sheetAt_18 : decode cX8_sheetAt 18 = .ok (.athrow, 1) := by decide +kernel
theorem dX8_sheetAt_19 : decode cX8_sheetAt 19 = .ok (.aload_n 0, 1) := by decide +kernel
theorem dX8_sheetAt_20 : decode cX8_sheetAt 20 = .ok (.getfield 50, 3) := by decide +kernel
theorem dX8_sheetAt_23 : decode cX8_sheetAt 23 = .ok (.iload_n 1, 1) := by decide +kernel
theorem dX8_sheetAt_24 : decode cX8_sheetAt 24 = .ok (.iload_n 2, 1) := by decide +kernel
theorem dX8_sheetAt_25 : decode cX8_sheetAt 25 = .ok (.invokevirtual 180, 3) := by decide +kernel
theorem dX8_sheetAt_28 : decode cX8_sheetAt 28 = .ok (.ireturn, 1) := by decide +kernel
theorem dX8_part_0 : decode cX8_part 0 = .ok (.aload_n 0, 1) := by decide +kernel
theorem dX8_part_1 : decode cX8_part 1 = .ok (.iload_n 1, 1) := by decide +kernel
theorem dX8_part_2 : decode cX8_part 2 = .ok (.invokevirtual 116, 3) := by decide +kernel
theorem dX8_part_5 : decode cX8_part 5 = .ok (.iload_n 2, 1) := by decide +kernel
theorem dX8_part_6 : decode cX8_part 6 = .ok (.ifCond .lt 12, 3) := by decide +kernel
theorem dX8_part_9 : decode cX8_part 9 = .ok (.iload_n 2, 1) := by decide +kernel
theorem dX8_part_10 : decode cX8_part 10 = .ok (.aload_n 0, 1) := by decide +kernel
theorem dX8_part_11 : decode cX8_part 11 = .ok (.iload_n 1, 1) := by decide +kernel
theorem dX8_part_12 : decode cX8_part 12 = .ok (.invokevirtual 183, 3) := by decide +kernel
theorem dX8_part_15 : decode cX8_part 15 = .ok (.if_icmp .lt 13, 3) := by decide +kernel
theorem dX8_part_18 : decode cX8_part 18 = .ok (.new 186, 3) := by decide +kernel
theorem dX8_part_21 : decode cX8_part 21 = .ok (.dup, 1) := by decide +kernel
theorem dX8_part_22 : decode cX8_part 22 = .ok (.ldc 188, 2) := by decide +kernel
theorem dX8_part_24 : decode cX8_part 24 = .ok (.invokespecial 190, 3) := by decide +kernel
theorem dX8_part_27 : decode cX8_part 27 = .ok (.athrow, 1) := by decide +kernel
theorem dX8_part_28 : decode cX8_part 28 = .ok (.iload_n 3, 1) := by decide +kernel
theorem dX8_part_29 : decode cX8_part 29 = .ok (.ifCond .lt 8, 3) := by decide +kernel
theorem dX8_part_32 : decode cX8_part 32 = .ok (.iload_n 3, 1) := by decide +kernel
theorem dX8_part_33 : decode cX8_part 33 = .ok (.iconst 5, 1) := by decide +kernel
theorem dX8_part_34 : decode cX8_part 34 = .ok (.if_icmp .lt 13, 3) := by decide +kernel
theorem dX8_part_37 : decode cX8_part 37 = .ok (.new 71, 3) := by decide +kernel
theorem dX8_part_40 : decode cX8_part 40 = .ok (.dup, 1) := by decide +kernel
theorem dX8_part_41 : decode cX8_part 41 = .ok (.ldc 191, 2) := by decide +kernel
theorem dX8_part_43 : decode cX8_part 43 = .ok (.invokespecial 75, 3) := by decide +kernel
theorem dX8_part_46 : decode cX8_part 46 = .ok (.athrow, 1) := by decide +kernel
theorem dX8_part_47 : decode cX8_part 47 = .ok (.aload_n 0, 1) := by decide +kernel
theorem dX8_part_48 : decode cX8_part 48 = .ok (.iload_n 1, 1) := by decide +kernel
theorem dX8_part_49 : decode cX8_part 49 = .ok (.iload_n 2, 1) := by decide +kernel
theorem dX8_part_50 : decode cX8_part 50 = .ok (.iload_n 3, 1) := by decide +kernel
theorem dX8_part_51 : decode cX8_part 51 = .ok (.invokevirtual 193, 3) := by decide +kernel
theorem dX8_part_54 : decode cX8_part 54 = .ok (.ireturn, 1) := by decide +kernel
theorem dX8_arrow_0 : decode cX8_arrow 0 = .ok (.aload_n 0, 1) := by decide +kernel
theorem dX8_arrow_1 : decode cX8_arrow 1 = .ok (.iload_n 1, 1) := by decide +kernel
theorem dX8_arrow_2 : decode cX8_arrow 2 = .ok (.invokevirtual 146, 3) := by decide +kernel
theorem dX8_arrow_5 : decode cX8_arrow 5 = .ok (.iload_n 2, 1) := by decide +kernel
theorem dX8_arrow_6 : decode cX8_arrow 6 = .ok (.ifCond .lt 9, 3) := by decide +kernel
theorem dX8_arrow_9 : decode cX8_arrow 9 = .ok (.iload_n 2, 1) := by decide +kernel
theorem dX8_arrow_10 : decode cX8_arrow 10 = .ok (.bipush 6, 2) := by decide +kernel
theorem dX8_arrow_12 : decode cX8_arrow 12 = .ok (.if_icmp .lt 13, 3) := by decide +kernel
theorem dX8_arrow_15 : decode cX8_arrow 15 = .ok (.new 71, 3) := by decide +kernel
theorem dX8_arrow_18 : decode cX8_arrow 18 = .ok (.dup, 1) := by decide +kernel
theorem dX8_arrow_19 : decode cX8_arrow 19 = .ok (.ldc 196, 2) := by decide +kernel
theorem dX8_arrow_21 : decode cX8_arrow 21 = .ok (.invokespecial 75, 3) := by decide +kernel
theorem dX8_arrow_24 : decode cX8_arrow 24 = .ok (.athrow, 1) := by decide +kernel
theorem dX8_arrow_25 : decode cX8_arrow 25 = .ok (.aload_n 0, 1) := by decide +kernel
theorem dX8_arrow_26 : decode cX8_arrow 26 = .ok (.iload_n 1, 1) := by decide +kernel
theorem dX8_arrow_27 : decode cX8_arrow 27 = .ok (.iload_n 2, 1) := by decide +kernel
theorem dX8_arrow_28 : decode cX8_arrow 28 = .ok (.invokevirtual 198, 3) := by decide +kernel
theorem dX8_arrow_31 : decode cX8_arrow 31 = .ok (.ireturn, 1) := by decide +kernel
theorem dX8_arrowOf_0 : decode cX8_arrowOf 0 = .ok (.iload_n 1, 1) := by decide +kernel
theorem dX8_arrowOf_1 : decode cX8_arrowOf 1 = .ok (.iconst 1, 1) := by decide +kernel
theorem dX8_arrowOf_2 : decode cX8_arrowOf 2 = .ok (.if_icmp .lt 14, 3) := by decide +kernel
theorem dX8_arrowOf_5 : decode cX8_arrowOf 5 = .ok (.iload_n 1, 1) := by decide +kernel
theorem dX8_arrowOf_6 : decode cX8_arrowOf 6 = .ok (.aload_n 0, 1) := by decide +kernel
theorem dX8_arrowOf_7 : decode cX8_arrowOf 7 = .ok (.getfield 57, 3) := by decide +kernel
theorem dX8_arrowOf_10 : decode cX8_arrowOf 10 = .ok (.invokevirtual 201, 3) := by decide +kernel
theorem dX8_arrowOf_13 : decode cX8_arrowOf 13 = .ok (.if_icmp .le 13, 3) := by decide +kernel
theorem dX8_arrowOf_16 : decode cX8_arrowOf 16 = .ok (.new 186, 3) := by decide +kernel
theorem dX8_arrowOf_19 : decode cX8_arrowOf 19 = .ok (.dup, 1) := by decide +kernel
theorem dX8_arrowOf_20 : decode cX8_arrowOf 20 = .ok (.ldc 202, 2) := by decide +kernel
theorem dX8_arrowOf_22 : decode cX8_arrowOf 22 = .ok (.invokespecial 190, 3) := by decide +kernel
theorem dX8_arrowOf_25 : decode cX8_arrowOf 25 = .ok (.athrow, 1) := by decide +kernel
theorem dX8_arrowOf_26 : decode cX8_arrowOf 26 = .ok (.aload_n 0, 1) := by decide +kernel
theorem dX8_arrowOf_27 : decode cX8_arrowOf 27 = .ok (.getfield 57, 3) := by decide +kernel
theorem dX8_arrowOf_30 : decode cX8_arrowOf 30 = .ok (.iload_n 1, 1) := by decide +kernel
theorem dX8_arrowOf_31 : decode cX8_arrowOf 31 = .ok (.invokevirtual 204, 3) := by decide +kernel
theorem dX8_arrowOf_34 : decode cX8_arrowOf 34 = .ok (.ireturn, 1) := by decide +kernel
theorem dX8_taskAt_0 : decode cX8_taskAt 0 = .ok (.aload_n 0, 1) := by decide +kernel
theorem dX8_taskAt_1 : decode cX8_taskAt 1 = .ok (.iload_n 1, 1) := by decide +kernel
theorem dX8_taskAt_2 : decode cX8_taskAt 2 = .ok (.invokevirtual 170, 3) := by decide +kernel
theorem dX8_taskAt_5 : decode cX8_taskAt 5 = .ok (.aload_n 0, 1) := by decide +kernel
theorem dX8_taskAt_6 : decode cX8_taskAt 6 = .ok (.iload_n 2, 1) := by decide +kernel
theorem dX8_taskAt_7 : decode cX8_taskAt 7 = .ok (.invokevirtual 163, 3) := by decide +kernel
theorem dX8_taskAt_10 : decode cX8_taskAt 10 = .ok (.iload_n 3, 1) := by decide +kernel
theorem dX8_taskAt_11 : decode cX8_taskAt 11 = .ok (.ifCond .lt 15, 3) := by decide +kernel
theorem dX8_taskAt_14 : decode cX8_taskAt 14 = .ok (.iload_n 3, 1) := by decide +kernel
theorem dX8_taskAt_15 : decode cX8_taskAt 15 = .ok (.aload_n 0, 1) := by decide +kernel
theorem dX8_taskAt_16 : decode cX8_taskAt 16 = .ok (.getfield 12, 3) := by decide +kernel
theorem dX8_taskAt_19 : decode cX8_taskAt 19 = .ok (.iconst 1, 1) := by decide +kernel
theorem dX8_taskAt_20 : decode cX8_taskAt 20 = .ok (.invokevirtual 82, 3) := by decide +kernel
theorem dX8_taskAt_23 : decode cX8_taskAt 23 = .ok (.if_icmp .lt 13, 3) := by decide +kernel
theorem dX8_taskAt_26 : decode cX8_taskAt 26 = .ok (.new 186, 3) := by decide +kernel
theorem dX8_taskAt_29 : decode cX8_taskAt 29 = .ok (.dup, 1) := by decide +kernel
theorem dX8_taskAt_30 : decode cX8_taskAt 30 = .ok (.ldc 207, 2) := by decide +kernel
theorem dX8_taskAt_32 : decode cX8_taskAt 32 = .ok (.invokespecial 190, 3) := by decide +kernel
theorem dX8_taskAt_35 : decode cX8_taskAt 35 = .ok (.athrow, 1) := by decide +kernel
theorem dX8_taskAt_36 : decode cX8_taskAt 36 = .ok (.aload_n 0, 1) := by decide +kernel
theorem dX8_taskAt_37 : decode cX8_taskAt 37 = .ok (.getfield 43, 3) := by decide +kernel
theorem dX8_taskAt_40 : decode cX8_taskAt 40 = .ok (.aload_n 0, 1) := by decide +kernel
theorem dX8_taskAt_41 : decode cX8_taskAt 41 = .ok (.getfield 50, 3) := by decide +kernel
theorem dX8_taskAt_44 : decode cX8_taskAt 44 = .ok (.iload_n 1, 1) := by decide +kernel
theorem dX8_taskAt_45 : decode cX8_taskAt 45 = .ok (.invokevirtual 209, 3) := by decide +kernel
theorem dX8_taskAt_48 : decode cX8_taskAt 48 = .ok (.iload_n 2, 1) := by decide +kernel
theorem dX8_taskAt_49 : decode cX8_taskAt 49 = .ok (.invokevirtual 166, 3) := by decide +kernel
theorem dX8_taskAt_52 : decode cX8_taskAt 52 = .ok (.istore 4, 2) := by decide +kernel
theorem dX8_taskAt_54 : decode cX8_taskAt 54 = .ok (.aload_n 0, 1) := by decide +kernel
theorem dX8_taskAt_55 : decode cX8_taskAt 55 = .ok (.getfield 50, 3) := by decide +kernel
theorem dX8_taskAt_58 : decode cX8_taskAt 58 = .ok (.iload_n 1, 1) := by decide +kernel
theorem dX8_taskAt_59 : decode cX8_taskAt 59 = .ok (.invokevirtual 212, 3) := by decide +kernel
theorem dX8_taskAt_62 : decode cX8_taskAt 62 = .ok (.aload_n 0, 1) := by decide +kernel
theorem dX8_taskAt_63 : decode cX8_taskAt 63 = .ok (.getfield 12, 3) := by decide +kernel
theorem dX8_taskAt_66 : decode cX8_taskAt 66 = .ok (.iconst 1, 1) := by decide +kernel
theorem dX8_taskAt_67 : decode cX8_taskAt 67 = .ok (.invokevirtual 82, 3) := by decide +kernel
theorem dX8_taskAt_70 : decode cX8_taskAt 70 = .ok (.imul, 1) := by decide +kernel
theorem dX8_taskAt_71 : decode cX8_taskAt 71 = .ok (.iload_n 3, 1) := by decide +kernel
theorem dX8_taskAt_72 : decode cX8_taskAt 72 = .ok (.iadd, 1) := by decide +kernel
theorem dX8_taskAt_73 : decode cX8_taskAt 73 = .ok (.istore 5, 2) := by decide +kernel
theorem dX8_taskAt_75 : decode cX8_taskAt 75 = .ok (.aload_n 0, 1) := by decide +kernel
theorem dX8_taskAt_76 : decode cX8_taskAt 76 = .ok (.getfield 12, 3) := by decide +kernel
theorem dX8_taskAt_79 : decode cX8_taskAt 79 = .ok (.iload 4, 2) := by decide +kernel
theorem dX8_taskAt_81 : decode cX8_taskAt 81 = .ok (.iload 5, 2) := by decide +kernel
theorem dX8_taskAt_83 : decode cX8_taskAt 83 = .ok (.invokevirtual 215, 3) := by decide +kernel
theorem dX8_taskAt_86 : decode cX8_taskAt 86 = .ok (.ifCond .eq 8, 3) := by decide +kernel
theorem dX8_taskAt_89 : decode cX8_taskAt 89 = .ok (.iload 4, 2) := by decide +kernel
theorem dX8_taskAt_91 : decode cX8_taskAt 91 = .ok (.goto 4, 3) := by decide +kernel
theorem dX8_taskAt_94 : decode cX8_taskAt 94 = .ok (.iconst (-1), 1) := by decide +kernel
theorem dX8_taskAt_95 : decode cX8_taskAt 95 = .ok (.ireturn, 1) := by decide +kernel
theorem dX8_covered_0 : decode cX8_covered 0 = .ok (.aload_n 0, 1) := by decide +kernel
theorem dX8_covered_1 : decode cX8_covered 1 = .ok (.getfield 12, 3) := by decide +kernel
theorem dX8_covered_4 : decode cX8_covered 4 = .ok (.iconst 0, 1) := by decide +kernel
theorem dX8_covered_5 : decode cX8_covered 5 = .ok (.invokevirtual 82, 3) := by decide +kernel
theorem dX8_covered_8 : decode cX8_covered 8 = .ok (.aload_n 0, 1) := by decide +kernel
theorem dX8_covered_9 : decode cX8_covered 9 = .ok (.getfield 12, 3) := by decide +kernel
theorem dX8_covered_12 : decode cX8_covered 12 = .ok (.iconst 1, 1) := by decide +kernel
theorem dX8_covered_13 : decode cX8_covered 13 = .ok (.invokevirtual 82, 3) := by decide +kernel
theorem dX8_covered_16 : decode cX8_covered 16 = .ok (.imul, 1) := by decide +kernel
theorem dX8_covered_17 : decode cX8_covered 17 = .ok (.aload_n 0, 1) := by decide +kernel
theorem dX8_covered_18 : decode cX8_covered 18 = .ok (.getfield 50, 3) := by decide +kernel
theorem dX8_covered_21 : decode cX8_covered 21 = .ok (.invokevirtual 169, 3) := by decide +kernel
theorem dX8_covered_24 : decode cX8_covered 24 = .ok (.imul, 1) := by decide +kernel
theorem dX8_covered_25 : decode cX8_covered 25 = .ok (.istore_n 1, 1) := by decide +kernel
theorem dX8_covered_26 : decode cX8_covered 26 = .ok (.iload_n 1, 1) := by decide +kernel
theorem dX8_covered_27 : decode cX8_covered 27 = .ok (.ifCond .le 17, 3) := by decide +kernel
theorem dX8_covered_30 : decode cX8_covered 30 = .ok (.aload_n 0, 1) := by decide +kernel
theorem dX8_covered_31 : decode cX8_covered 31 = .ok (.getfield 12, 3) := by decide +kernel
theorem dX8_covered_34 : decode cX8_covered 34 = .ok (.invokevirtual 218, 3) := by decide +kernel
theorem dX8_covered_37 : decode cX8_covered 37 = .ok (.i2d, 1) := by decide +kernel
theorem dX8_covered_38 : decode cX8_covered 38 = .ok (.iload_n 1, 1) := by decide +kernel
theorem dX8_covered_39 : decode cX8_covered 39 = .ok (.i2d, 1) := by decide +kernel
theorem dX8_covered_40 : decode cX8_covered 40 = .ok (.ddiv, 1) := by decide +kernel
theorem dX8_covered_41 : decode cX8_covered 41 = .ok (.goto 4, 3) := by decide +kernel
theorem dX8_covered_44 : decode cX8_covered 44 = .ok (.dconst 0, 1) := by decide +kernel
theorem dX8_covered_45 : decode cX8_covered 45 = .ok (.dreturn, 1) := by decide +kernel
theorem dX8_sheetsWith_0 : decode cX8_sheetsWith 0 = .ok (.iconst 0, 1) := by decide +kernel
theorem dX8_sheetsWith_1 : decode cX8_sheetsWith 1 = .ok (.iload_n 1, 1) := by decide +kernel
theorem dX8_sheetsWith_2 : decode cX8_sheetsWith 2 = .ok (.invokestatic 67, 3) := by decide +kernel
theorem dX8_sheetsWith_5 : decode cX8_sheetsWith 5 = .ok (.ifCond .eq 11, 3) := by decide +kernel
theorem dX8_sheetsWith_8 : decode cX8_sheetsWith 8 = .ok (.iconst 1, 1) := by decide +kernel
theorem dX8_sheetsWith_9 : decode cX8_sheetsWith 9 = .ok (.iload_n 2, 1) := by decide +kernel
theorem dX8_sheetsWith_10 : decode cX8_sheetsWith 10 = .ok (.invokestatic 67, 3) := by decide +kernel
theorem dX8_sheetsWith_13 : decode cX8_sheetsWith 13 = .ok (.ifCond .ne 13, 3) := by decide +kernel
theorem dX8_sheetsWith_16 : decode cX8_sheetsWith 16 = .ok (.new 71, 3) := by decide +kernel
theorem dX8_sheetsWith_19 : decode cX8_sheetsWith 19 = .ok (.dup, 1) := by decide +kernel
theorem dX8_sheetsWith_20 : decode cX8_sheetsWith 20 = .ok (.ldc 221, 2) := by decide +kernel
theorem dX8_sheetsWith_22 : decode cX8_sheetsWith 22 = .ok (.invokespecial 75, 3) := by decide +kernel
theorem dX8_sheetsWith_25 : decode cX8_sheetsWith 25 = .ok (.athrow, 1) := by decide +kernel
theorem dX8_sheetsWith_26 : decode cX8_sheetsWith 26 = .ok (.aload_n 0, 1) := by decide +kernel
theorem dX8_sheetsWith_27 : decode cX8_sheetsWith 27 = .ok (.getfield 61, 3) := by decide +kernel
theorem dX8_sheetsWith_30 : decode cX8_sheetsWith 30 = .ok (.aload_n 0, 1) := by decide +kernel
theorem dX8_sheetsWith_31 : decode cX8_sheetsWith 31 = .ok (.getfield 12, 3) := by decide +kernel
theorem dX8_sheetsWith_34 : decode cX8_sheetsWith 34 = .ok (.iload_n 1, 1) := by decide +kernel
theorem dX8_sheetsWith_35 : decode cX8_sheetsWith 35 = .ok (.invokevirtual 223, 3) := by decide +kernel
theorem dX8_sheetsWith_38 : decode cX8_sheetsWith 38 = .ok (.aload_n 0, 1) := by decide +kernel
theorem dX8_sheetsWith_39 : decode cX8_sheetsWith 39 = .ok (.getfield 64, 3) := by decide +kernel
theorem dX8_sheetsWith_42 : decode cX8_sheetsWith 42 = .ok (.aload_n 0, 1) := by decide +kernel
theorem dX8_sheetsWith_43 : decode cX8_sheetsWith 43 = .ok (.getfield 12, 3) := by decide +kernel
theorem dX8_sheetsWith_46 : decode cX8_sheetsWith 46 = .ok (.aload_n 0, 1) := by decide +kernel
theorem dX8_sheetsWith_47 : decode cX8_sheetsWith 47 = .ok (.getfield 61, 3) := by decide +kernel
theorem dX8_sheetsWith_50 : decode cX8_sheetsWith 50 = .ok (.iload_n 2, 1) := by decide +kernel
theorem dX8_sheetsWith_51 : decode cX8_sheetsWith 51 = .ok (.invokevirtual 227, 3) := by decide +kernel
theorem dX8_sheetsWith_54 : decode cX8_sheetsWith 54 = .ok (.aload_n 0, 1) := by decide +kernel
theorem dX8_sheetsWith_55 : decode cX8_sheetsWith 55 = .ok (.getfield 64, 3) := by decide +kernel
theorem dX8_sheetsWith_58 : decode cX8_sheetsWith 58 = .ok (.invokevirtual 169, 3) := by decide +kernel
theorem dX8_sheetsWith_61 : decode cX8_sheetsWith 61 = .ok (.ireturn, 1) := by decide +kernel
theorem dX8_fewestExits_0 : decode cX8_fewestExits 0 = .ok (.iconst 5, 1) := by decide +kernel
theorem dX8_fewestExits_1 : decode cX8_fewestExits 1 = .ok (.istore_n 1, 1) := by decide +kernel
theorem dX8_fewestExits_2 : decode cX8_fewestExits 2 = .ok (.bipush 31, 2) := by decide +kernel
theorem dX8_fewestExits_4 : decode cX8_fewestExits 4 = .ok (.istore_n 2, 1) := by decide +kernel
theorem dX8_fewestExits_5 : decode cX8_fewestExits 5 = .ok (.iconst 5, 1) := by decide +kernel
theorem dX8_fewestExits_6 : decode cX8_fewestExits 6 = .ok (.istore_n 3, 1) := by decide +kernel
theorem dX8_fewestExits_7 : decode cX8_fewestExits 7 = .ok (.iload_n 3, 1) := by decide +kernel
theorem dX8_fewestExits_8 : decode cX8_fewestExits 8 = .ok (.bipush 60, 2) := by decide +kernel
theorem dX8_fewestExits_10 : decode cX8_fewestExits 10 = .ok (.if_icmp .gt 27, 3) := by decide +kernel
theorem dX8_fewestExits_13 : decode cX8_fewestExits 13 = .ok (.aload_n 0, 1) := by decide +kernel
theorem dX8_fewestExits_14 : decode cX8_fewestExits 14 = .ok (.iload_n 3, 1) := by decide +kernel
theorem dX8_fewestExits_15 : decode cX8_fewestExits 15 = .ok (.invokevirtual 231, 3) := by decide +kernel
theorem dX8_fewestExits_18 : decode cX8_fewestExits 18 = .ok (.istore 4, 2) := by decide +kernel
theorem dX8_fewestExits_20 : decode cX8_fewestExits 20 = .ok (.iload 4, 2) := by decide +kernel
theorem dX8_fewestExits_22 : decode cX8_fewestExits 22 = .ok (.iload_n 2, 1) := by decide +kernel
theorem dX8_fewestExits_23 : decode cX8_fewestExits 23 = .ok (.if_icmp .ge 8, 3) := by decide +kernel
theorem dX8_fewestExits_26 : decode cX8_fewestExits 26 = .ok (.iload 4, 2) := by decide +kernel
theorem dX8_fewestExits_28 : decode cX8_fewestExits 28 = .ok (.istore_n 2, 1) := by decide +kernel
theorem dX8_fewestExits_29 : decode cX8_fewestExits 29 = .ok (.iload_n 3, 1) := by decide +kernel
theorem dX8_fewestExits_30 : decode cX8_fewestExits 30 = .ok (.istore_n 1, 1) := by decide +kernel
theorem dX8_fewestExits_31 : decode cX8_fewestExits 31 = .ok (.iinc 3 1, 3) := by decide +kernel
theorem dX8_fewestExits_34 : decode cX8_fewestExits 34 = .ok (.goto (-27), 3) := by decide +kernel
theorem dX8_fewestExits_37 : decode cX8_fewestExits 37 = .ok (.iload_n 1, 1) := by decide +kernel
theorem dX8_fewestExits_38 : decode cX8_fewestExits 38 = .ok (.ireturn, 1) := by decide +kernel
theorem dX8_delay_0 : decode cX8_delay 0 = .ok (.aload_n 0, 1) := by decide +kernel
theorem dX8_delay_1 : decode cX8_delay 1 = .ok (.iload_n 1, 1) := by decide +kernel
theorem dX8_delay_2 : decode cX8_delay 2 = .ok (.invokevirtual 116, 3) := by decide +kernel
theorem dX8_delay_5 : decode cX8_delay 5 = .ok (.iconst 0, 1) := by decide +kernel
theorem dX8_delay_6 : decode cX8_delay 6 = .ok (.istore_n 2, 1) := by decide +kernel
theorem dX8_delay_7 : decode cX8_delay 7 = .ok (.iconst 0, 1) := by decide +kernel
theorem dX8_delay_8 : decode cX8_delay 8 = .ok (.istore_n 3, 1) := by decide +kernel
theorem dX8_delay_9 : decode cX8_delay 9 = .ok (.iload_n 3, 1) := by decide +kernel
theorem dX8_delay_10 : decode cX8_delay 10 = .ok (.aload_n 0, 1) := by decide +kernel
theorem dX8_delay_11 : decode cX8_delay 11 = .ok (.getfield 12, 3) := by decide +kernel
theorem dX8_delay_14 : decode cX8_delay 14 = .ok (.invokevirtual 137, 3) := by decide +kernel
theorem dX8_delay_17 : decode cX8_delay 17 = .ok (.if_icmp .ge 52, 3) := by decide +kernel
theorem dX8_delay_20 : decode cX8_delay 20 = .ok (.aload_n 0, 1) := by decide +kernel
theorem dX8_delay_21 : decode cX8_delay 21 = .ok (.getfield 12, 3) := by decide +kernel
theorem dX8_delay_24 : decode cX8_delay 24 = .ok (.iload_n 3, 1) := by decide +kernel
theorem dX8_delay_25 : decode cX8_delay 25 = .ok (.invokevirtual 234, 3) := by decide +kernel
theorem dX8_delay_28 : decode cX8_delay 28 = .ok (.iload_n 1, 1) := by decide +kernel
theorem dX8_delay_29 : decode cX8_delay 29 = .ok (.if_icmp .ne 34, 3) := by decide +kernel
theorem dX8_delay_32 : decode cX8_delay 32 = .ok (.iload_n 2, 1) := by decide +kernel
theorem dX8_delay_33 : decode cX8_delay 33 = .ok (.aload_n 0, 1) := by decide +kernel
theorem dX8_delay_34 : decode cX8_delay 34 = .ok (.getfield 12, 3) := by decide +kernel
theorem dX8_delay_37 : decode cX8_delay 37 = .ok (.aload_n 0, 1) := by decide +kernel
theorem dX8_delay_38 : decode cX8_delay 38 = .ok (.getfield 12, 3) := by decide +kernel
theorem dX8_delay_41 : decode cX8_delay 41 = .ok (.iload_n 3, 1) := by decide +kernel
theorem dX8_delay_42 : decode cX8_delay 42 = .ok (.invokevirtual 237, 3) := by decide +kernel
theorem dX8_delay_45 : decode cX8_delay 45 = .ok (.invokevirtual 240, 3) := by decide +kernel
theorem dX8_delay_48 : decode cX8_delay 48 = .ok (.iconst 1, 1) := by decide +kernel
theorem dX8_delay_49 : decode cX8_delay 49 = .ok (.iadd, 1) := by decide +kernel
theorem dX8_delay_50 : decode cX8_delay 50 = .ok (.aload_n 0, 1) := by decide +kernel
theorem dX8_delay_51 : decode cX8_delay 51 = .ok (.getfield 12, 3) := by decide +kernel
theorem dX8_delay_54 : decode cX8_delay 54 = .ok (.iload_n 1, 1) := by decide +kernel
theorem dX8_delay_55 : decode cX8_delay 55 = .ok (.invokevirtual 122, 3) := by decide +kernel
theorem dX8_delay_58 : decode cX8_delay 58 = .ok (.isub, 1) := by decide +kernel
theorem dX8_delay_59 : decode cX8_delay 59 = .ok (.invokestatic 243, 3) := by decide +kernel
theorem dX8_delay_62 : decode cX8_delay 62 = .ok (.istore_n 2, 1) := by decide +kernel
theorem dX8_delay_63 : decode cX8_delay 63 = .ok (.iinc 3 1, 3) := by decide +kernel
theorem dX8_delay_66 : decode cX8_delay 66 = .ok (.goto (-57), 3) := by decide +kernel
theorem dX8_delay_69 : decode cX8_delay 69 = .ok (.iload_n 2, 1) := by decide +kernel
theorem dX8_delay_70 : decode cX8_delay 70 = .ok (.ireturn, 1) := by decide +kernel
theorem dX8_longestChain_0 : decode cX8_longestChain 0 = .ok (.aload_n 0, 1) := by decide +kernel
theorem dX8_longestChain_1 : decode cX8_longestChain 1 = .ok (.getfield 36, 3) := by decide +kernel
theorem dX8_longestChain_4 : decode cX8_longestChain 4 = .ok (.aload_n 0, 1) := by decide +kernel
theorem dX8_longestChain_5 : decode cX8_longestChain 5 = .ok (.getfield 12, 3) := by decide +kernel
theorem dX8_longestChain_8 : decode cX8_longestChain 8 = .ok (.invokevirtual 248, 3) := by decide +kernel
theorem dX8_longestChain_11 : decode cX8_longestChain 11 = .ok (.ireturn, 1) := by decide +kernel
theorem dX8_append_0 : decode cX8_append 0 = .ok (.iload_n 1, 1) := by decide +kernel
theorem dX8_append_1 : decode cX8_append 1 = .ok (.ifCond .lt 9, 3) := by decide +kernel
theorem dX8_append_4 : decode cX8_append 4 = .ok (.iload_n 1, 1) := by decide +kernel
theorem dX8_append_5 : decode cX8_append 5 = .ok (.bipush 127, 2) := by decide +kernel
theorem dX8_append_7 : decode cX8_append 7 = .ok (.if_icmp .le 13, 3) := by decide +kernel
theorem dX8_append_10 : decode cX8_append 10 = .ok (.new 71, 3) := by decide +kernel
theorem dX8_append_13 : decode cX8_append 13 = .ok (.dup, 1) := by decide +kernel
theorem dX8_append_14 : decode cX8_append 14 = .ok (.ldc 252, 2) := by decide +kernel
theorem dX8_append_16 : decode cX8_append 16 = .ok (.invokespecial 75, 3) := by decide +kernel
theorem dX8_append_19 : decode cX8_append 19 = .ok (.athrow, 1) := by decide +kernel
theorem dX8_append_20 : decode cX8_append 20 = .ok (.aload_n 0, 1) := by decide +kernel
theorem dX8_append_21 : decode cX8_append 21 = .ok (.getfield 29, 3) := by decide +kernel
theorem dX8_append_24 : decode cX8_append 24 = .ok (.invokevirtual 254, 3) := by decide +kernel
theorem dX8_append_27 : decode cX8_append 27 = .ok (.sipush 150, 3) := by decide +kernel
theorem dX8_append_30 : decode cX8_append 30 = .ok (.if_icmp .lt 14, 3) := by decide +kernel
theorem dX8_append_33 : decode cX8_append 33 = .ok (.new 107, 3) := by decide +kernel
theorem dX8_append_36 : decode cX8_append 36 = .ok (.dup, 1) := by decide +kernel
theorem dX8_append_37 : decode cX8_append 37 = .ok (.ldc_w 257, 3) := by decide +kernel
theorem dX8_append_40 : decode cX8_append 40 = .ok (.invokespecial 111, 3) := by decide +kernel
theorem dX8_append_43 : decode cX8_append 43 = .ok (.athrow, 1) := by decide +kernel
theorem dX8_append_44 : decode cX8_append 44 = .ok (.aload_n 0, 1) := by decide +kernel
theorem dX8_append_45 : decode cX8_append 45 = .ok (.getfield 29, 3) := by decide +kernel
theorem dX8_append_48 : decode cX8_append 48 = .ok (.iload_n 1, 1) := by decide +kernel
theorem dX8_append_49 : decode cX8_append 49 = .ok (.invokevirtual 259, 3) := by decide +kernel
theorem dX8_append_52 : decode cX8_append 52 = .ok (.aload_n 0, 1) := by decide +kernel
theorem dX8_append_53 : decode cX8_append 53 = .ok (.getfield 29, 3) := by decide +kernel
theorem dX8_append_56 : decode cX8_append 56 = .ok (.invokevirtual 254, 3) := by decide +kernel
theorem dX8_append_59 : decode cX8_append 59 = .ok (.ireturn, 1) := by decide +kernel
theorem dX8_clearText_0 : decode cX8_clearText 0 = .ok (.aload_n 0, 1) := by decide +kernel
theorem dX8_clearText_1 : decode cX8_clearText 1 = .ok (.getfield 29, 3) := by decide +kernel
theorem dX8_clearText_4 : decode cX8_clearText 4 = .ok (.invokevirtual 254, 3) := by decide +kernel
theorem dX8_clearText_7 : decode cX8_clearText 7 = .ok (.istore_n 1, 1) := by decide +kernel
theorem dX8_clearText_8 : decode cX8_clearText 8 = .ok (.aload_n 0, 1) := by decide +kernel
theorem dX8_clearText_9 : decode cX8_clearText 9 = .ok (.getfield 29, 3) := by decide +kernel
theorem dX8_clearText_12 : decode cX8_clearText 12 = .ok (.invokevirtual 262, 3) := by decide +kernel
theorem dX8_clearText_15 : decode cX8_clearText 15 = .ok (.iload_n 1, 1) := by decide +kernel
theorem dX8_clearText_16 : decode cX8_clearText 16 = .ok (.ireturn, 1) := by decide +kernel
theorem dX8_parse_0 : decode cX8_parse 0 = .ok (.aload_n 0, 1) := by decide +kernel
theorem dX8_parse_1 : decode cX8_parse 1 = .ok (.getfield 29, 3) := by decide +kernel
theorem dX8_parse_4 : decode cX8_parse 4 = .ok (.aload_n 0, 1) := by decide +kernel
theorem dX8_parse_5 : decode cX8_parse 5 = .ok (.getfield 16, 3) := by decide +kernel
theorem dX8_parse_8 : decode cX8_parse 8 = .ok (.invokevirtual 265, 3) := by decide +kernel
theorem dX8_parse_11 : decode cX8_parse 11 = .ok (.istore_n 1, 1) := by decide +kernel
theorem dX8_parse_12 : decode cX8_parse 12 = .ok (.iload_n 1, 1) := by decide +kernel
theorem dX8_parse_13 : decode cX8_parse 13 = .ok (.iconst (-1), 1) := by decide +kernel
theorem dX8_parse_14 : decode cX8_parse 14 = .ok (.if_icmp .eq 8, 3) := by decide +kernel
theorem dX8_parse_17 : decode cX8_parse 17 = .ok (.bipush (-10), 2) := by decide +kernel
theorem dX8_parse_19 : decode cX8_parse 19 = .ok (.iload_n 1, 1) := by decide +kernel
theorem dX8_parse_20 : decode cX8_parse 20 = .ok (.isub, 1) := by decide +kernel
theorem dX8_parse_21 : decode cX8_parse 21 = .ok (.ireturn, 1) := by decide +kernel
theorem dX8_parse_22 : decode cX8_parse 22 = .ok (.aload_n 0, 1) := by decide +kernel
theorem dX8_parse_23 : decode cX8_parse 23 = .ok (.getfield 22, 3) := by decide +kernel
theorem dX8_parse_26 : decode cX8_parse 26 = .ok (.aload_n 0, 1) := by decide +kernel
theorem dX8_parse_27 : decode cX8_parse 27 = .ok (.getfield 12, 3) := by decide +kernel
theorem dX8_parse_30 : decode cX8_parse 30 = .ok (.invokevirtual 78, 3) := by decide +kernel
theorem dX8_parse_33 : decode cX8_parse 33 = .ok (.aload_n 0, 1) := by decide +kernel
theorem dX8_parse_34 : decode cX8_parse 34 = .ok (.getfield 12, 3) := by decide +kernel
theorem dX8_parse_37 : decode cX8_parse 37 = .ok (.aload_n 0, 1) := by decide +kernel
theorem dX8_parse_38 : decode cX8_parse 38 = .ok (.getfield 16, 3) := by decide +kernel
theorem dX8_parse_41 : decode cX8_parse 41 = .ok (.invokevirtual 268, 3) := by decide +kernel
theorem dX8_parse_44 : decode cX8_parse 44 = .ok (.aload_n 0, 1) := by decide +kernel
theorem dX8_parse_45 : decode cX8_parse 45 = .ok (.invokevirtual 90, 3) := by decide +kernel
theorem dX8_parse_48 : decode cX8_parse 48 = .ok (.aload_n 0, 1) := by decide +kernel
theorem dX8_parse_49 : decode cX8_parse 49 = .ok (.getfield 12, 3) := by decide +kernel
theorem dX8_parse_52 : decode cX8_parse 52 = .ok (.invokevirtual 103, 3) := by decide +kernel
theorem dX8_parse_55 : decode cX8_parse 55 = .ok (.ireturn, 1) := by decide +kernel
theorem dX8_undo_0 : decode cX8_undo 0 = .ok (.aload_n 0, 1) := by decide +kernel
theorem dX8_undo_1 : decode cX8_undo 1 = .ok (.getfield 22, 3) := by decide +kernel
theorem dX8_undo_4 : decode cX8_undo 4 = .ok (.invokevirtual 271, 3) := by decide +kernel
theorem dX8_undo_7 : decode cX8_undo 7 = .ok (.ifCond .ne 14, 3) := by decide +kernel
theorem dX8_undo_10 : decode cX8_undo 10 = .ok (.new 107, 3) := by decide +kernel
theorem dX8_undo_13 : decode cX8_undo 13 = .ok (.dup, 1) := by decide +kernel
theorem dX8_undo_14 : decode cX8_undo 14 = .ok (.ldc_w 272, 3) := by decide +kernel
theorem dX8_undo_17 : decode cX8_undo 17 = .ok (.invokespecial 111, 3) := by decide +kernel
theorem dX8_undo_20 : decode cX8_undo 20 = .ok (.athrow, 1) := by decide +kernel
theorem dX8_undo_21 : decode cX8_undo 21 = .ok (.aload_n 0, 1) := by decide +kernel
theorem dX8_undo_22 : decode cX8_undo 22 = .ok (.getfield 22, 3) := by decide +kernel
theorem dX8_undo_25 : decode cX8_undo 25 = .ok (.aload_n 0, 1) := by decide +kernel
theorem dX8_undo_26 : decode cX8_undo 26 = .ok (.getfield 12, 3) := by decide +kernel
theorem dX8_undo_29 : decode cX8_undo 29 = .ok (.invokevirtual 274, 3) := by decide +kernel
theorem dX8_undo_32 : decode cX8_undo 32 = .ok (.aload_n 0, 1) := by decide +kernel
theorem dX8_undo_33 : decode cX8_undo 33 = .ok (.invokevirtual 90, 3) := by decide +kernel
theorem dX8_undo_36 : decode cX8_undo 36 = .ok (.aload_n 0, 1) := by decide +kernel
theorem dX8_undo_37 : decode cX8_undo 37 = .ok (.getfield 22, 3) := by decide +kernel
theorem dX8_undo_40 : decode cX8_undo 40 = .ok (.invokevirtual 271, 3) := by decide +kernel
theorem dX8_undo_43 : decode cX8_undo 43 = .ok (.ireturn, 1) := by decide +kernel
theorem dX8_digest_0 : decode cX8_digest 0 = .ok (.ldc2_w 277, 3) := by decide +kernel
theorem dX8_digest_3 : decode cX8_digest 3 = .ok (.aload_n 0, 1) := by decide +kernel
theorem dX8_digest_4 : decode cX8_digest 4 = .ok (.getfield 29, 3) := by decide +kernel
theorem dX8_digest_7 : decode cX8_digest 7 = .ok (.invokevirtual 254, 3) := by decide +kernel
theorem dX8_digest_10 : decode cX8_digest 10 = .ok (.i2l, 1) := by decide +kernel
theorem dX8_digest_11 : decode cX8_digest 11 = .ok (.ladd, 1) := by decide +kernel
theorem dX8_digest_12 : decode cX8_digest 12 = .ok (.lstore_n 1, 1) := by decide +kernel
theorem dX8_digest_13 : decode cX8_digest 13 = .ok (.iconst 0, 1) := by decide +kernel
theorem dX8_digest_14 : decode cX8_digest 14 = .ok (.istore_n 3, 1) := by decide +kernel
theorem dX8_digest_15 : decode cX8_digest 15 = .ok (.iload_n 3, 1) := by decide +kernel
theorem dX8_digest_16 : decode cX8_digest 16 = .ok (.bipush 6, 2) := by decide +kernel
theorem dX8_digest_18 : decode cX8_digest 18 = .ok (.if_icmp .ge 22, 3) := by decide +kernel
theorem dX8_digest_21 : decode cX8_digest 21 = .ok (.ldc2_w 279, 3) := by decide +kernel
theorem dX8_digest_24 : decode cX8_digest 24 = .ok (.lload_n 1, 1) := by decide +kernel
theorem dX8_digest_25 : decode cX8_digest 25 = .ok (.lmul, 1) := by decide +kernel
theorem dX8_digest_26 : decode cX8_digest 26 = .ok (.aload_n 0, 1) := by decide +kernel
theorem dX8_digest_27 : decode cX8_digest 27 = .ok (.iload_n 3, 1) := by decide +kernel
theorem dX8_digest_28 : decode cX8_digest 28 = .ok (.invokevirtual 95, 3) := by decide +kernel
theorem dX8_digest_31 : decode cX8_digest 31 = .ok (.i2l, 1) := by decide +kernel
theorem dX8_digest_32 : decode cX8_digest 32 = .ok (.ladd, 1) := by decide +kernel
theorem dX8_digest_33 : decode cX8_digest 33 = .ok (.lstore_n 1, 1) := by decide +kernel
theorem dX8_digest_34 : decode cX8_digest 34 = .ok (.iinc 3 1, 3) := by decide +kernel
theorem dX8_digest_37 : decode cX8_digest 37 = .ok (.goto (-22), 3) := by decide +kernel
theorem dX8_digest_40 : decode cX8_digest 40 = .ok (.aload_n 0, 1) := by decide +kernel
theorem dX8_digest_41 : decode cX8_digest 41 = .ok (.lload_n 1, 1) := by decide +kernel
theorem dX8_digest_42 : decode cX8_digest 42 = .ok (.invokevirtual 281, 3) := by decide +kernel
theorem dX8_digest_45 : decode cX8_digest 45 = .ok (.lstore_n 1, 1) := by decide +kernel
theorem dX8_digest_46 : decode cX8_digest 46 = .ok (.aload_n 0, 1) := by decide +kernel
theorem dX8_digest_47 : decode cX8_digest 47 = .ok (.lload_n 1, 1) := by decide +kernel
theorem dX8_digest_48 : decode cX8_digest 48 = .ok (.invokevirtual 285, 3) := by decide +kernel
theorem dX8_digest_51 : decode cX8_digest 51 = .ok (.lstore_n 1, 1) := by decide +kernel
theorem dX8_digest_52 : decode cX8_digest 52 = .ok (.aload_n 0, 1) := by decide +kernel
theorem dX8_digest_53 : decode cX8_digest 53 = .ok (.lload_n 1, 1) := by decide +kernel
theorem dX8_digest_54 : decode cX8_digest 54 = .ok (.invokevirtual 288, 3) := by decide +kernel
theorem dX8_digest_57 : decode cX8_digest 57 = .ok (.lstore_n 1, 1) := by decide +kernel
theorem dX8_digest_58 : decode cX8_digest 58 = .ok (.aload_n 0, 1) := by decide +kernel
theorem dX8_digest_59 : decode cX8_digest 59 = .ok (.lload_n 1, 1) := by decide +kernel
theorem dX8_digest_60 : decode cX8_digest 60 = .ok (.invokevirtual 291, 3) := by decide +kernel
theorem dX8_digest_63 : decode cX8_digest 63 = .ok (.lstore_n 1, 1) := by decide +kernel
theorem dX8_digest_64 : decode cX8_digest 64 = .ok (.ldc2_w 279, 3) := by decide +kernel
theorem dX8_digest_67 : decode cX8_digest 67 = .ok (.lload_n 1, 1) := by decide +kernel
theorem dX8_digest_68 : decode cX8_digest 68 = .ok (.lmul, 1) := by decide +kernel
theorem dX8_digest_69 : decode cX8_digest 69 = .ok (.aload_n 0, 1) := by decide +kernel
theorem dX8_digest_70 : decode cX8_digest 70 = .ok (.getfield 36, 3) := by decide +kernel
theorem dX8_digest_73 : decode cX8_digest 73 = .ok (.aload_n 0, 1) := by decide +kernel
theorem dX8_digest_74 : decode cX8_digest 74 = .ok (.getfield 12, 3) := by decide +kernel
theorem dX8_digest_77 : decode cX8_digest 77 = .ok (.invokevirtual 248, 3) := by decide +kernel
theorem dX8_digest_80 : decode cX8_digest 80 = .ok (.i2l, 1) := by decide +kernel
theorem dX8_digest_81 : decode cX8_digest 81 = .ok (.ladd, 1) := by decide +kernel
theorem dX8_digest_82 : decode cX8_digest 82 = .ok (.lstore_n 1, 1) := by decide +kernel
theorem dX8_digest_83 : decode cX8_digest 83 = .ok (.ldc2_w 279, 3) := by decide +kernel
theorem dX8_digest_86 : decode cX8_digest 86 = .ok (.lload_n 1, 1) := by decide +kernel
theorem dX8_digest_87 : decode cX8_digest 87 = .ok (.lmul, 1) := by decide +kernel
theorem dX8_digest_88 : decode cX8_digest 88 = .ok (.aload_n 0, 1) := by decide +kernel
theorem dX8_digest_89 : decode cX8_digest 89 = .ok (.getfield 22, 3) := by decide +kernel
theorem dX8_digest_92 : decode cX8_digest 92 = .ok (.invokevirtual 271, 3) := by decide +kernel
theorem dX8_digest_95 : decode cX8_digest 95 = .ok (.i2l, 1) := by decide +kernel
theorem dX8_digest_96 : decode cX8_digest 96 = .ok (.ladd, 1) := by decide +kernel
theorem dX8_digest_97 : decode cX8_digest 97 = .ok (.lreturn, 1) := by decide +kernel
theorem dX8_digestTasks_0 : decode cX8_digestTasks 0 = .ok (.lload_n 1, 1) := by decide +kernel
theorem dX8_digestTasks_1 : decode cX8_digestTasks 1 = .ok (.lstore_n 3, 1) := by decide +kernel
theorem dX8_digestTasks_2 : decode cX8_digestTasks 2 = .ok (.iconst 0, 1) := by decide +kernel
theorem dX8_digestTasks_3 : decode cX8_digestTasks 3 = .ok (.istore 5, 2) := by decide +kernel
theorem dX8_digestTasks_5 : decode cX8_digestTasks 5 = .ok (.iload 5, 2) := by decide +kernel
theorem dX8_digestTasks_7 : decode cX8_digestTasks 7 = .ok (.aload_n 0, 1) := by decide +kernel
theorem dX8_digestTasks_8 : decode cX8_digestTasks 8 = .ok (.getfield 12, 3) := by decide +kernel
theorem dX8_digestTasks_11 : decode cX8_digestTasks 11 = .ok (.invokevirtual 103, 3) := by decide +kernel
theorem dX8_digestTasks_14 : decode cX8_digestTasks 14 = .ok (.if_icmp .ge 41, 3) := by decide +kernel
theorem dX8_digestTasks_17 : decode cX8_digestTasks 17 = .ok (.iconst 0, 1) := by decide +kernel
theorem dX8_digestTasks_18 : decode cX8_digestTasks 18 = .ok (.istore 6, 2) := by decide +kernel
theorem dX8_digestTasks_20 : decode cX8_digestTasks 20 = .ok (.iload 6, 2) := by decide +kernel
theorem dX8_digestTasks_22 : decode cX8_digestTasks 22 = .ok (.bipush 7, 2) := by decide +kernel
theorem dX8_digestTasks_24 : decode cX8_digestTasks 24 = .ok (.if_icmp .ge 25, 3) := by decide +kernel
theorem dX8_digestTasks_27 : decode cX8_digestTasks 27 = .ok (.ldc2_w 279, 3) := by decide +kernel
theorem dX8_digestTasks_30 : decode cX8_digestTasks 30 = .ok (.lload_n 3, 1) := by decide +kernel
theorem dX8_digestTasks_31 : decode cX8_digestTasks 31 = .ok (.lmul, 1) := by decide +kernel
theorem dX8_digestTasks_32 : decode cX8_digestTasks 32 = .ok (.aload_n 0, 1) := by decide +kernel
theorem dX8_digestTasks_33 : decode cX8_digestTasks 33 = .ok (.iload 5, 2) := by decide +kernel
theorem dX8_digestTasks_35 : decode cX8_digestTasks 35 = .ok (.iload 6, 2) := by decide +kernel
theorem dX8_digestTasks_37 : decode cX8_digestTasks 37 = .ok (.invokevirtual 154, 3) := by decide +kernel
theorem dX8_digestTasks_40 : decode cX8_digestTasks 40 = .ok (.i2l, 1) := by decide +kernel
theorem dX8_digestTasks_41 : decode cX8_digestTasks 41 = .ok (.ladd, 1) := by decide +kernel
theorem dX8_digestTasks_42 : decode cX8_digestTasks 42 = .ok (.lstore_n 3, 1) := by decide +kernel
theorem dX8_digestTasks_43 : decode cX8_digestTasks 43 = .ok (.iinc 6 1, 3) := by decide +kernel
theorem dX8_digestTasks_46 : decode cX8_digestTasks 46 = .ok (.goto (-26), 3) := by decide +kernel
theorem dX8_digestTasks_49 : decode cX8_digestTasks 49 = .ok (.iinc 5 1, 3) := by decide +kernel
theorem dX8_digestTasks_52 : decode cX8_digestTasks 52 = .ok (.goto (-47), 3) := by decide +kernel
theorem dX8_digestTasks_55 : decode cX8_digestTasks 55 = .ok (.lload_n 3, 1) := by decide +kernel
theorem dX8_digestTasks_56 : decode cX8_digestTasks 56 = .ok (.lreturn, 1) := by decide +kernel
theorem dX8_digestBands_0 : decode cX8_digestBands 0 = .ok (.ldc2_w 279, 3) := by decide +kernel
theorem dX8_digestBands_3 : decode cX8_digestBands 3 = .ok (.lload_n 1, 1) := by decide +kernel
theorem dX8_digestBands_4 : decode cX8_digestBands 4 = .ok (.lmul, 1) := by decide +kernel
theorem dX8_digestBands_5 : decode cX8_digestBands 5 = .ok (.aload_n 0, 1) := by decide +kernel
theorem dX8_digestBands_6 : decode cX8_digestBands 6 = .ok (.getfield 43, 3) := by decide +kernel
theorem dX8_digestBands_9 : decode cX8_digestBands 9 = .ok (.invokevirtual 157, 3) := by decide +kernel
theorem dX8_digestBands_12 : decode cX8_digestBands 12 = .ok (.i2l, 1) := by decide +kernel
theorem dX8_digestBands_13 : decode cX8_digestBands 13 = .ok (.ladd, 1) := by decide +kernel
theorem dX8_digestBands_14 : decode cX8_digestBands 14 = .ok (.lstore_n 3, 1) := by decide +kernel
theorem dX8_digestBands_15 : decode cX8_digestBands 15 = .ok (.iconst 0, 1) := by decide +kernel
theorem dX8_digestBands_16 : decode cX8_digestBands 16 = .ok (.istore 5, 2) := by decide +kernel
theorem dX8_digestBands_18 : decode cX8_digestBands 18 = .ok (.iload 5, 2) := by decide +kernel
theorem dX8_digestBands_20 : decode cX8_digestBands 20 = .ok (.aload_n 0, 1) := by decide +kernel
theorem dX8_digestBands_21 : decode cX8_digestBands 21 = .ok (.getfield 43, 3) := by decide +kernel
theorem dX8_digestBands_24 : decode cX8_digestBands 24 = .ok (.invokevirtual 157, 3) := by decide +kernel
theorem dX8_digestBands_27 : decode cX8_digestBands 27 = .ok (.if_icmp .ge 50, 3) := by decide +kernel
theorem dX8_digestBands_30 : decode cX8_digestBands 30 = .ok (.iconst 0, 1) := by decide +kernel
theorem dX8_digestBands_31 : decode cX8_digestBands 31 = .ok (.istore 6, 2) := by decide +kernel
theorem dX8_digestBands_33 : decode cX8_digestBands 33 = .ok (.iload 6, 2) := by decide +kernel
theorem dX8_digestBands_35 : decode cX8_digestBands 35 = .ok (.aload_n 0, 1) := by decide +kernel
theorem dX8_digestBands_36 : decode cX8_digestBands 36 = .ok (.getfield 12, 3) := by decide +kernel
theorem dX8_digestBands_39 : decode cX8_digestBands 39 = .ok (.iconst 0, 1) := by decide +kernel
theorem dX8_digestBands_40 : decode cX8_digestBands 40 = .ok (.invokevirtual 82, 3) := by decide +kernel
theorem dX8_digestBands_43 : decode cX8_digestBands 43 = .ok (.if_icmp .ge 28, 3) := by decide +kernel
theorem dX8_digestBands_46 : decode cX8_digestBands 46 = .ok (.ldc2_w 279, 3) := by decide +kernel
theorem dX8_digestBands_49 : decode cX8_digestBands 49 = .ok (.lload_n 3, 1) := by decide +kernel
theorem dX8_digestBands_50 : decode cX8_digestBands 50 = .ok (.lmul, 1) := by decide +kernel
theorem dX8_digestBands_51 : decode cX8_digestBands 51 = .ok (.aload_n 0, 1) := by decide +kernel
theorem dX8_digestBands_52 : decode cX8_digestBands 52 = .ok (.getfield 43, 3) := by decide +kernel
theorem dX8_digestBands_55 : decode cX8_digestBands 55 = .ok (.iload 5, 2) := by decide +kernel
theorem dX8_digestBands_57 : decode cX8_digestBands 57 = .ok (.iload 6, 2) := by decide +kernel
theorem dX8_digestBands_59 : decode cX8_digestBands 59 = .ok (.invokevirtual 166, 3) := by decide +kernel
theorem dX8_digestBands_62 : decode cX8_digestBands 62 = .ok (.i2l, 1) := by decide +kernel
theorem dX8_digestBands_63 : decode cX8_digestBands 63 = .ok (.ladd, 1) := by decide +kernel
theorem dX8_digestBands_64 : decode cX8_digestBands 64 = .ok (.lstore_n 3, 1) := by decide +kernel
theorem dX8_digestBands_65 : decode cX8_digestBands 65 = .ok (.iinc 6 1, 3) := by decide +kernel
theorem dX8_digestBands_68 : decode cX8_digestBands 68 = .ok (.goto (-35), 3) := by decide +kernel
theorem dX8_digestBands_71 : decode cX8_digestBands 71 = .ok (.iinc 5 1, 3) := by decide +kernel
theorem dX8_digestBands_74 : decode cX8_digestBands 74 = .ok (.goto (-56), 3) := by decide +kernel
theorem dX8_digestBands_77 : decode cX8_digestBands 77 = .ok (.lload_n 3, 1) := by decide +kernel
theorem dX8_digestBands_78 : decode cX8_digestBands 78 = .ok (.lreturn, 1) := by decide +kernel
theorem dX8_digestSheets_0 : decode cX8_digestSheets 0 = .ok (.ldc2_w 279, 3) := by decide +kernel
theorem dX8_digestSheets_3 : decode cX8_digestSheets 3 = .ok (.lload_n 1, 1) := by decide +kernel
theorem dX8_digestSheets_4 : decode cX8_digestSheets 4 = .ok (.lmul, 1) := by decide +kernel
theorem dX8_digestSheets_5 : decode cX8_digestSheets 5 = .ok (.aload_n 0, 1) := by decide +kernel
theorem dX8_digestSheets_6 : decode cX8_digestSheets 6 = .ok (.getfield 50, 3) := by decide +kernel
theorem dX8_digestSheets_9 : decode cX8_digestSheets 9 = .ok (.invokevirtual 169, 3) := by decide +kernel
theorem dX8_digestSheets_12 : decode cX8_digestSheets 12 = .ok (.i2l, 1) := by decide +kernel
theorem dX8_digestSheets_13 : decode cX8_digestSheets 13 = .ok (.ladd, 1) := by decide +kernel
theorem dX8_digestSheets_14 : decode cX8_digestSheets 14 = .ok (.lstore_n 3, 1) := by decide +kernel
theorem dX8_digestSheets_15 : decode cX8_digestSheets 15 = .ok (.iconst 0, 1) := by decide +kernel
theorem dX8_digestSheets_16 : decode cX8_digestSheets 16 = .ok (.istore 5, 2) := by decide +kernel
theorem dX8_digestSheets_18 : decode cX8_digestSheets 18 = .ok (.iload 5, 2) := by decide +kernel
theorem dX8_digestSheets_20 : decode cX8_digestSheets 20 = .ok (.aload_n 0, 1) := by decide +kernel
theorem dX8_digestSheets_21 : decode cX8_digestSheets 21 = .ok (.getfield 50, 3) := by decide +kernel
theorem dX8_digestSheets_24 : decode cX8_digestSheets 24 = .ok (.invokevirtual 169, 3) := by decide +kernel
theorem dX8_digestSheets_27 : decode cX8_digestSheets 27 = .ok (.if_icmp .ge 40, 3) := by decide +kernel
theorem dX8_digestSheets_30 : decode cX8_digestSheets 30 = .ok (.iconst 0, 1) := by decide +kernel
theorem dX8_digestSheets_31 : decode cX8_digestSheets 31 = .ok (.istore 6, 2) := by decide +kernel
theorem dX8_digestSheets_33 : decode cX8_digestSheets 33 = .ok (.iload 6, 2) := by decide +kernel
theorem dX8_digestSheets_35 : decode cX8_digestSheets 35 = .ok (.iconst 5, 1) := by decide +kernel
theorem dX8_digestSheets_36 : decode cX8_digestSheets 36 = .ok (.if_icmp .ge 25, 3) := by decide +kernel
theorem dX8_digestSheets_39 : decode cX8_digestSheets 39 = .ok (.ldc2_w 279, 3) := by decide +kernel
theorem dX8_digestSheets_42 : decode cX8_digestSheets 42 = .ok (.lload_n 3, 1) := by decide +kernel
theorem dX8_digestSheets_43 : decode cX8_digestSheets 43 = .ok (.lmul, 1) := by decide +kernel
theorem dX8_digestSheets_44 : decode cX8_digestSheets 44 = .ok (.aload_n 0, 1) := by decide +kernel
theorem dX8_digestSheets_45 : decode cX8_digestSheets 45 = .ok (.iload 5, 2) := by decide +kernel
theorem dX8_digestSheets_47 : decode cX8_digestSheets 47 = .ok (.iload 6, 2) := by decide +kernel
theorem dX8_digestSheets_49 : decode cX8_digestSheets 49 = .ok (.invokevirtual 175, 3) := by decide +kernel
theorem dX8_digestSheets_52 : decode cX8_digestSheets 52 = .ok (.i2l, 1) := by decide +kernel
theorem dX8_digestSheets_53 : decode cX8_digestSheets 53 = .ok (.ladd, 1) := by decide +kernel
theorem dX8_digestSheets_54 : decode cX8_digestSheets 54 = .ok (.lstore_n 3, 1) := by decide +kernel
theorem dX8_digestSheets_55 : decode cX8_digestSheets 55 = .ok (.iinc 6 1, 3) := by decide +kernel
theorem dX8_digestSheets_58 : decode cX8_digestSheets 58 = .ok (.goto (-25), 3) := by decide +kernel
theorem dX8_digestSheets_61 : decode cX8_digestSheets 61 = .ok (.iinc 5 1, 3) := by decide +kernel
theorem dX8_digestSheets_64 : decode cX8_digestSheets 64 = .ok (.goto (-46), 3) := by decide +kernel
theorem dX8_digestSheets_67 : decode cX8_digestSheets 67 = .ok (.lload_n 3, 1) := by decide +kernel
theorem dX8_digestSheets_68 : decode cX8_digestSheets 68 = .ok (.lreturn, 1) := by decide +kernel
theorem dX8_digestArrows_0 : decode cX8_digestArrows 0 = .ok (.lload_n 1, 1) := by decide +kernel
theorem dX8_digestArrows_1 : decode cX8_digestArrows 1 = .ok (.lstore_n 3, 1) := by decide +kernel
theorem dX8_digestArrows_2 : decode cX8_digestArrows 2 = .ok (.iconst 0, 1) := by decide +kernel
theorem dX8_digestArrows_3 : decode cX8_digestArrows 3 = .ok (.istore 5, 2) := by decide +kernel
theorem dX8_digestArrows_5 : decode cX8_digestArrows 5 = .ok (.iload 5, 2) := by decide +kernel
theorem dX8_digestArrows_7 : decode cX8_digestArrows 7 = .ok (.aload_n 0, 1) := by decide +kernel
theorem dX8_digestArrows_8 : decode cX8_digestArrows 8 = .ok (.getfield 12, 3) := by decide +kernel
theorem dX8_digestArrows_11 : decode cX8_digestArrows 11 = .ok (.invokevirtual 137, 3) := by decide +kernel
theorem dX8_digestArrows_14 : decode cX8_digestArrows 14 = .ok (.if_icmp .ge 41, 3) := by decide +kernel
theorem dX8_digestArrows_17 : decode cX8_digestArrows 17 = .ok (.iconst 0, 1) := by decide +kernel
theorem dX8_digestArrows_18 : decode cX8_digestArrows 18 = .ok (.istore 6, 2) := by decide +kernel
theorem dX8_digestArrows_20 : decode cX8_digestArrows 20 = .ok (.iload 6, 2) := by decide +kernel
theorem dX8_digestArrows_22 : decode cX8_digestArrows 22 = .ok (.bipush 6, 2) := by decide +kernel
theorem dX8_digestArrows_24 : decode cX8_digestArrows 24 = .ok (.if_icmp .ge 25, 3) := by decide +kernel
theorem dX8_digestArrows_27 : decode cX8_digestArrows 27 = .ok (.ldc2_w 279, 3) := by decide +kernel
theorem dX8_digestArrows_30 : decode cX8_digestArrows 30 = .ok (.lload_n 3, 1) := by decide +kernel
theorem dX8_digestArrows_31 : decode cX8_digestArrows 31 = .ok (.lmul, 1) := by decide +kernel
theorem dX8_digestArrows_32 : decode cX8_digestArrows 32 = .ok (.aload_n 0, 1) := by decide +kernel
theorem dX8_digestArrows_33 : decode cX8_digestArrows 33 = .ok (.iload 5, 2) := by decide +kernel
theorem dX8_digestArrows_35 : decode cX8_digestArrows 35 = .ok (.iload 6, 2) := by decide +kernel
theorem dX8_digestArrows_37 : decode cX8_digestArrows 37 = .ok (.invokevirtual 198, 3) := by decide +kernel
theorem dX8_digestArrows_40 : decode cX8_digestArrows 40 = .ok (.i2l, 1) := by decide +kernel
theorem dX8_digestArrows_41 : decode cX8_digestArrows 41 = .ok (.ladd, 1) := by decide +kernel
theorem dX8_digestArrows_42 : decode cX8_digestArrows 42 = .ok (.lstore_n 3, 1) := by decide +kernel
theorem dX8_digestArrows_43 : decode cX8_digestArrows 43 = .ok (.iinc 6 1, 3) := by decide +kernel
theorem dX8_digestArrows_46 : decode cX8_digestArrows 46 = .ok (.goto (-26), 3) := by decide +kernel
theorem dX8_digestArrows_49 : decode cX8_digestArrows 49 = .ok (.iinc 5 1, 3) := by decide +kernel
theorem dX8_digestArrows_52 : decode cX8_digestArrows 52 = .ok (.goto (-47), 3) := by decide +kernel
theorem dX8_digestArrows_55 : decode cX8_digestArrows 55 = .ok (.lload_n 3, 1) := by decide +kernel
theorem dX8_digestArrows_56 : decode cX8_digestArrows 56 = .ok (.lreturn, 1) := by decide +kernel
theorem dX8_printAnew_0 : decode cX8_printAnew 0 = .ok (.aload_n 0, 1) := by decide +kernel
theorem dX8_printAnew_1 : decode cX8_printAnew 1 = .ok (.getfield 43, 3) := by decide +kernel
theorem dX8_printAnew_4 : decode cX8_printAnew 4 = .ok (.aload_n 0, 1) := by decide +kernel
theorem dX8_printAnew_5 : decode cX8_printAnew 5 = .ok (.getfield 12, 3) := by decide +kernel
theorem dX8_printAnew_8 : decode cX8_printAnew 8 = .ok (.aload_n 0, 1) := by decide +kernel
theorem dX8_printAnew_9 : decode cX8_printAnew 9 = .ok (.getfield 12, 3) := by decide +kernel
theorem dX8_printAnew_12 : decode cX8_printAnew 12 = .ok (.iconst 0, 1) := by decide +kernel
theorem dX8_printAnew_13 : decode cX8_printAnew 13 = .ok (.invokevirtual 82, 3) := by decide +kernel
theorem dX8_printAnew_16 : decode cX8_printAnew 16 = .ok (.invokevirtual 223, 3) := by decide +kernel
theorem dX8_printAnew_19 : decode cX8_printAnew 19 = .ok (.aload_n 0, 1) := by decide +kernel
theorem dX8_printAnew_20 : decode cX8_printAnew 20 = .ok (.getfield 50, 3) := by decide +kernel
theorem dX8_printAnew_23 : decode cX8_printAnew 23 = .ok (.aload_n 0, 1) := by decide +kernel
theorem dX8_printAnew_24 : decode cX8_printAnew 24 = .ok (.getfield 12, 3) := by decide +kernel
theorem dX8_printAnew_27 : decode cX8_printAnew 27 = .ok (.aload_n 0, 1) := by decide +kernel
theorem dX8_printAnew_28 : decode cX8_printAnew 28 = .ok (.getfield 43, 3) := by decide +kernel
theorem dX8_printAnew_31 : decode cX8_printAnew 31 = .ok (.aload_n 0, 1) := by decide +kernel
theorem dX8_printAnew_32 : decode cX8_printAnew 32 = .ok (.getfield 12, 3) := by decide +kernel
theorem dX8_printAnew_35 : decode cX8_printAnew 35 = .ok (.iconst 1, 1) := by decide +kernel
theorem dX8_printAnew_36 : decode cX8_printAnew 36 = .ok (.invokevirtual 82, 3) := by decide +kernel
theorem dX8_printAnew_39 : decode cX8_printAnew 39 = .ok (.invokevirtual 227, 3) := by decide +kernel
theorem dX8_printAnew_42 : decode cX8_printAnew 42 = .ok (.aload_n 0, 1) := by decide +kernel
theorem dX8_printAnew_43 : decode cX8_printAnew 43 = .ok (.getfield 57, 3) := by decide +kernel
theorem dX8_printAnew_46 : decode cX8_printAnew 46 = .ok (.aload_n 0, 1) := by decide +kernel
theorem dX8_printAnew_47 : decode cX8_printAnew 47 = .ok (.getfield 12, 3) := by decide +kernel
theorem dX8_printAnew_50 : decode cX8_printAnew 50 = .ok (.aload_n 0, 1) := by decide +kernel
theorem dX8_printAnew_51 : decode cX8_printAnew 51 = .ok (.getfield 43, 3) := by decide +kernel
theorem dX8_printAnew_54 : decode cX8_printAnew 54 = .ok (.aload_n 0, 1) := by decide +kernel
theorem dX8_printAnew_55 : decode cX8_printAnew 55 = .ok (.getfield 50, 3) := by decide +kernel
theorem dX8_printAnew_58 : decode cX8_printAnew 58 = .ok (.invokevirtual 294, 3) := by decide +kernel
theorem dX8_printAnew_61 : decode cX8_printAnew 61 = .ok (.return_, 1) := by decide +kernel
theorem dX8_requireTask_0 : decode cX8_requireTask 0 = .ok (.aload_n 0, 1) := by decide +kernel
theorem dX8_requireTask_1 : decode cX8_requireTask 1 = .ok (.getfield 12, 3) := by decide +kernel
theorem dX8_requireTask_4 : decode cX8_requireTask 4 = .ok (.iload_n 1, 1) := by decide +kernel
theorem dX8_requireTask_5 : decode cX8_requireTask 5 = .ok (.invokevirtual 298, 3) := by decide +kernel
theorem dX8_requireTask_8 : decode cX8_requireTask 8 = .ok (.ifCond .ne 14, 3) := by decide +kernel
theorem dX8_requireTask_11 : decode cX8_requireTask 11 = .ok (.new 186, 3) := by decide +kernel
theorem dX8_requireTask_14 : decode cX8_requireTask 14 = .ok (.dup, 1) := by decide +kernel
theorem dX8_requireTask_15 : decode cX8_requireTask 15 = .ok (.ldc_w 302, 3) := by decide +kernel
theorem dX8_requireTask_18 : decode cX8_requireTask 18 = .ok (.invokespecial 190, 3) := by decide +kernel
theorem dX8_requireTask_21 : decode cX8_requireTask 21 = .ok (.athrow, 1) := by decide +kernel
theorem dX8_requireTask_22 : decode cX8_requireTask 22 = .ok (.return_, 1) := by decide +kernel
theorem dX8_requireArrow_0 : decode cX8_requireArrow 0 = .ok (.aload_n 0, 1) := by decide +kernel
theorem dX8_requireArrow_1 : decode cX8_requireArrow 1 = .ok (.getfield 12, 3) := by decide +kernel
theorem dX8_requireArrow_4 : decode cX8_requireArrow 4 = .ok (.iload_n 1, 1) := by decide +kernel
theorem dX8_requireArrow_5 : decode cX8_requireArrow 5 = .ok (.invokevirtual 304, 3) := by decide +kernel
theorem dX8_requireArrow_8 : decode cX8_requireArrow 8 = .ok (.ifCond .ne 14, 3) := by decide +kernel
theorem dX8_requireArrow_11 : decode cX8_requireArrow 11 = .ok (.new 186, 3) := by decide +kernel
theorem dX8_requireArrow_14 : decode cX8_requireArrow 14 = .ok (.dup, 1) := by decide +kernel
theorem dX8_requireArrow_15 : decode cX8_requireArrow 15 = .ok (.ldc_w 307, 3) := by decide +kernel
theorem dX8_requireArrow_18 : decode cX8_requireArrow 18 = .ok (.invokespecial 190, 3) := by decide +kernel
theorem dX8_requireArrow_21 : decode cX8_requireArrow 21 = .ok (.athrow, 1) := by decide +kernel
theorem dX8_requireArrow_22 : decode cX8_requireArrow 22 = .ok (.return_, 1) := by decide +kernel
theorem dX8_requireBand_0 : decode cX8_requireBand 0 = .ok (.iload_n 1, 1) := by decide +kernel
theorem dX8_requireBand_1 : decode cX8_requireBand 1 = .ok (.ifCond .lt 14, 3) := by decide +kernel
theorem dX8_requireBand_4 : decode cX8_requireBand 4 = .ok (.iload_n 1, 1) := by decide +kernel
theorem dX8_requireBand_5 : decode cX8_requireBand 5 = .ok (.aload_n 0, 1) := by decide +kernel
theorem dX8_requireBand_6 : decode cX8_requireBand 6 = .ok (.getfield 43, 3) := by decide +kernel
theorem dX8_requireBand_9 : decode cX8_requireBand 9 = .ok (.invokevirtual 157, 3) := by decide +kernel
theorem dX8_requireBand_12 : decode cX8_requireBand 12 = .ok (.if_icmp .lt 14, 3) := by decide +kernel
theorem dX8_requireBand_15 : decode cX8_requireBand 15 = .ok (.new 186, 3) := by decide +kernel
theorem dX8_requireBand_18 : decode cX8_requireBand 18 = .ok (.dup, 1) := by decide +kernel
theorem dX8_requireBand_19 : decode cX8_requireBand 19 = .ok (.ldc_w 309, 3) := by decide +kernel
theorem dX8_requireBand_22 : decode cX8_requireBand 22 = .ok (.invokespecial 190, 3) := by decide +kernel
theorem dX8_requireBand_25 : decode cX8_requireBand 25 = .ok (.athrow, 1) := by decide +kernel
theorem dX8_requireBand_26 : decode cX8_requireBand 26 = .ok (.return_, 1) := by decide +kernel
theorem dX8_requireRow_0 : decode cX8_requireRow 0 = .ok (.iload_n 1, 1) := by decide +kernel
theorem dX8_requireRow_1 : decode cX8_requireRow 1 = .ok (.ifCond .lt 15, 3) := by decide +kernel
theorem dX8_requireRow_4 : decode cX8_requireRow 4 = .ok (.iload_n 1, 1) := by decide +kernel
theorem dX8_requireRow_5 : decode cX8_requireRow 5 = .ok (.aload_n 0, 1) := by decide +kernel
theorem dX8_requireRow_6 : decode cX8_requireRow 6 = .ok (.getfield 12, 3) := by decide +kernel
theorem dX8_requireRow_9 : decode cX8_requireRow 9 = .ok (.iconst 0, 1) := by decide +kernel
theorem dX8_requireRow_10 : decode cX8_requireRow 10 = .ok (.invokevirtual 82, 3) := by decide +kernel
theorem dX8_requireRow_13 : decode cX8_requireRow 13 = .ok (.if_icmp .lt 14, 3) := by decide +kernel
theorem dX8_requireRow_16 : decode cX8_requireRow 16 = .ok (.new 186, 3) := by decide +kernel
theorem dX8_requireRow_19 : decode cX8_requireRow 19 = .ok (.dup, 1) := by decide +kernel
theorem dX8_requireRow_20 : decode cX8_requireRow 20 = .ok (.ldc_w 311, 3) := by decide +kernel
theorem dX8_requireRow_23 : decode cX8_requireRow 23 = .ok (.invokespecial 190, 3) := by decide +kernel
theorem dX8_requireRow_26 : decode cX8_requireRow 26 = .ok (.athrow, 1) := by decide +kernel
theorem dX8_requireRow_27 : decode cX8_requireRow 27 = .ok (.return_, 1) := by decide +kernel
theorem dX8_requireSheet_0 : decode cX8_requireSheet 0 = .ok (.iload_n 1, 1) := by decide +kernel
theorem dX8_requireSheet_1 : decode cX8_requireSheet 1 = .ok (.ifCond .lt 14, 3) := by decide +kernel
theorem dX8_requireSheet_4 : decode cX8_requireSheet 4 = .ok (.iload_n 1, 1) := by decide +kernel
theorem dX8_requireSheet_5 : decode cX8_requireSheet 5 = .ok (.aload_n 0, 1) := by decide +kernel
theorem dX8_requireSheet_6 : decode cX8_requireSheet 6 = .ok (.getfield 50, 3) := by decide +kernel
theorem dX8_requireSheet_9 : decode cX8_requireSheet 9 = .ok (.invokevirtual 169, 3) := by decide +kernel
theorem dX8_requireSheet_12 : decode cX8_requireSheet 12 = .ok (.if_icmp .lt 14, 3) := by decide +kernel
theorem dX8_requireSheet_15 : decode cX8_requireSheet 15 = .ok (.new 186, 3) := by decide +kernel
theorem dX8_requireSheet_18 : decode cX8_requireSheet 18 = .ok (.dup, 1) := by decide +kernel
theorem dX8_requireSheet_19 : decode cX8_requireSheet 19 = .ok (.ldc_w 313, 3) := by decide +kernel
theorem dX8_requireSheet_22 : decode cX8_requireSheet 22 = .ok (.invokespecial 190, 3) := by decide +kernel
theorem dX8_requireSheet_25 : decode cX8_requireSheet 25 = .ok (.athrow, 1) := by decide +kernel
theorem dX8_requireSheet_26 : decode cX8_requireSheet 26 = .ok (.return_, 1) := by decide +kernel
theorem dX8_isSetting_0 : decode cX8_isSetting 0 = .ok (.iload_n 0, 1) := by decide +kernel
theorem dX8_isSetting_1 : decode cX8_isSetting 1 = .ok (.ifCond .lt 19, 3) := by decide +kernel
theorem dX8_isSetting_4 : decode cX8_isSetting 4 = .ok (.iload_n 0, 1) := by decide +kernel
theorem dX8_isSetting_5 : decode cX8_isSetting 5 = .ok (.getstatic 315, 3) := by decide +kernel
theorem dX8_isSetting_8 : decode cX8_isSetting 8 = .ok (.arraylength, 1) := by decide +kernel
theorem dX8_isSetting_9 : decode cX8_isSetting 9 = .ok (.if_icmp .ge 11, 3) := by decide +kernel
theorem dX8_isSetting_12 : decode cX8_isSetting 12 = .ok (.iload_n 0, 1) := by decide +kernel
theorem dX8_isSetting_13 : decode cX8_isSetting 13 = .ok (.getstatic 319, 3) := by decide +kernel
theorem dX8_isSetting_16 : decode cX8_isSetting 16 = .ok (.arraylength, 1) := by decide +kernel
theorem dX8_isSetting_17 : decode cX8_isSetting 17 = .ok (.if_icmp .lt 5, 3) := by decide +kernel
theorem dX8_isSetting_20 : decode cX8_isSetting 20 = .ok (.iconst 0, 1) := by decide +kernel
theorem dX8_isSetting_21 : decode cX8_isSetting 21 = .ok (.ireturn, 1) := by decide +kernel
theorem dX8_isSetting_22 : decode cX8_isSetting 22 = .ok (.iload_n 1, 1) := by decide +kernel
theorem dX8_isSetting_23 : decode cX8_isSetting 23 = .ok (.getstatic 315, 3) := by decide +kernel
theorem dX8_isSetting_26 : decode cX8_isSetting 26 = .ok (.iload_n 0, 1) := by decide +kernel
theorem dX8_isSetting_27 : decode cX8_isSetting 27 = .ok (.iaload, 1) := by decide +kernel
theorem dX8_isSetting_28 : decode cX8_isSetting 28 = .ok (.if_icmp .lt 16, 3) := by decide +kernel
theorem dX8_isSetting_31 : decode cX8_isSetting 31 = .ok (.iload_n 1, 1) := by decide +kernel
theorem dX8_isSetting_32 : decode cX8_isSetting 32 = .ok (.getstatic 319, 3) := by decide +kernel
theorem dX8_isSetting_35 : decode cX8_isSetting 35 = .ok (.iload_n 0, 1) := by decide +kernel
theorem dX8_isSetting_36 : decode cX8_isSetting 36 = .ok (.iaload, 1) := by decide +kernel
theorem dX8_isSetting_37 : decode cX8_isSetting 37 = .ok (.if_icmp .gt 7, 3) := by decide +kernel
theorem dX8_isSetting_40 : decode cX8_isSetting 40 = .ok (.iconst 1, 1) := by decide +kernel
theorem dX8_isSetting_41 : decode cX8_isSetting 41 = .ok (.goto 4, 3) := by decide +kernel
theorem dX8_isSetting_44 : decode cX8_isSetting 44 = .ok (.iconst 0, 1) := by decide +kernel
theorem dX8_isSetting_45 : decode cX8_isSetting 45 = .ok (.ireturn, 1) := by decide +kernel
theorem dX8_isBar_0 : decode cX8_isBar 0 = .ok (.iload_n 0, 1) := by decide +kernel
theorem dX8_isBar_1 : decode cX8_isBar 1 = .ok (.ifCond .lt 25, 3) := by decide +kernel
theorem dX8_isBar_4 : decode cX8_isBar 4 = .ok (.iload_n 0, 1) := by decide +kernel
theorem dX8_isBar_5 : decode cX8_isBar 5 = .ok (.sipush 199, 3) := by decide +kernel
theorem dX8_isBar_8 : decode cX8_isBar 8 = .ok (.if_icmp .gt 18, 3) := by decide +kernel
theorem dX8_isBar_11 : decode cX8_isBar 11 = .ok (.iload_n 1, 1) := by decide +kernel
theorem dX8_isBar_12 : decode cX8_isBar 12 = .ok (.iconst 1, 1) := by decide +kernel
theorem dX8_isBar_13 : decode cX8_isBar 13 = .ok (.if_icmp .lt 13, 3) := by decide +kernel
theorem dX8_isBar_16 : decode cX8_isBar 16 = .ok (.iload_n 1, 1) := by decide +kernel
theorem dX8_isBar_17 : decode cX8_isBar 17 = .ok (.bipush 60, 2) := by decide +kernel
theorem dX8_isBar_19 : decode cX8_isBar 19 = .ok (.if_icmp .gt 7, 3) := by decide +kernel
theorem dX8_isBar_22 : decode cX8_isBar 22 = .ok (.iconst 1, 1) := by decide +kernel
theorem dX8_isBar_23 : decode cX8_isBar 23 = .ok (.goto 4, 3) := by decide +kernel
theorem dX8_isBar_26 : decode cX8_isBar 26 = .ok (.iconst 0, 1) := by decide +kernel
theorem dX8_isBar_27 : decode cX8_isBar 27 = .ok (.ireturn, 1) := by decide +kernel
theorem dX8_stripOfDay_0 : decode cX8_stripOfDay 0 = .ok (.iload_n 1, 1) := by decide +kernel
theorem dX8_stripOfDay_1 : decode cX8_stripOfDay 1 = .ok (.ifCond .le 9, 3) := by decide +kernel
theorem dX8_stripOfDay_4 : decode cX8_stripOfDay 4 = .ok (.iload_n 0, 1) := by decide +kernel
theorem dX8_stripOfDay_5 : decode cX8_stripOfDay 5 = .ok (.iload_n 1, 1) := by decide +kernel
theorem dX8_stripOfDay_6 : decode cX8_stripOfDay 6 = .ok (.idiv, 1) := by decide +kernel
theorem dX8_stripOfDay_7 : decode cX8_stripOfDay 7 = .ok (.goto 4, 3) := by decide +kernel
theorem dX8_stripOfDay_10 : decode cX8_stripOfDay 10 = .ok (.iconst 0, 1) := by decide +kernel
theorem dX8_stripOfDay_11 : decode cX8_stripOfDay 11 = .ok (.ireturn, 1) := by decide +kernel
theorem dX8_partsOf_0 : decode cX8_partsOf 0 = .ok (.aload_n 0, 1) := by decide +kernel
theorem dX8_partsOf_1 : decode cX8_partsOf 1 = .ok (.getfield 12, 3) := by decide +kernel
theorem dX8_partsOf_4 : decode cX8_partsOf 4 = .ok (.iconst 1, 1) := by decide +kernel
theorem dX8_partsOf_5 : decode cX8_partsOf 5 = .ok (.invokevirtual 82, 3) := by decide +kernel
theorem dX8_partsOf_8 : decode cX8_partsOf 8 = .ok (.istore_n 2, 1) := by decide +kernel
theorem dX8_partsOf_9 : decode cX8_partsOf 9 = .ok (.aload_n 0, 1) := by decide +kernel
theorem dX8_partsOf_10 : decode cX8_partsOf 10 = .ok (.getfield 12, 3) := by decide +kernel
theorem dX8_partsOf_13 : decode cX8_partsOf 13 = .ok (.iload_n 1, 1) := by decide +kernel
theorem dX8_partsOf_14 : decode cX8_partsOf 14 = .ok (.invokevirtual 240, 3) := by decide +kernel
theorem dX8_partsOf_17 : decode cX8_partsOf 17 = .ok (.iload_n 2, 1) := by decide +kernel
theorem dX8_partsOf_18 : decode cX8_partsOf 18 = .ok (.invokestatic 322, 3) := by decide +kernel
theorem dX8_partsOf_21 : decode cX8_partsOf 21 = .ok (.aload_n 0, 1) := by decide +kernel
theorem dX8_partsOf_22 : decode cX8_partsOf 22 = .ok (.getfield 12, 3) := by decide +kernel
theorem dX8_partsOf_25 : decode cX8_partsOf 25 = .ok (.iload_n 1, 1) := by decide +kernel
theorem dX8_partsOf_26 : decode cX8_partsOf 26 = .ok (.invokevirtual 122, 3) := by decide +kernel
theorem dX8_partsOf_29 : decode cX8_partsOf 29 = .ok (.iload_n 2, 1) := by decide +kernel
theorem dX8_partsOf_30 : decode cX8_partsOf 30 = .ok (.invokestatic 322, 3) := by decide +kernel
theorem dX8_partsOf_33 : decode cX8_partsOf 33 = .ok (.isub, 1) := by decide +kernel
theorem dX8_partsOf_34 : decode cX8_partsOf 34 = .ok (.iconst 1, 1) := by decide +kernel
theorem dX8_partsOf_35 : decode cX8_partsOf 35 = .ok (.iadd, 1) := by decide +kernel
theorem dX8_partsOf_36 : decode cX8_partsOf 36 = .ok (.ireturn, 1) := by decide +kernel
theorem dX8_exitsWith_0 : decode cX8_exitsWith 0 = .ok (.iconst 0, 1) := by decide +kernel
theorem dX8_exitsWith_1 : decode cX8_exitsWith 1 = .ok (.istore_n 2, 1) := by decide +kernel
theorem dX8_exitsWith_2 : decode cX8_exitsWith 2 = .ok (.iconst 0, 1) := by decide +kernel
theorem dX8_exitsWith_3 : decode cX8_exitsWith 3 = .ok (.istore_n 3, 1) := by decide +kernel
theorem dX8_exitsWith_4 : decode cX8_exitsWith 4 = .ok (.iload_n 3, 1) := by decide +kernel
theorem dX8_exitsWith_5 : decode cX8_exitsWith 5 = .ok (.aload_n 0, 1) := by decide +kernel
theorem dX8_exitsWith_6 : decode cX8_exitsWith 6 = .ok (.getfield 12, 3) := by decide +kernel
theorem dX8_exitsWith_9 : decode cX8_exitsWith 9 = .ok (.invokevirtual 137, 3) := by decide +kernel
theorem dX8_exitsWith_12 : decode cX8_exitsWith 12 = .ok (.if_icmp .ge 94, 3) := by decide +kernel
theorem dX8_exitsWith_15 : decode cX8_exitsWith 15 = .ok (.aload_n 0, 1) := by decide +kernel
theorem dX8_exitsWith_16 : decode cX8_exitsWith 16 = .ok (.getfield 12, 3) := by decide +kernel
theorem dX8_exitsWith_19 : decode cX8_exitsWith 19 = .ok (.iload_n 3, 1) := by decide +kernel
theorem dX8_exitsWith_20 : decode cX8_exitsWith 20 = .ok (.invokevirtual 237, 3) := by decide +kernel
theorem dX8_exitsWith_23 : decode cX8_exitsWith 23 = .ok (.istore 4, 2) := by decide +kernel
theorem dX8_exitsWith_25 : decode cX8_exitsWith 25 = .ok (.aload_n 0, 1) := by decide +kernel
theorem dX8_exitsWith_26 : decode cX8_exitsWith 26 = .ok (.getfield 12, 3) := by decide +kernel
theorem dX8_exitsWith_29 : decode cX8_exitsWith 29 = .ok (.iload_n 3, 1) := by decide +kernel
theorem dX8_exitsWith_30 : decode cX8_exitsWith 30 = .ok (.invokevirtual 234, 3) := by decide +kernel
theorem dX8_exitsWith_33 : decode cX8_exitsWith 33 = .ok (.istore 5, 2) := by decide +kernel
theorem dX8_exitsWith_35 : decode cX8_exitsWith 35 = .ok (.aload_n 0, 1) := by decide +kernel
theorem dX8_exitsWith_36 : decode cX8_exitsWith 36 = .ok (.getfield 12, 3) := by decide +kernel
theorem dX8_exitsWith_39 : decode cX8_exitsWith 39 = .ok (.iload 4, 2) := by decide +kernel
theorem dX8_exitsWith_41 : decode cX8_exitsWith 41 = .ok (.invokevirtual 240, 3) := by decide +kernel
theorem dX8_exitsWith_44 : decode cX8_exitsWith 44 = .ok (.iload_n 1, 1) := by decide +kernel
theorem dX8_exitsWith_45 : decode cX8_exitsWith 45 = .ok (.invokestatic 322, 3) := by decide +kernel
theorem dX8_exitsWith_48 : decode cX8_exitsWith 48 = .ok (.aload_n 0, 1) := by decide +kernel
theorem dX8_exitsWith_49 : decode cX8_exitsWith 49 = .ok (.getfield 12, 3) := by decide +kernel
theorem dX8_exitsWith_52 : decode cX8_exitsWith 52 = .ok (.iload 5, 2) := by decide +kernel
theorem dX8_exitsWith_54 : decode cX8_exitsWith 54 = .ok (.invokevirtual 122, 3) := by decide +kernel
theorem dX8_exitsWith_57 : decode cX8_exitsWith 57 = .ok (.iload_n 1, 1) := by decide +kernel
theorem dX8_exitsWith_58 : decode cX8_exitsWith 58 = .ok (.invokestatic 322, 3) := by decide +kernel
theorem dX8_exitsWith_61 : decode cX8_exitsWith 61 = .ok (.if_icmp .ne 7, 3) := by decide +kernel
theorem dX8_exitsWith_64 : decode cX8_exitsWith 64 = .ok (.iconst 1, 1) := by decide +kernel
theorem dX8_exitsWith_65 : decode cX8_exitsWith 65 = .ok (.goto 4, 3) := by decide +kernel
theorem dX8_exitsWith_68 : decode cX8_exitsWith 68 = .ok (.iconst 0, 1) := by decide +kernel
theorem dX8_exitsWith_69 : decode cX8_exitsWith 69 = .ok (.istore 6, 2) := by decide +kernel
theorem dX8_exitsWith_71 : decode cX8_exitsWith 71 = .ok (.iload 6, 2) := by decide +kernel
theorem dX8_exitsWith_73 : decode cX8_exitsWith 73 = .ok (.ifCond .eq 24, 3) := by decide +kernel
theorem dX8_exitsWith_76 : decode cX8_exitsWith 76 = .ok (.aload_n 0, 1) := by decide +kernel
theorem dX8_exitsWith_77 : decode cX8_exitsWith 77 = .ok (.getfield 43, 3) := by decide +kernel
theorem dX8_exitsWith_80 : decode cX8_exitsWith 80 = .ok (.iload 4, 2) := by decide +kernel
theorem dX8_exitsWith_82 : decode cX8_exitsWith 82 = .ok (.invokevirtual 325, 3) := by decide +kernel
theorem dX8_exitsWith_85 : decode cX8_exitsWith 85 = .ok (.aload_n 0, 1) := by decide +kernel
theorem dX8_exitsWith_86 : decode cX8_exitsWith 86 = .ok (.getfield 43, 3) := by decide +kernel
theorem dX8_exitsWith_89 : decode cX8_exitsWith 89 = .ok (.iload 5, 2) := by decide +kernel
theorem dX8_exitsWith_91 : decode cX8_exitsWith 91 = .ok (.invokevirtual 325, 3) := by decide +kernel
theorem dX8_exitsWith_94 : decode cX8_exitsWith 94 = .ok (.if_icmp .eq 6, 3) := by decide +kernel
theorem dX8_exitsWith_97 : decode cX8_exitsWith 97 = .ok (.iinc 2 1, 3) := by decide +kernel
theorem dX8_exitsWith_100 : decode cX8_exitsWith 100 = .ok (.iinc 3 1, 3) := by decide +kernel
theorem dX8_exitsWith_103 : decode cX8_exitsWith 103 = .ok (.goto (-99), 3) := by decide +kernel
theorem dX8_exitsWith_106 : decode cX8_exitsWith 106 = .ok (.iload_n 2, 1) := by decide +kernel
theorem dX8_exitsWith_107 : decode cX8_exitsWith 107 = .ok (.ireturn, 1) := by decide +kernel
theorem dX8_numberOfPlan_0 : decode cX8_numberOfPlan 0 = .ok (.iload_n 1, 1) := by decide +kernel
theorem dX8_numberOfPlan_1 : decode cX8_numberOfPlan 1 = .ok (.lookupswitch 43 #[(4, 27), (5, 35)], 27) := by decide +kernel
theorem dX8_numberOfPlan_28 : decode cX8_numberOfPlan 28 = .ok (.aload_n 0, 1) := by decide +kernel
theorem dX8_numberOfPlan_29 : decode cX8_numberOfPlan 29 = .ok (.getfield 12, 3) := by decide +kernel
theorem dX8_numberOfPlan_32 : decode cX8_numberOfPlan 32 = .ok (.invokevirtual 103, 3) := by decide +kernel
theorem dX8_numberOfPlan_35 : decode cX8_numberOfPlan 35 = .ok (.ireturn, 1) := by decide +kernel
theorem dX8_numberOfPlan_36 : decode cX8_numberOfPlan 36 = .ok (.aload_n 0, 1) := by decide +kernel
theorem dX8_numberOfPlan_37 : decode cX8_numberOfPlan 37 = .ok (.getfield 12, 3) := by decide +kernel
theorem dX8_numberOfPlan_40 : decode cX8_numberOfPlan 40 = .ok (.invokevirtual 137, 3) := by decide +kernel
theorem dX8_numberOfPlan_43 : decode cX8_numberOfPlan 43 = .ok (.ireturn, 1) := by decide +kernel
theorem dX8_numberOfPlan_44 : decode cX8_numberOfPlan 44 = .ok (.aload_n 0, 1) := by decide +kernel
theorem dX8_numberOfPlan_45 : decode cX8_numberOfPlan 45 = .ok (.getfield 12, 3) := by decide +kernel
theorem dX8_numberOfPlan_48 : decode cX8_numberOfPlan 48 = .ok (.iload_n 1, 1) := by decide +kernel
theorem dX8_numberOfPlan_49 : decode cX8_numberOfPlan 49 = .ok (.invokevirtual 82, 3) := by decide +kernel
theorem dX8_numberOfPlan_52 : decode cX8_numberOfPlan 52 = .ok (.ireturn, 1) := by decide +kernel
theorem dX8_numberOfTask_0 : decode cX8_numberOfTask 0 = .ok (.iload_n 2, 1) := by decide +kernel
theorem dX8_numberOfTask_1 : decode cX8_numberOfTask 1 = .ok (.tableswitch 93 0 5 #[39, 48, 57, 66, 75, 84], 39) := by decide +kernel
theorem dX8_numberOfTask_40 : decode cX8_numberOfTask 40 = .ok (.aload_n 0, 1) := by decide +kernel
theorem dX8_numberOfTask_41 : decode cX8_numberOfTask 41 = .ok (.getfield 12, 3) := by decide +kernel
theorem dX8_numberOfTask_44 : decode cX8_numberOfTask 44 = .ok (.iload_n 1, 1) := by decide +kernel
theorem dX8_numberOfTask_45 : decode cX8_numberOfTask 45 = .ok (.invokevirtual 326, 3) := by decide +kernel
theorem dX8_numberOfTask_48 : decode cX8_numberOfTask 48 = .ok (.ireturn, 1) := by decide +kernel
theorem dX8_numberOfTask_49 : decode cX8_numberOfTask 49 = .ok (.aload_n 0, 1) := by decide +kernel
theorem dX8_numberOfTask_50 : decode cX8_numberOfTask 50 = .ok (.getfield 12, 3) := by decide +kernel
theorem dX8_numberOfTask_53 : decode cX8_numberOfTask 53 = .ok (.iload_n 1, 1) := by decide +kernel
theorem dX8_numberOfTask_54 : decode cX8_numberOfTask 54 = .ok (.invokevirtual 122, 3) := by decide +kernel
theorem dX8_numberOfTask_57 : decode cX8_numberOfTask 57 = .ok (.ireturn, 1) := by decide +kernel
theorem dX8_numberOfTask_58 : decode cX8_numberOfTask 58 = .ok (.aload_n 0, 1) := by decide +kernel
theorem dX8_numberOfTask_59 : decode cX8_numberOfTask 59 = .ok (.getfield 12, 3) := by decide +kernel
theorem dX8_numberOfTask_62 : decode cX8_numberOfTask 62 = .ok (.iload_n 1, 1) := by decide +kernel
theorem dX8_numberOfTask_63 : decode cX8_numberOfTask 63 = .ok (.invokevirtual 329, 3) := by decide +kernel
theorem dX8_numberOfTask_66 : decode cX8_numberOfTask 66 = .ok (.ireturn, 1) := by decide +kernel
theorem dX8_numberOfTask_67 : decode cX8_numberOfTask 67 = .ok (.aload_n 0, 1) := by decide +kernel
theorem dX8_numberOfTask_68 : decode cX8_numberOfTask 68 = .ok (.getfield 12, 3) := by decide +kernel
theorem dX8_numberOfTask_71 : decode cX8_numberOfTask 71 = .ok (.iload_n 1, 1) := by decide +kernel
theorem dX8_numberOfTask_72 : decode cX8_numberOfTask 72 = .ok (.invokevirtual 240, 3) := by decide +kernel
theorem dX8_numberOfTask_75 : decode cX8_numberOfTask 75 = .ok (.ireturn, 1) := by decide +kernel
theorem dX8_numberOfTask_76 : decode cX8_numberOfTask 76 = .ok (.aload_n 0, 1) := by decide +kernel
theorem dX8_numberOfTask_77 : decode cX8_numberOfTask 77 = .ok (.getfield 43, 3) := by decide +kernel
theorem dX8_numberOfTask_80 : decode cX8_numberOfTask 80 = .ok (.iload_n 1, 1) := by decide +kernel
theorem dX8_numberOfTask_81 : decode cX8_numberOfTask 81 = .ok (.invokevirtual 325, 3) := by decide +kernel
theorem dX8_numberOfTask_84 : decode cX8_numberOfTask 84 = .ok (.ireturn, 1) := by decide +kernel
theorem dX8_numberOfTask_85 : decode cX8_numberOfTask 85 = .ok (.aload_n 0, 1) := by decide +kernel
theorem dX8_numberOfTask_86 : decode cX8_numberOfTask 86 = .ok (.getfield 43, 3) := by decide +kernel
theorem dX8_numberOfTask_89 : decode cX8_numberOfTask 89 = .ok (.iload_n 1, 1) := by decide +kernel
theorem dX8_numberOfTask_90 : decode cX8_numberOfTask 90 = .ok (.invokevirtual 331, 3) := by decide +kernel
theorem dX8_numberOfTask_93 : decode cX8_numberOfTask 93 = .ok (.ireturn, 1) := by decide +kernel
theorem dX8_numberOfTask_94 : decode cX8_numberOfTask 94 = .ok (.aload_n 0, 1) := by decide +kernel
theorem dX8_numberOfTask_95 : decode cX8_numberOfTask 95 = .ok (.iload_n 1, 1) := by decide +kernel
theorem dX8_numberOfTask_96 : decode cX8_numberOfTask 96 = .ok (.invokevirtual 183, 3) := by decide +kernel
theorem dX8_numberOfTask_99 : decode cX8_numberOfTask 99 = .ok (.ireturn, 1) := by decide +kernel
theorem dX8_numberOfSheet_0 : decode cX8_numberOfSheet 0 = .ok (.iload_n 2, 1) := by decide +kernel
theorem dX8_numberOfSheet_1 : decode cX8_numberOfSheet 1 = .ok (.tableswitch 67 0 3 #[31, 40, 49, 58], 31) := by decide +kernel
theorem dX8_numberOfSheet_32 : decode cX8_numberOfSheet 32 = .ok (.aload_n 0, 1) := by decide +kernel
theorem dX8_numberOfSheet_33 : decode cX8_numberOfSheet 33 = .ok (.getfield 50, 3) := by decide +kernel
theorem dX8_numberOfSheet_36 : decode cX8_numberOfSheet 36 = .ok (.iload_n 1, 1) := by decide +kernel
theorem dX8_numberOfSheet_37 : decode cX8_numberOfSheet 37 = .ok (.invokevirtual 209, 3) := by decide +kernel
theorem dX8_numberOfSheet_40 : decode cX8_numberOfSheet 40 = .ok (.ireturn, 1) := by decide +kernel
theorem dX8_numberOfSheet_41 : decode cX8_numberOfSheet 41 = .ok (.aload_n 0, 1) := by decide +kernel
theorem dX8_numberOfSheet_42 : decode cX8_numberOfSheet 42 = .ok (.getfield 50, 3) := by decide +kernel
theorem dX8_numberOfSheet_45 : decode cX8_numberOfSheet 45 = .ok (.iload_n 1, 1) := by decide +kernel
theorem dX8_numberOfSheet_46 : decode cX8_numberOfSheet 46 = .ok (.invokevirtual 212, 3) := by decide +kernel
theorem dX8_numberOfSheet_49 : decode cX8_numberOfSheet 49 = .ok (.ireturn, 1) := by decide +kernel
theorem dX8_numberOfSheet_50 : decode cX8_numberOfSheet 50 = .ok (.aload_n 0, 1) := by decide +kernel
theorem dX8_numberOfSheet_51 : decode cX8_numberOfSheet 51 = .ok (.getfield 50, 3) := by decide +kernel
theorem dX8_numberOfSheet_54 : decode cX8_numberOfSheet 54 = .ok (.iload_n 1, 1) := by decide +kernel
theorem dX8_numberOfSheet_55 : decode cX8_numberOfSheet 55 = .ok (.invokevirtual 334, 3) := by decide +kernel
theorem dX8_numberOfSheet_58 : decode cX8_numberOfSheet 58 = .ok (.ireturn, 1) := by decide +kernel
theorem dX8_numberOfSheet_59 : decode cX8_numberOfSheet 59 = .ok (.aload_n 0, 1) := by decide +kernel
theorem dX8_numberOfSheet_60 : decode cX8_numberOfSheet 60 = .ok (.getfield 57, 3) := by decide +kernel
theorem dX8_numberOfSheet_63 : decode cX8_numberOfSheet 63 = .ok (.iload_n 1, 1) := by decide +kernel
theorem dX8_numberOfSheet_64 : decode cX8_numberOfSheet 64 = .ok (.invokevirtual 337, 3) := by decide +kernel
theorem dX8_numberOfSheet_67 : decode cX8_numberOfSheet 67 = .ok (.ireturn, 1) := by decide +kernel
theorem dX8_numberOfSheet_68 : decode cX8_numberOfSheet 68 = .ok (.aload_n 0, 1) := by decide +kernel
theorem dX8_numberOfSheet_69 : decode cX8_numberOfSheet 69 = .ok (.getfield 57, 3) := by decide +kernel
theorem dX8_numberOfSheet_72 : decode cX8_numberOfSheet 72 = .ok (.iload_n 1, 1) := by decide +kernel
theorem dX8_numberOfSheet_73 : decode cX8_numberOfSheet 73 = .ok (.invokevirtual 340, 3) := by decide +kernel
theorem dX8_numberOfSheet_76 : decode cX8_numberOfSheet 76 = .ok (.ireturn, 1) := by decide +kernel
theorem dX8_numberOfPart_0 : decode cX8_numberOfPart 0 = .ok (.aload_n 0, 1) := by decide +kernel
theorem dX8_numberOfPart_1 : decode cX8_numberOfPart 1 = .ok (.getfield 43, 3) := by decide +kernel
theorem dX8_numberOfPart_4 : decode cX8_numberOfPart 4 = .ok (.iload_n 1, 1) := by decide +kernel
theorem dX8_numberOfPart_5 : decode cX8_numberOfPart 5 = .ok (.invokevirtual 325, 3) := by decide +kernel
theorem dX8_numberOfPart_8 : decode cX8_numberOfPart 8 = .ok (.istore 4, 2) := by decide +kernel
theorem dX8_numberOfPart_10 : decode cX8_numberOfPart 10 = .ok (.aload_n 0, 1) := by decide +kernel
theorem dX8_numberOfPart_11 : decode cX8_numberOfPart 11 = .ok (.getfield 12, 3) := by decide +kernel
theorem dX8_numberOfPart_14 : decode cX8_numberOfPart 14 = .ok (.iconst 1, 1) := by decide +kernel
theorem dX8_numberOfPart_15 : decode cX8_numberOfPart 15 = .ok (.invokevirtual 82, 3) := by decide +kernel
theorem dX8_numberOfPart_18 : decode cX8_numberOfPart 18 = .ok (.istore 5, 2) := by decide +kernel
theorem dX8_numberOfPart_20 : decode cX8_numberOfPart 20 = .ok (.aload_n 0, 1) := by decide +kernel
theorem dX8_numberOfPart_21 : decode cX8_numberOfPart 21 = .ok (.getfield 12, 3) := by decide +kernel
theorem dX8_numberOfPart_24 : decode cX8_numberOfPart 24 = .ok (.iload_n 1, 1) := by decide +kernel
theorem dX8_numberOfPart_25 : decode cX8_numberOfPart 25 = .ok (.invokevirtual 122, 3) := by decide +kernel
theorem dX8_numberOfPart_28 : decode cX8_numberOfPart 28 = .ok (.iload 5, 2) := by decide +kernel
theorem dX8_numberOfPart_30 : decode cX8_numberOfPart 30 = .ok (.invokestatic 322, 3) := by decide +kernel
theorem dX8_numberOfPart_33 : decode cX8_numberOfPart 33 = .ok (.iload_n 2, 1) := by decide +kernel
theorem dX8_numberOfPart_34 : decode cX8_numberOfPart 34 = .ok (.iadd, 1) := by decide +kernel
theorem dX8_numberOfPart_35 : decode cX8_numberOfPart 35 = .ok (.istore 6, 2) := by decide +kernel
theorem dX8_numberOfPart_37 : decode cX8_numberOfPart 37 = .ok (.aload_n 0, 1) := by decide +kernel
theorem dX8_numberOfPart_38 : decode cX8_numberOfPart 38 = .ok (.getfield 12, 3) := by decide +kernel
theorem dX8_numberOfPart_41 : decode cX8_numberOfPart 41 = .ok (.iload_n 1, 1) := by decide +kernel
theorem dX8_numberOfPart_42 : decode cX8_numberOfPart 42 = .ok (.invokevirtual 122, 3) := by decide +kernel
theorem dX8_numberOfPart_45 : decode cX8_numberOfPart 45 = .ok (.iload 6, 2) := by decide +kernel
theorem dX8_numberOfPart_47 : decode cX8_numberOfPart 47 = .ok (.iload 5, 2) := by decide +kernel
theorem dX8_numberOfPart_49 : decode cX8_numberOfPart 49 = .ok (.imul, 1) := by decide +kernel
theorem dX8_numberOfPart_50 : decode cX8_numberOfPart 50 = .ok (.invokestatic 243, 3) := by decide +kernel
theorem dX8_numberOfPart_53 : decode cX8_numberOfPart 53 = .ok (.istore 7, 2) := by decide +kernel
theorem dX8_numberOfPart_55 : decode cX8_numberOfPart 55 = .ok (.aload_n 0, 1) := by decide +kernel
theorem dX8_numberOfPart_56 : decode cX8_numberOfPart 56 = .ok (.getfield 12, 3) := by decide +kernel
theorem dX8_numberOfPart_59 : decode cX8_numberOfPart 59 = .ok (.iload_n 1, 1) := by decide +kernel
theorem dX8_numberOfPart_60 : decode cX8_numberOfPart 60 = .ok (.invokevirtual 240, 3) := by decide +kernel
theorem dX8_numberOfPart_63 : decode cX8_numberOfPart 63 = .ok (.iload 6, 2) := by decide +kernel
theorem dX8_numberOfPart_65 : decode cX8_numberOfPart 65 = .ok (.iload 5, 2) := by decide +kernel
theorem dX8_numberOfPart_67 : decode cX8_numberOfPart 67 = .ok (.imul, 1) := by decide +kernel
theorem dX8_numberOfPart_68 : decode cX8_numberOfPart 68 = .ok (.iload 5, 2) := by decide +kernel
theorem dX8_numberOfPart_70 : decode cX8_numberOfPart 70 = .ok (.iadd, 1) := by decide +kernel
theorem dX8_numberOfPart_71 : decode cX8_numberOfPart 71 = .ok (.iconst 1, 1) := by decide +kernel
theorem dX8_numberOfPart_72 : decode cX8_numberOfPart 72 = .ok (.isub, 1) := by decide +kernel
theorem dX8_numberOfPart_73 : decode cX8_numberOfPart 73 = .ok (.invokestatic 343, 3) := by decide +kernel
theorem dX8_numberOfPart_76 : decode cX8_numberOfPart 76 = .ok (.istore 8, 2) := by decide +kernel
theorem dX8_numberOfPart_78 : decode cX8_numberOfPart 78 = .ok (.iload_n 3, 1) := by decide +kernel
theorem dX8_numberOfPart_79 : decode cX8_numberOfPart 79 = .ok (.tableswitch 80 0 3 #[29, 41, 50, 58], 29) := by decide +kernel
theorem dX8_numberOfPart_108 : decode cX8_numberOfPart 108 = .ok (.aload_n 0, 1) := by decide +kernel
theorem dX8_numberOfPart_109 : decode cX8_numberOfPart 109 = .ok (.getfield 50, 3) := by decide +kernel
theorem dX8_numberOfPart_112 : decode cX8_numberOfPart 112 = .ok (.iload 4, 2) := by decide +kernel
theorem dX8_numberOfPart_114 : decode cX8_numberOfPart 114 = .ok (.iload 6, 2) := by decide +kernel
theorem dX8_numberOfPart_116 : decode cX8_numberOfPart 116 = .ok (.invokevirtual 180, 3) := by decide +kernel
theorem dX8_numberOfPart_119 : decode cX8_numberOfPart 119 = .ok (.ireturn, 1) := by decide +kernel
theorem dX8_numberOfPart_120 : decode cX8_numberOfPart 120 = .ok (.iload 7, 2) := by decide +kernel
theorem dX8_numberOfPart_122 : decode cX8_numberOfPart 122 = .ok (.iload 6, 2) := by decide +kernel
theorem dX8_numberOfPart_124 : decode cX8_numberOfPart 124 = .ok (.iload 5, 2) := by decide +kernel
theorem dX8_numberOfPart_126 : decode cX8_numberOfPart 126 = .ok (.imul, 1) := by decide +kernel
theorem dX8_numberOfPart_127 : decode cX8_numberOfPart 127 = .ok (.isub, 1) := by decide +kernel
theorem dX8_numberOfPart_128 : decode cX8_numberOfPart 128 = .ok (.ireturn, 1) := by decide +kernel
theorem dX8_numberOfPart_129 : decode cX8_numberOfPart 129 = .ok (.iload 8, 2) := by decide +kernel
theorem dX8_numberOfPart_131 : decode cX8_numberOfPart 131 = .ok (.iload 7, 2) := by decide +kernel
theorem dX8_numberOfPart_133 : decode cX8_numberOfPart 133 = .ok (.isub, 1) := by decide +kernel
theorem dX8_numberOfPart_134 : decode cX8_numberOfPart 134 = .ok (.iconst 1, 1) := by decide +kernel
theorem dX8_numberOfPart_135 : decode cX8_numberOfPart 135 = .ok (.iadd, 1) := by decide +kernel
theorem dX8_numberOfPart_136 : decode cX8_numberOfPart 136 = .ok (.ireturn, 1) := by decide +kernel
theorem dX8_numberOfPart_137 : decode cX8_numberOfPart 137 = .ok (.iload_n 2, 1) := by decide +kernel
theorem dX8_numberOfPart_138 : decode cX8_numberOfPart 138 = .ok (.ifCond .ne 7, 3) := by decide +kernel
theorem dX8_numberOfPart_141 : decode cX8_numberOfPart 141 = .ok (.iconst (-1), 1) := by decide +kernel
theorem dX8_numberOfPart_142 : decode cX8_numberOfPart 142 = .ok (.goto 16, 3) := by decide +kernel
theorem dX8_numberOfPart_145 : decode cX8_numberOfPart 145 = .ok (.aload_n 0, 1) := by decide +kernel
theorem dX8_numberOfPart_146 : decode cX8_numberOfPart 146 = .ok (.getfield 50, 3) := by decide +kernel
theorem dX8_numberOfPart_149 : decode cX8_numberOfPart 149 = .ok (.iload 4, 2) := by decide +kernel
theorem dX8_numberOfPart_151 : decode cX8_numberOfPart 151 = .ok (.iload 6, 2) := by decide +kernel
theorem dX8_numberOfPart_153 : decode cX8_numberOfPart 153 = .ok (.iconst 1, 1) := by decide +kernel
theorem dX8_numberOfPart_154 : decode cX8_numberOfPart 154 = .ok (.isub, 1) := by decide +kernel
theorem dX8_numberOfPart_155 : decode cX8_numberOfPart 155 = .ok (.invokevirtual 180, 3) := by decide +kernel
theorem dX8_numberOfPart_158 : decode cX8_numberOfPart 158 = .ok (.ireturn, 1) := by decide +kernel
theorem dX8_numberOfPart_159 : decode cX8_numberOfPart 159 = .ok (.iload_n 2, 1) := by decide +kernel
theorem dX8_numberOfPart_160 : decode cX8_numberOfPart 160 = .ok (.aload_n 0, 1) := by decide +kernel
theorem dX8_numberOfPart_161 : decode cX8_numberOfPart 161 = .ok (.iload_n 1, 1) := by decide +kernel
theorem dX8_numberOfPart_162 : decode cX8_numberOfPart 162 = .ok (.invokevirtual 183, 3) := by decide +kernel
theorem dX8_numberOfPart_165 : decode cX8_numberOfPart 165 = .ok (.iconst 1, 1) := by decide +kernel
theorem dX8_numberOfPart_166 : decode cX8_numberOfPart 166 = .ok (.isub, 1) := by decide +kernel
theorem dX8_numberOfPart_167 : decode cX8_numberOfPart 167 = .ok (.if_icmp .ne 7, 3) := by decide +kernel
theorem dX8_numberOfPart_170 : decode cX8_numberOfPart 170 = .ok (.iconst (-1), 1) := by decide +kernel
theorem dX8_numberOfPart_171 : decode cX8_numberOfPart 171 = .ok (.goto 16, 3) := by decide +kernel
theorem dX8_numberOfPart_174 : decode cX8_numberOfPart 174 = .ok (.aload_n 0, 1) := by decide +kernel
theorem dX8_numberOfPart_175 : decode cX8_numberOfPart 175 = .ok (.getfield 50, 3) := by decide +kernel
theorem dX8_numberOfPart_178 : decode cX8_numberOfPart 178 = .ok (.iload 4, 2) := by decide +kernel
theorem dX8_numberOfPart_180 : decode cX8_numberOfPart 180 = .ok (.iload 6, 2) := by decide +kernel
theorem dX8_numberOfPart_182 : decode cX8_numberOfPart 182 = .ok (.iconst 1, 1) := by decide +kernel
theorem dX8_numberOfPart_183 : decode cX8_numberOfPart 183 = .ok (.iadd, 1) := by decide +kernel
theorem dX8_numberOfPart_184 : decode cX8_numberOfPart 184 = .ok (.invokevirtual 180, 3) := by decide +kernel
theorem dX8_numberOfPart_187 : decode cX8_numberOfPart 187 = .ok (.ireturn, 1) := by decide +kernel
theorem dX8_numberOfArrow_0 : decode cX8_numberOfArrow 0 = .ok (.iload_n 2, 1) := by decide +kernel
theorem dX8_numberOfArrow_1 : decode cX8_numberOfArrow 1 = .ok (.tableswitch 80 0 4 #[35, 44, 53, 62, 71], 35) := by decide +kernel
theorem dX8_numberOfArrow_36 : decode cX8_numberOfArrow 36 = .ok (.aload_n 0, 1) := by decide +kernel
theorem dX8_numberOfArrow_37 : decode cX8_numberOfArrow 37 = .ok (.getfield 12, 3) := by decide +kernel
theorem dX8_numberOfArrow_40 : decode cX8_numberOfArrow 40 = .ok (.iload_n 1, 1) := by decide +kernel
theorem dX8_numberOfArrow_41 : decode cX8_numberOfArrow 41 = .ok (.invokevirtual 237, 3) := by decide +kernel
theorem dX8_numberOfArrow_44 : decode cX8_numberOfArrow 44 = .ok (.ireturn, 1) := by decide +kernel
theorem dX8_numberOfArrow_45 : decode cX8_numberOfArrow 45 = .ok (.aload_n 0, 1) := by decide +kernel
theorem dX8_numberOfArrow_46 : decode cX8_numberOfArrow 46 = .ok (.getfield 12, 3) := by decide +kernel
theorem dX8_numberOfArrow_49 : decode cX8_numberOfArrow 49 = .ok (.iload_n 1, 1) := by decide +kernel
theorem dX8_numberOfArrow_50 : decode cX8_numberOfArrow 50 = .ok (.invokevirtual 234, 3) := by decide +kernel
theorem dX8_numberOfArrow_53 : decode cX8_numberOfArrow 53 = .ok (.ireturn, 1) := by decide +kernel
theorem dX8_numberOfArrow_54 : decode cX8_numberOfArrow 54 = .ok (.aload_n 0, 1) := by decide +kernel
theorem dX8_numberOfArrow_55 : decode cX8_numberOfArrow 55 = .ok (.getfield 57, 3) := by decide +kernel
theorem dX8_numberOfArrow_58 : decode cX8_numberOfArrow 58 = .ok (.iload_n 1, 1) := by decide +kernel
theorem dX8_numberOfArrow_59 : decode cX8_numberOfArrow 59 = .ok (.invokevirtual 346, 3) := by decide +kernel
theorem dX8_numberOfArrow_62 : decode cX8_numberOfArrow 62 = .ok (.ireturn, 1) := by decide +kernel
theorem dX8_numberOfArrow_63 : decode cX8_numberOfArrow 63 = .ok (.aload_n 0, 1) := by decide +kernel
theorem dX8_numberOfArrow_64 : decode cX8_numberOfArrow 64 = .ok (.getfield 57, 3) := by decide +kernel
theorem dX8_numberOfArrow_67 : decode cX8_numberOfArrow 67 = .ok (.iload_n 1, 1) := by decide +kernel
theorem dX8_numberOfArrow_68 : decode cX8_numberOfArrow 68 = .ok (.invokevirtual 349, 3) := by decide +kernel
theorem dX8_numberOfArrow_71 : decode cX8_numberOfArrow 71 = .ok (.ireturn, 1) := by decide +kernel
theorem dX8_numberOfArrow_72 : decode cX8_numberOfArrow 72 = .ok (.aload_n 0, 1) := by decide +kernel
theorem dX8_numberOfArrow_73 : decode cX8_numberOfArrow 73 = .ok (.getfield 57, 3) := by decide +kernel
theorem dX8_numberOfArrow_76 : decode cX8_numberOfArrow 76 = .ok (.iload_n 1, 1) := by decide +kernel
theorem dX8_numberOfArrow_77 : decode cX8_numberOfArrow 77 = .ok (.invokevirtual 352, 3) := by decide +kernel
theorem dX8_numberOfArrow_80 : decode cX8_numberOfArrow 80 = .ok (.ireturn, 1) := by decide +kernel
theorem dX8_numberOfArrow_81 : decode cX8_numberOfArrow 81 = .ok (.aload_n 0, 1) := by decide +kernel
theorem dX8_numberOfArrow_82 : decode cX8_numberOfArrow 82 = .ok (.getfield 12, 3) := by decide +kernel
theorem dX8_numberOfArrow_85 : decode cX8_numberOfArrow 85 = .ok (.iload_n 1, 1) := by decide +kernel
theorem dX8_numberOfArrow_86 : decode cX8_numberOfArrow 86 = .ok (.invokevirtual 355, 3) := by decide +kernel
theorem dX8_numberOfArrow_89 : decode cX8_numberOfArrow 89 = .ok (.ifCond .eq 7, 3) := by decide +kernel
theorem dX8_numberOfArrow_92 : decode cX8_numberOfArrow 92 = .ok (.iconst 1, 1) := by decide +kernel
theorem dX8_numberOfArrow_93 : decode cX8_numberOfArrow 93 = .ok (.goto 4, 3) := by decide +kernel
theorem dX8_numberOfArrow_96 : decode cX8_numberOfArrow 96 = .ok (.iconst 0, 1) := by decide +kernel
theorem dX8_numberOfArrow_97 : decode cX8_numberOfArrow 97 = .ok (.ireturn, 1) := by decide +kernel
theorem dX9_init_0 : decode cX9_init 0 = .ok (.aload_n 0, 1) := by decide +kernel
theorem dX9_init_1 : decode cX9_init 1 = .ok (.invokespecial 1, 3) := by decide +kernel
theorem dX9_init_4 : decode cX9_init 4 = .ok (.aload_n 0, 1) := by decide +kernel
theorem dX9_init_5 : decode cX9_init 5 = .ok (.sipush 138, 3) := by decide +kernel
theorem dX9_init_8 : decode cX9_init 8 = .ok (.newarray .int, 2) := by decide +kernel
theorem dX9_init_10 : decode cX9_init 10 = .ok (.putfield 7, 3) := by decide +kernel
theorem dX9_init_13 : decode cX9_init 13 = .ok (.aload_n 0, 1) := by decide +kernel
theorem dX9_init_14 : decode cX9_init 14 = .ok (.sipush 552, 3) := by decide +kernel
theorem dX9_init_17 : decode cX9_init 17 = .ok (.newarray .int, 2) := by decide +kernel
theorem dX9_init_19 : decode cX9_init 19 = .ok (.putfield 13, 3) := by decide +kernel
theorem dX9_init_22 : decode cX9_init 22 = .ok (.aload_n 0, 1) := by decide +kernel
theorem dX9_init_23 : decode cX9_init 23 = .ok (.sipush 138, 3) := by decide +kernel
theorem dX9_init_26 : decode cX9_init 26 = .ok (.newarray .int, 2) := by decide +kernel
theorem dX9_init_28 : decode cX9_init 28 = .ok (.putfield 16, 3) := by decide +kernel
theorem dX9_init_31 : decode cX9_init 31 = .ok (.aload_n 0, 1) := by decide +kernel
theorem dX9_init_32 : decode cX9_init 32 = .ok (.sipush 150, 3) := by decide +kernel
theorem dX9_init_35 : decode cX9_init 35 = .ok (.newarray .int, 2) := by decide +kernel
theorem dX9_init_37 : decode cX9_init 37 = .ok (.putfield 19, 3) := by decide +kernel
theorem dX9_init_40 : decode cX9_init 40 = .ok (.aload_n 0, 1) := by decide +kernel
theorem dX9_init_41 : decode cX9_init 41 = .ok (.sipush 480, 3) := by decide +kernel
theorem dX9_init_44 : decode cX9_init 44 = .ok (.newarray .int, 2) := by decide +kernel
theorem dX9_init_46 : decode cX9_init 46 = .ok (.putfield 22, 3) := by decide +kernel
theorem dX9_init_49 : decode cX9_init 49 = .ok (.aload_n 0, 1) := by decide +kernel
theorem dX9_init_50 : decode cX9_init 50 = .ok (.bipush 24, 2) := by decide +kernel
theorem dX9_init_52 : decode cX9_init 52 = .ok (.newarray .int, 2) := by decide +kernel
theorem dX9_init_54 : decode cX9_init 54 = .ok (.putfield 25, 3) := by decide +kernel
theorem dX9_init_57 : decode cX9_init 57 = .ok (.aload_n 0, 1) := by decide +kernel
theorem dX9_init_58 : decode cX9_init 58 = .ok (.bipush 24, 2) := by decide +kernel
theorem dX9_init_60 : decode cX9_init 60 = .ok (.newarray .int, 2) := by decide +kernel
theorem dX9_init_62 : decode cX9_init 62 = .ok (.putfield 28, 3) := by decide +kernel
theorem dX9_init_65 : decode cX9_init 65 = .ok (.aload_n 0, 1) := by decide +kernel
theorem dX9_init_66 : decode cX9_init 66 = .ok (.sipush 1248, 3) := by decide +kernel
theorem dX9_init_69 : decode cX9_init 69 = .ok (.newarray .int, 2) := by decide +kernel
theorem dX9_init_71 : decode cX9_init 71 = .ok (.putfield 31, 3) := by decide +kernel
theorem dX9_init_74 : decode cX9_init 74 = .ok (.aload_n 0, 1) := by decide +kernel
theorem dX9_init_75 : decode cX9_init 75 = .ok (.sipush 1248, 3) := by decide +kernel
theorem dX9_init_78 : decode cX9_init 78 = .ok (.newarray .int, 2) := by decide +kernel
theorem dX9_init_80 : decode cX9_init 80 = .ok (.putfield 34, 3) := by decide +kernel
theorem dX9_init_83 : decode cX9_init 83 = .ok (.aload_n 0, 1) := by decide +kernel
theorem dX9_init_84 : decode cX9_init 84 = .ok (.bipush 24, 2) := by decide +kernel
theorem dX9_init_86 : decode cX9_init 86 = .ok (.newarray .int, 2) := by decide +kernel
theorem dX9_init_88 : decode cX9_init 88 = .ok (.putfield 37, 3) := by decide +kernel
theorem dX9_init_91 : decode cX9_init 91 = .ok (.aload_n 0, 1) := by decide +kernel
theorem dX9_init_92 : decode cX9_init 92 = .ok (.getfield 7, 3) := by decide +kernel
theorem dX9_init_95 : decode cX9_init 95 = .ok (.iconst 0, 1) := by decide +kernel
theorem dX9_init_96 : decode cX9_init 96 = .ok (.bipush 8, 2) := by decide +kernel
theorem dX9_init_98 : decode cX9_init 98 = .ok (.iastore, 1) := by decide +kernel
theorem dX9_init_99 : decode cX9_init 99 = .ok (.aload_n 0, 1) := by decide +kernel
theorem dX9_init_100 : decode cX9_init 100 = .ok (.getfield 7, 3) := by decide +kernel
theorem dX9_init_103 : decode cX9_init 103 = .ok (.iconst 1, 1) := by decide +kernel
theorem dX9_init_104 : decode cX9_init 104 = .ok (.bipush 20, 2) := by decide +kernel
theorem dX9_init_106 : decode cX9_init 106 = .ok (.iastore, 1) := by decide +kernel
theorem dX9_init_107 : decode cX9_init 107 = .ok (.aload_n 0, 1) := by decide +kernel
theorem dX9_init_108 : decode cX9_init 108 = .ok (.getfield 7, 3) := by decide +kernel
theorem dX9_init_111 : decode cX9_init 111 = .ok (.iconst 2, 1) := by decide +kernel
theorem dX9_init_112 : decode cX9_init 112 = .ok (.iconst 1, 1) := by decide +kernel
theorem dX9_init_113 : decode cX9_init 113 = .ok (.iastore, 1) := by decide +kernel
theorem dX9_init_114 : decode cX9_init 114 = .ok (.return_, 1) := by decide +kernel
theorem dX9_thrown_0 : decode cX9_thrown 0 = .ok (.aload_n 0, 1) := by decide +kernel
theorem dX9_thrown_1 : decode cX9_thrown 1 = .ok (.getfield 40, 3) := by decide +kernel
theorem dX9_thrown_4 : decode cX9_thrown 4 = .ok (.ireturn, 1) := by decide +kernel
theorem dX9_in_0 : decode cX9_in 0 = .ok (.iload_n 0, 1) := by decide +kernel
theorem dX9_in_1 : decode cX9_in 1 = .ok (.iload_n 1, 1) := by decide +kernel
theorem dX9_in_2 : decode cX9_in 2 = .ok (.if_icmp .lt 12, 3) := by decide +kernel
theorem dX9_in_5 : decode cX9_in 5 = .ok (.iload_n 0, 1) := by decide +kernel
theorem dX9_in_6 : decode cX9_in 6 = .ok (.iload_n 2, 1) := by decide +kernel
theorem dX9_in_7 : decode cX9_in 7 = .ok (.if_icmp .gt 7, 3) := by decide +kernel
theorem dX9_in_10 : decode cX9_in 10 = .ok (.iconst 1, 1) := by decide +kernel
theorem dX9_in_11 : decode cX9_in 11 = .ok (.goto 4, 3) := by decide +kernel
theorem dX9_in_14 : decode cX9_in 14 = .ok (.iconst 0, 1) := by decide +kernel
theorem dX9_in_15 : decode cX9_in 15 = .ok (.ireturn, 1) := by decide +kernel
theorem dX9_fails_0 : decode cX9_fails 0 = .ok (.aload_n 0, 1) := by decide +kernel
theorem dX9_fails_1 : decode cX9_fails 1 = .ok (.iload_n 1, 1) := by decide +kernel
theorem dX9_fails_2 : decode cX9_fails 2 = .ok (.putfield 40, 3) := by decide +kernel
theorem dX9_fails_5 : decode cX9_fails 5 = .ok (.iconst 0, 1) := by decide +kernel
theorem dX9_fails_6 : decode cX9_fails 6 = .ok (.ireturn, 1) := by decide +kernel
theorem dX9_tells_0 : decode cX9_tells 0 = .ok (.aload_n 0, 1) := by decide +kernel
theorem dX9_tells_1 : decode cX9_tells 1 = .ok (.iconst 0, 1) := by decide +kernel
theorem dX9_tells_2 : decode cX9_tells 2 = .ok (.putfield 40, 3) := by decide +kernel
theorem dX9_tells_5 : decode cX9_tells 5 = .ok (.iload_n 1, 1) := by decide +kernel
theorem dX9_tells_6 : decode cX9_tells 6 = .ok (.ireturn, 1) := by decide +kernel
theorem dX9_hold_0 : decode cX9_hold 0 = .ok (.iconst 0, 1) := by decide +kernel
theorem dX9_hold_1 : decode cX9_hold 1 = .ok (.istore_n 1, 1) := by decide +kernel
theorem dX9_hold_2 : decode cX9_hold 2 = .ok (.iload_n 1, 1) := by decide +kernel
theorem dX9_hold_3 : decode cX9_hold 3 = .ok (.sipush 138, 3) := by decide +kernel
theorem dX9_hold_6 : decode cX9_hold 6 = .ok (.if_icmp .ge 21, 3) := by decide +kernel
theorem dX9_hold_9 : decode cX9_hold 9 = .ok (.aload_n 0, 1) := by decide +kernel
theorem dX9_hold_10 : decode cX9_hold 10 = .ok (.getfield 16, 3) := by decide +kernel
theorem dX9_hold_13 : decode cX9_hold 13 = .ok (.iload_n 1, 1) := by decide +kernel
theorem dX9_hold_14 : decode cX9_hold 14 = .ok (.aload_n 0, 1) := by decide +kernel
theorem dX9_hold_15 : decode cX9_hold 15 = .ok (.getfield 7, 3) := by decide +kernel
theorem dX9_hold_18 : decode cX9_hold 18 = .ok (.iload_n 1, 1) := by decide +kernel
theorem dX9_hold_19 : decode cX9_hold 19 = .ok (.iaload, 1) := by decide +kernel
theorem dX9_hold_20 : decode cX9_hold 20 = .ok (.iastore, 1) := by decide +kernel
theorem dX9_hold_21 : decode cX9_hold 21 = .ok (.iinc 1 1, 3) := by decide +kernel
theorem dX9_hold_24 : decode cX9_hold 24 = .ok (.goto (-22), 3) := by decide +kernel
theorem dX9_hold_27 : decode cX9_hold 27 = .ok (.return_, 1) := by decide +kernel
theorem dX9_ends_0 : decode cX9_ends 0 = .ok (.aload_n 0, 1) := by decide +kernel
theorem dX9_ends_1 : decode cX9_ends 1 = .ok (.getfield 44, 3) := by decide +kernel
theorem dX9_ends_4 : decode cX9_ends 4 = .ok (.iconst 4, 1) := by decide +kernel
theorem dX9_ends_5 : decode cX9_ends 5 = .ok (.if_icmp .ne 44, 3) := by decide +kernel
theorem dX9_ends_8 : decode cX9_ends 8 = .ok (.iconst 0, 1) := by decide +kernel
theorem dX9_ends_9 : decode cX9_ends 9 = .ok (.istore_n 2, 1) := by decide +kernel
theorem dX9_ends_10 : decode cX9_ends 10 = .ok (.iload_n 2, 1) := by decide +kernel
theorem dX9_ends_11 : decode cX9_ends 11 = .ok (.sipush 414, 3) := by decide +kernel
theorem dX9_ends_14 : decode cX9_ends 14 = .ok (.if_icmp .ge 25, 3) := by decide +kernel
theorem dX9_ends_17 : decode cX9_ends 17 = .ok (.aload_n 0, 1) := by decide +kernel
theorem dX9_ends_18 : decode cX9_ends 18 = .ok (.getfield 13, 3) := by decide +kernel
theorem dX9_ends_21 : decode cX9_ends 21 = .ok (.iload_n 2, 1) := by decide +kernel
theorem dX9_ends_22 : decode cX9_ends 22 = .ok (.aload_n 0, 1) := by decide +kernel
theorem dX9_ends_23 : decode cX9_ends 23 = .ok (.getfield 13, 3) := by decide +kernel
theorem dX9_ends_26 : decode cX9_ends 26 = .ok (.iload_n 2, 1) := by decide +kernel
theorem dX9_ends_27 : decode cX9_ends 27 = .ok (.sipush 138, 3) := by decide +kernel
theorem dX9_ends_30 : decode cX9_ends 30 = .ok (.iadd, 1) := by decide +kernel
theorem dX9_ends_31 : decode cX9_ends 31 = .ok (.iaload, 1) := by decide +kernel
theorem dX9_ends_32 : decode cX9_ends 32 = .ok (.iastore, 1) := by decide +kernel
theorem dX9_ends_33 : decode cX9_ends 33 = .ok (.iinc 2 1, 3) := by decide +kernel
theorem dX9_ends_36 : decode cX9_ends 36 = .ok (.goto (-26), 3) := by decide +kernel
theorem dX9_ends_39 : decode cX9_ends 39 = .ok (.aload_n 0, 1) := by decide +kernel
theorem dX9_ends_40 : decode cX9_ends 40 = .ok (.dup, 1) := by decide +kernel
theorem dX9_ends_41 : decode cX9_ends 41 = .ok (.getfield 44, 3) := by decide +kernel
theorem dX9_ends_44 : decode cX9_ends 44 = .ok (.iconst 1, 1) := by decide +kernel
theorem dX9_ends_45 : decode cX9_ends 45 = .ok (.isub, 1) := by decide +kernel
theorem dX9_ends_46 : decode cX9_ends 46 = .ok (.putfield 44, 3) := by decide +kernel
theorem dX9_ends_49 : decode cX9_ends 49 = .ok (.iconst 0, 1) := by decide +kernel
theorem dX9_ends_50 : decode cX9_ends 50 = .ok (.istore_n 2, 1) := by decide +kernel
theorem dX9_ends_51 : decode cX9_ends 51 = .ok (.iload_n 2, 1) := by decide +kernel
theorem dX9_ends_52 : decode cX9_ends 52 = .ok (.sipush 138, 3) := by decide +kernel
theorem dX9_ends_55 : decode cX9_ends 55 = .ok (.if_icmp .ge 30, 3) := by decide +kernel
theorem dX9_ends_58 : decode cX9_ends 58 = .ok (.aload_n 0, 1) := by decide +kernel
theorem dX9_ends_59 : decode cX9_ends 59 = .ok (.getfield 13, 3) := by decide +kernel
theorem dX9_ends_62 : decode cX9_ends 62 = .ok (.sipush 138, 3) := by decide +kernel
theorem dX9_ends_65 : decode cX9_ends 65 = .ok (.aload_n 0, 1) := by decide +kernel
theorem dX9_ends_66 : decode cX9_ends 66 = .ok (.getfield 44, 3) := by decide +kernel
theorem dX9_ends_69 : decode cX9_ends 69 = .ok (.imul, 1) := by decide +kernel
theorem dX9_ends_70 : decode cX9_ends 70 = .ok (.iload_n 2, 1) := by decide +kernel
theorem dX9_ends_71 : decode cX9_ends 71 = .ok (.iadd, 1) := by decide +kernel
theorem dX9_ends_72 : decode cX9_ends 72 = .ok (.aload_n 0, 1) := by decide +kernel
theorem dX9_ends_73 : decode cX9_ends 73 = .ok (.getfield 16, 3) := by decide +kernel
theorem dX9_ends_76 : decode cX9_ends 76 = .ok (.iload_n 2, 1) := by decide +kernel
theorem dX9_ends_77 : decode cX9_ends 77 = .ok (.iaload, 1) := by decide +kernel
theorem dX9_ends_78 : decode cX9_ends 78 = .ok (.iastore, 1) := by decide +kernel
theorem dX9_ends_79 : decode cX9_ends 79 = .ok (.iinc 2 1, 3) := by decide +kernel
theorem dX9_ends_82 : decode cX9_ends 82 = .ok (.goto (-31), 3) := by decide +kernel
theorem dX9_ends_85 : decode cX9_ends 85 = .ok (.aload_n 0, 1) := by decide +kernel
theorem dX9_ends_86 : decode cX9_ends 86 = .ok (.dup, 1) := by decide +kernel
theorem dX9_ends_87 : decode cX9_ends 87 = .ok (.getfield 44, 3) := by decide +kernel
theorem dX9_ends_90 : decode cX9_ends 90 = .ok (.iconst 1, 1) := by decide +kernel
theorem dX9_ends_91 : decode cX9_ends 91 = .ok (.iadd, 1) := by decide +kernel
theorem dX9_ends_92 : decode cX9_ends 92 = .ok (.putfield 44, 3) := by decide +kernel
theorem dX9_ends_95 : decode cX9_ends 95 = .ok (.aload_n 0, 1) := by decide +kernel
theorem dX9_ends_96 : decode cX9_ends 96 = .ok (.iload_n 1, 1) := by decide +kernel
theorem dX9_ends_97 : decode cX9_ends 97 = .ok (.invokevirtual 47, 3) := by decide +kernel
theorem dX9_ends_100 : decode cX9_ends 100 = .ok (.ireturn, 1) := by decide +kernel
theorem dX9_isTask_0 : decode cX9_isTask 0 = .ok (.iload_n 1, 1) := by decide +kernel
theorem dX9_isTask_1 : decode cX9_isTask 1 = .ok (.iconst 0, 1) := by decide +kernel
theorem dX9_isTask_2 : decode cX9_isTask 2 = .ok (.aload_n 0, 1) := by decide +kernel
theorem dX9_isTask_3 : decode cX9_isTask 3 = .ok (.getfield 7, 3) := by decide +kernel
theorem dX9_isTask_6 : decode cX9_isTask 6 = .ok (.iconst 4, 1) := by decide +kernel
theorem dX9_isTask_7 : decode cX9_isTask 7 = .ok (.iaload, 1) := by decide +kernel
theorem dX9_isTask_8 : decode cX9_isTask 8 = .ok (.iconst 1, 1) := by decide +kernel
theorem dX9_isTask_9 : decode cX9_isTask 9 = .ok (.isub, 1) := by decide +kernel
theorem dX9_isTask_10 : decode cX9_isTask 10 = .ok (.invokestatic 51, 3) := by decide +kernel
theorem dX9_isTask_13 : decode cX9_isTask 13 = .ok (.ireturn, 1) := by decide +kernel
theorem dX9_isArrow_0 : decode cX9_isArrow 0 = .ok (.iload_n 1, 1) := by decide +kernel
theorem dX9_isArrow_1 : decode cX9_isArrow 1 = .ok (.iconst 0, 1) := by decide +kernel
theorem dX9_isArrow_2 : decode cX9_isArrow 2 = .ok (.aload_n 0, 1) := by decide +kernel
theorem dX9_isArrow_3 : decode cX9_isArrow 3 = .ok (.getfield 7, 3) := by decide +kernel
theorem dX9_isArrow_6 : decode cX9_isArrow 6 = .ok (.bipush 77, 2) := by decide +kernel
theorem dX9_isArrow_8 : decode cX9_isArrow 8 = .ok (.iaload, 1) := by decide +kernel
theorem dX9_isArrow_9 : decode cX9_isArrow 9 = .ok (.iconst 1, 1) := by decide +kernel
theorem dX9_isArrow_10 : decode cX9_isArrow 10 = .ok (.isub, 1) := by decide +kernel
theorem dX9_isArrow_11 : decode cX9_isArrow 11 = .ok (.invokestatic 51, 3) := by decide +kernel
theorem dX9_isArrow_14 : decode cX9_isArrow 14 = .ok (.ireturn, 1) := by decide +kernel
theorem dX9_of_0 : decode cX9_of 0 = .ok (.aload_n 0, 1) := by decide +kernel
theorem dX9_of_1 : decode cX9_of 1 = .ok (.getfield 7, 3) := by decide +kernel
theorem dX9_of_4 : decode cX9_of 4 = .ok (.iconst 5, 1) := by decide +kernel
theorem dX9_of_5 : decode cX9_of 5 = .ok (.iconst 3, 1) := by decide +kernel
theorem dX9_of_6 : decode cX9_of 6 = .ok (.iload_n 1, 1) := by decide +kernel
theorem dX9_of_7 : decode cX9_of 7 = .ok (.imul, 1) := by decide +kernel
theorem dX9_of_8 : decode cX9_of 8 = .ok (.iadd, 1) := by decide +kernel
theorem dX9_of_9 : decode cX9_of 9 = .ok (.iload_n 2, 1) := by decide +kernel
theorem dX9_of_10 : decode cX9_of 10 = .ok (.iadd, 1) := by decide +kernel
theorem dX9_of_11 : decode cX9_of 11 = .ok (.iaload, 1) := by decide +kernel
theorem dX9_of_12 : decode cX9_of 12 = .ok (.ireturn, 1) := by decide +kernel
theorem dX9_lastDay_0 : decode cX9_lastDay 0 = .ok (.aload_n 0, 1) := by decide +kernel
theorem dX9_lastDay_1 : decode cX9_lastDay 1 = .ok (.iload_n 1, 1) := by decide +kernel
theorem dX9_lastDay_2 : decode cX9_lastDay 2 = .ok (.iconst 1, 1) := by decide +kernel
theorem dX9_lastDay_3 : decode cX9_lastDay 3 = .ok (.invokevirtual 55, 3) := by decide +kernel
theorem dX9_lastDay_6 : decode cX9_lastDay 6 = .ok (.aload_n 0, 1) := by decide +kernel
theorem dX9_lastDay_7 : decode cX9_lastDay 7 = .ok (.iload_n 1, 1) := by decide +kernel
theorem dX9_lastDay_8 : decode cX9_lastDay 8 = .ok (.iconst 2, 1) := by decide +kernel
theorem dX9_lastDay_9 : decode cX9_lastDay 9 = .ok (.invokevirtual 55, 3) := by decide +kernel
theorem dX9_lastDay_12 : decode cX9_lastDay 12 = .ok (.iadd, 1) := by decide +kernel
theorem dX9_lastDay_13 : decode cX9_lastDay 13 = .ok (.iconst 1, 1) := by decide +kernel
theorem dX9_lastDay_14 : decode cX9_lastDay 14 = .ok (.isub, 1) := by decide +kernel
theorem dX9_lastDay_15 : decode cX9_lastDay 15 = .ok (.ireturn, 1) := by decide +kernel
theorem dX9_end_0 : decode cX9_end 0 = .ok (.aload_n 0, 1) := by decide +kernel
theorem dX9_end_1 : decode cX9_end 1 = .ok (.getfield 7, 3) := by decide +kernel
theorem dX9_end_4 : decode cX9_end 4 = .ok (.bipush 78, 2) := by decide +kernel
theorem dX9_end_6 : decode cX9_end 6 = .ok (.iconst 2, 1) := by decide +kernel
theorem dX9_end_7 : decode cX9_end 7 = .ok (.iload_n 1, 1) := by decide +kernel
theorem dX9_end_8 : decode cX9_end 8 = .ok (.imul, 1) := by decide +kernel
theorem dX9_end_9 : decode cX9_end 9 = .ok (.iadd, 1) := by decide +kernel
theorem dX9_end_10 : decode cX9_end 10 = .ok (.iload_n 2, 1) := by decide +kernel
theorem dX9_end_11 : decode cX9_end 11 = .ok (.iadd, 1) := by decide +kernel
theorem dX9_end_12 : decode cX9_end 12 = .ok (.iaload, 1) := by decide +kernel
theorem dX9_end_13 : decode cX9_end 13 = .ok (.ireturn, 1) := by decide +kernel
theorem dX9_isSetting_0 : decode cX9_isSetting 0 = .ok (.iload_n 0, 1) := by decide +kernel
theorem dX9_isSetting_1 : decode cX9_isSetting 1 = .ok (.tableswitch 54 0 3 #[31, 39, 47, 47], 31) := by decide +kernel
theorem dX9_isSetting_32 : decode cX9_isSetting 32 = .ok (.iload_n 1, 1) := by decide +kernel
theorem dX9_isSetting_33 : decode cX9_isSetting 33 = .ok (.iconst 3, 1) := by decide +kernel
theorem dX9_isSetting_34 : decode cX9_isSetting 34 = .ok (.bipush 20, 2) := by decide +kernel
theorem dX9_isSetting_36 : decode cX9_isSetting 36 = .ok (.invokestatic 51, 3) := by decide +kernel
theorem dX9_isSetting_39 : decode cX9_isSetting 39 = .ok (.ireturn, 1) := by decide +kernel
theorem dX9_isSetting_40 : decode cX9_isSetting 40 = .ok (.iload_n 1, 1) := by decide +kernel
theorem dX9_isSetting_41 : decode cX9_isSetting 41 = .ok (.iconst 5, 1) := by decide +kernel
theorem dX9_isSetting_42 : decode cX9_isSetting 42 = .ok (.bipush 60, 2) := by decide +kernel
theorem dX9_isSetting_44 : decode cX9_isSetting 44 = .ok (.invokestatic 51, 3) := by decide +kernel
theorem dX9_isSetting_47 : decode cX9_isSetting 47 = .ok (.ireturn, 1) := by decide +kernel
theorem dX9_isSetting_48 : decode cX9_isSetting 48 = .ok (.iload_n 1, 1) := by decide +kernel
theorem dX9_isSetting_49 : decode cX9_isSetting 49 = .ok (.iconst 0, 1) := by decide +kernel
theorem dX9_isSetting_50 : decode cX9_isSetting 50 = .ok (.iconst 1, 1) := by decide +kernel
theorem dX9_isSetting_51 : decode cX9_isSetting 51 = .ok (.invokestatic 51, 3) := by decide +kernel
theorem dX9_isSetting_54 : decode cX9_isSetting 54 = .ok (.ireturn, 1) := by decide +kernel
theorem dX9_isSetting_55 : decode cX9_isSetting 55 = .ok (.iconst 0, 1) := by decide +kernel
theorem dX9_isSetting_56 : decode cX9_isSetting 56 = .ok (.ireturn, 1) := by decide +kernel
theorem dX9_set_0 : decode cX9_set 0 = .ok (.iload_n 1, 1) := by decide +kernel
theorem dX9_set_1 : decode cX9_set 1 = .ok (.iload_n 2, 1) := by decide +kernel
theorem dX9_set_2 : decode cX9_set 2 = .ok (.invokestatic 59, 3) := by decide +kernel
theorem dX9_set_5 : decode cX9_set 5 = .ok (.ifCond .ne 9, 3) := by decide +kernel
theorem dX9_set_8 : decode cX9_set 8 = .ok (.aload_n 0, 1) := by decide +kernel
theorem dX9_set_9 : decode cX9_set 9 = .ok (.iconst 1, 1) := by decide +kernel
theorem dX9_set_10 : decode cX9_set 10 = .ok (.invokevirtual 63, 3) := by decide +kernel
theorem dX9_set_13 : decode cX9_set 13 = .ok (.ireturn, 1) := by decide +kernel
theorem dX9_set_14 : decode cX9_set 14 = .ok (.aload_n 0, 1) := by decide +kernel
theorem dX9_set_15 : decode cX9_set 15 = .ok (.invokevirtual 66, 3) := by decide +kernel
theorem dX9_set_18 : decode cX9_set 18 = .ok (.aload_n 0, 1) := by decide +kernel
theorem dX9_set_19 : decode cX9_set 19 = .ok (.getfield 7, 3) := by decide +kernel
theorem dX9_set_22 : decode cX9_set 22 = .ok (.iload_n 1, 1) := by decide +kernel
theorem dX9_set_23 : decode cX9_set 23 = .ok (.iaload, 1) := by decide +kernel
theorem dX9_set_24 : decode cX9_set 24 = .ok (.istore_n 3, 1) := by decide +kernel
theorem dX9_set_25 : decode cX9_set 25 = .ok (.aload_n 0, 1) := by decide +kernel
theorem dX9_set_26 : decode cX9_set 26 = .ok (.getfield 7, 3) := by decide +kernel
theorem dX9_set_29 : decode cX9_set 29 = .ok (.iload_n 1, 1) := by decide +kernel
theorem dX9_set_30 : decode cX9_set 30 = .ok (.iload_n 2, 1) := by decide +kernel
theorem dX9_set_31 : decode cX9_set 31 = .ok (.iastore, 1) := by decide +kernel
theorem dX9_set_32 : decode cX9_set 32 = .ok (.aload_n 0, 1) := by decide +kernel
theorem dX9_set_33 : decode cX9_set 33 = .ok (.iload_n 3, 1) := by decide +kernel
theorem dX9_set_34 : decode cX9_set 34 = .ok (.invokevirtual 69, 3) := by decide +kernel
theorem dX9_set_37 : decode cX9_set 37 = .ok (.ireturn, 1) := by decide +kernel
theorem dX9_valueOf_0 : decode cX9_valueOf 0 = .ok (.iload_n 1, 1) := by decide +kernel
theorem dX9_valueOf_1 : decode cX9_valueOf 1 = .ok (.iconst 5, 1) := by decide +kernel
theorem dX9_valueOf_2 : decode cX9_valueOf 2 = .ok (.if_icmp .ge 12, 3) := by decide +kernel
theorem dX9_valueOf_5 : decode cX9_valueOf 5 = .ok (.aload_n 0, 1) := by decide +kernel
theorem dX9_valueOf_6 : decode cX9_valueOf 6 = .ok (.getfield 7, 3) := by decide +kernel
theorem dX9_valueOf_9 : decode cX9_valueOf 9 = .ok (.iload_n 1, 1) := by decide +kernel
theorem dX9_valueOf_10 : decode cX9_valueOf 10 = .ok (.iaload, 1) := by decide +kernel
theorem dX9_valueOf_11 : decode cX9_valueOf 11 = .ok (.goto 10, 3) := by decide +kernel
theorem dX9_valueOf_14 : decode cX9_valueOf 14 = .ok (.aload_n 0, 1) := by decide +kernel
theorem dX9_valueOf_15 : decode cX9_valueOf 15 = .ok (.getfield 7, 3) := by decide +kernel
theorem dX9_valueOf_18 : decode cX9_valueOf 18 = .ok (.bipush 77, 2) := by decide +kernel
theorem dX9_valueOf_20 : decode cX9_valueOf 20 = .ok (.iaload, 1) := by decide +kernel
theorem dX9_valueOf_21 : decode cX9_valueOf 21 = .ok (.ireturn, 1) := by decide +kernel
theorem dX9_value_0 : decode cX9_value 0 = .ok (.iload_n 1, 1) := by decide +kernel
theorem dX9_value_1 : decode cX9_value 1 = .ok (.iconst 0, 1) := by decide +kernel
theorem dX9_value_2 : decode cX9_value 2 = .ok (.iconst 5, 1) := by decide +kernel
theorem dX9_value_3 : decode cX9_value 3 = .ok (.invokestatic 51, 3) := by decide +kernel
theorem dX9_value_6 : decode cX9_value 6 = .ok (.ifCond .eq 15, 3) := by decide +kernel
theorem dX9_value_9 : decode cX9_value 9 = .ok (.aload_n 0, 1) := by decide +kernel
theorem dX9_value_10 : decode cX9_value 10 = .ok (.aload_n 0, 1) := by decide +kernel
theorem dX9_value_11 : decode cX9_value 11 = .ok (.iload_n 1, 1) := by decide +kernel
theorem dX9_value_12 : decode cX9_value 12 = .ok (.invokevirtual 72, 3) := by decide +kernel
theorem dX9_value_15 : decode cX9_value 15 = .ok (.invokevirtual 47, 3) := by decide +kernel
theorem dX9_value_18 : decode cX9_value 18 = .ok (.goto 8, 3) := by decide +kernel
theorem dX9_value_21 : decode cX9_value 21 = .ok (.aload_n 0, 1) := by decide +kernel
theorem dX9_value_22 : decode cX9_value 22 = .ok (.iconst 1, 1) := by decide +kernel
theorem dX9_value_23 : decode cX9_value 23 = .ok (.invokevirtual 63, 3) := by decide +kernel
theorem dX9_value_26 : decode cX9_value 26 = .ok (.ireturn, 1) := by decide +kernel
theorem dX9_isBar_0 : decode cX9_isBar 0 = .ok (.iload_n 0, 1) := by decide +kernel
theorem dX9_isBar_1 : decode cX9_isBar 1 = .ok (.iconst 0, 1) := by decide +kernel
theorem dX9_isBar_2 : decode cX9_isBar 2 = .ok (.sipush 199, 3) := by decide +kernel
theorem dX9_isBar_5 : decode cX9_isBar 5 = .ok (.invokestatic 51, 3) := by decide +kernel
theorem dX9_isBar_8 : decode cX9_isBar 8 = .ok (.ifCond .eq 17, 3) := by decide +kernel
theorem dX9_isBar_11 : decode cX9_isBar 11 = .ok (.iload_n 1, 1) := by decide +kernel
theorem dX9_isBar_12 : decode cX9_isBar 12 = .ok (.iconst 1, 1) := by decide +kernel
theorem dX9_isBar_13 : decode cX9_isBar 13 = .ok (.bipush 60, 2) := by decide +kernel
theorem dX9_isBar_15 : decode cX9_isBar 15 = .ok (.invokestatic 51, 3) := by decide +kernel
theorem dX9_isBar_18 : decode cX9_isBar 18 = .ok (.ifCond .eq 7, 3) := by decide +kernel
theorem dX9_isBar_21 : decode cX9_isBar 21 = .ok (.iconst 1, 1) := by decide +kernel
theorem dX9_isBar_22 : decode cX9_isBar 22 = .ok (.goto 4, 3) := by decide +kernel
theorem dX9_isBar_25 : decode cX9_isBar 25 = .ok (.iconst 0, 1) := by decide +kernel
theorem dX9_isBar_26 : decode cX9_isBar 26 = .ok (.ireturn, 1) := by decide +kernel
theorem dX9_comes_0 : decode cX9_comes 0 = .ok (.iconst 5, 1) := by decide +kernel
theorem dX9_comes_1 : decode cX9_comes 1 = .ok (.iconst 3, 1) := by decide +kernel
theorem dX9_comes_2 : decode cX9_comes 2 = .ok (.aload_n 0, 1) := by decide +kernel
theorem dX9_comes_3 : decode cX9_comes 3 = .ok (.getfield 7, 3) := by decide +kernel
theorem dX9_comes_6 : decode cX9_comes 6 = .ok (.iconst 4, 1) := by decide +kernel
theorem dX9_comes_7 : decode cX9_comes 7 = .ok (.iaload, 1) := by decide +kernel
theorem dX9_comes_8 : decode cX9_comes 8 = .ok (.imul, 1) := by decide +kernel
theorem dX9_comes_9 : decode cX9_comes 9 = .ok (.iadd, 1) := by decide +kernel
theorem dX9_comes_10 : decode cX9_comes 10 = .ok (.istore 4, 2) := by decide +kernel
theorem dX9_comes_12 : decode cX9_comes 12 = .ok (.aload_n 0, 1) := by decide +kernel
theorem dX9_comes_13 : decode cX9_comes 13 = .ok (.getfield 7, 3) := by decide +kernel
theorem dX9_comes_16 : decode cX9_comes 16 = .ok (.iload 4, 2) := by decide +kernel
theorem dX9_comes_18 : decode cX9_comes 18 = .ok (.iload_n 1, 1) := by decide +kernel
theorem dX9_comes_19 : decode cX9_comes 19 = .ok (.iastore, 1) := by decide +kernel
theorem dX9_comes_20 : decode cX9_comes 20 = .ok (.aload_n 0, 1) := by decide +kernel
theorem dX9_comes_21 : decode cX9_comes 21 = .ok (.getfield 7, 3) := by decide +kernel
theorem dX9_comes_24 : decode cX9_comes 24 = .ok (.iload 4, 2) := by decide +kernel
theorem dX9_comes_26 : decode cX9_comes 26 = .ok (.iconst 1, 1) := by decide +kernel
theorem dX9_comes_27 : decode cX9_comes 27 = .ok (.iadd, 1) := by decide +kernel
theorem dX9_comes_28 : decode cX9_comes 28 = .ok (.iload_n 2, 1) := by decide +kernel
theorem dX9_comes_29 : decode cX9_comes 29 = .ok (.iastore, 1) := by decide +kernel
theorem dX9_comes_30 : decode cX9_comes 30 = .ok (.aload_n 0, 1) := by decide +kernel
theorem dX9_comes_31 : decode cX9_comes 31 = .ok (.getfield 7, 3) := by decide +kernel
theorem dX9_comes_34 : decode cX9_comes 34 = .ok (.iload 4, 2) := by decide +kernel
theorem dX9_comes_36 : decode cX9_comes 36 = .ok (.iconst 2, 1) := by decide +kernel
theorem dX9_comes_37 : decode cX9_comes 37 = .ok (.iadd, 1) := by decide +kernel
theorem dX9_comes_38 : decode cX9_comes 38 = .ok (.iload_n 3, 1) := by decide +kernel
theorem dX9_comes_39 : decode cX9_comes 39 = .ok (.iastore, 1) := by decide +kernel
theorem dX9_comes_40 : decode cX9_comes 40 = .ok (.aload_n 0, 1) := by decide +kernel
theorem dX9_comes_41 : decode cX9_comes 41 = .ok (.getfield 7, 3) := by decide +kernel
theorem dX9_comes_44 : decode cX9_comes 44 = .ok (.iconst 4, 1) := by decide +kernel
theorem dX9_comes_45 : decode cX9_comes 45 = .ok (.dup2, 1) := by decide +kernel
theorem dX9_comes_46 : decode cX9_comes 46 = .ok (.iaload, 1) := by decide +kernel
theorem dX9_comes_47 : decode cX9_comes 47 = .ok (.iconst 1, 1) := by decide +kernel
theorem dX9_comes_48 : decode cX9_comes 48 = .ok (.iadd, 1) := by decide +kernel
theorem dX9_comes_49 : decode cX9_comes 49 = .ok (.iastore, 1) := by decide +kernel
theorem dX9_comes_50 : decode cX9_comes 50 = .ok (.return_, 1) := by decide +kernel
theorem dX9_addTask_0 : decode cX9_addTask 0 = .ok (.iload_n 1, 1) := by decide +kernel
theorem dX9_addTask_1 : decode cX9_addTask 1 = .ok (.iconst 0, 1) := by decide +kernel
theorem dX9_addTask_2 : decode cX9_addTask 2 = .ok (.iconst 5, 1) := by decide +kernel
theorem dX9_addTask_3 : decode cX9_addTask 3 = .ok (.invokestatic 51, 3) := by decide +kernel
theorem dX9_addTask_6 : decode cX9_addTask 6 = .ok (.ifCond .eq 11, 3) := by decide +kernel
theorem dX9_addTask_9 : decode cX9_addTask 9 = .ok (.iload_n 2, 1) := by decide +kernel
theorem dX9_addTask_10 : decode cX9_addTask 10 = .ok (.iload_n 3, 1) := by decide +kernel
theorem dX9_addTask_11 : decode cX9_addTask 11 = .ok (.invokestatic 75, 3) := by decide +kernel
theorem dX9_addTask_14 : decode cX9_addTask 14 = .ok (.ifCond .ne 9, 3) := by decide +kernel
theorem dX9_addTask_17 : decode cX9_addTask 17 = .ok (.aload_n 0, 1) := by decide +kernel
theorem dX9_addTask_18 : decode cX9_addTask 18 = .ok (.iconst 1, 1) := by decide +kernel
theorem dX9_addTask_19 : decode cX9_addTask 19 = .ok (.invokevirtual 63, 3) := by decide +kernel
theorem dX9_addTask_22 : decode cX9_addTask 22 = .ok (.ireturn, 1) := by decide +kernel
theorem dX9_addTask_23 : decode cX9_addTask 23 = .ok (.aload_n 0, 1) := by decide +kernel
theorem dX9_addTask_24 : decode cX9_addTask 24 = .ok (.getfield 7, 3) := by decide +kernel
theorem dX9_addTask_27 : decode cX9_addTask 27 = .ok (.iconst 4, 1) := by decide +kernel
theorem dX9_addTask_28 : decode cX9_addTask 28 = .ok (.iaload, 1) := by decide +kernel
theorem dX9_addTask_29 : decode cX9_addTask 29 = .ok (.bipush 24, 2) := by decide +kernel
theorem dX9_addTask_31 : decode cX9_addTask 31 = .ok (.if_icmp .ne 9, 3) := by decide +kernel
theorem dX9_addTask_34 : decode cX9_addTask 34 = .ok (.aload_n 0, 1) := by decide +kernel
theorem dX9_addTask_35 : decode cX9_addTask 35 = .ok (.iconst 2, 1) := by decide +kernel
theorem dX9_addTask_36 : decode cX9_addTask 36 = .ok (.invokevirtual 63, 3) := by decide +kernel
theorem dX9_addTask_39 : decode cX9_addTask 39 = .ok (.ireturn, 1) := by decide +kernel
theorem dX9_addTask_40 : decode cX9_addTask 40 = .ok (.aload_n 0, 1) := by decide +kernel
theorem dX9_addTask_41 : decode cX9_addTask 41 = .ok (.invokevirtual 66, 3) := by decide +kernel
theorem dX9_addTask_44 : decode cX9_addTask 44 = .ok (.aload_n 0, 1) := by decide +kernel
theorem dX9_addTask_45 : decode cX9_addTask 45 = .ok (.iload_n 1, 1) := by decide +kernel
theorem dX9_addTask_46 : decode cX9_addTask 46 = .ok (.iload_n 2, 1) := by decide +kernel
theorem dX9_addTask_47 : decode cX9_addTask 47 = .ok (.iload_n 3, 1) := by decide +kernel
theorem dX9_addTask_48 : decode cX9_addTask 48 = .ok (.invokevirtual 78, 3) := by decide +kernel
theorem dX9_addTask_51 : decode cX9_addTask 51 = .ok (.aload_n 0, 1) := by decide +kernel
theorem dX9_addTask_52 : decode cX9_addTask 52 = .ok (.aload_n 0, 1) := by decide +kernel
theorem dX9_addTask_53 : decode cX9_addTask 53 = .ok (.getfield 7, 3) := by decide +kernel
theorem dX9_addTask_56 : decode cX9_addTask 56 = .ok (.iconst 4, 1) := by decide +kernel
theorem dX9_addTask_57 : decode cX9_addTask 57 = .ok (.iaload, 1) := by decide +kernel
theorem dX9_addTask_58 : decode cX9_addTask 58 = .ok (.iconst 1, 1) := by decide +kernel
theorem dX9_addTask_59 : decode cX9_addTask 59 = .ok (.isub, 1) := by decide +kernel
theorem dX9_addTask_60 : decode cX9_addTask 60 = .ok (.invokevirtual 69, 3) := by decide +kernel
theorem dX9_addTask_63 : decode cX9_addTask 63 = .ok (.ireturn, 1) := by decide +kernel
theorem dX9_move_0 : decode cX9_move 0 = .ok (.aload_n 0, 1) := by decide +kernel
theorem dX9_move_1 : decode cX9_move 1 = .ok (.iload_n 1, 1) := by decide +kernel
theorem dX9_move_2 : decode cX9_move 2 = .ok (.invokevirtual 82, 3) := by decide +kernel
theorem dX9_move_5 : decode cX9_move 5 = .ok (.ifCond .ne 9, 3) := by decide +kernel
theorem dX9_move_8 : decode cX9_move 8 = .ok (.aload_n 0, 1) := by decide +kernel
theorem dX9_move_9 : decode cX9_move 9 = .ok (.iconst 1, 1) := by decide +kernel
theorem dX9_move_10 : decode cX9_move 10 = .ok (.invokevirtual 63, 3) := by decide +kernel
theorem dX9_move_13 : decode cX9_move 13 = .ok (.ireturn, 1) := by decide +kernel
theorem dX9_move_14 : decode cX9_move 14 = .ok (.iload_n 2, 1) := by decide +kernel
theorem dX9_move_15 : decode cX9_move 15 = .ok (.iload_n 3, 1) := by decide +kernel
theorem dX9_move_16 : decode cX9_move 16 = .ok (.invokestatic 75, 3) := by decide +kernel
theorem dX9_move_19 : decode cX9_move 19 = .ok (.ifCond .ne 9, 3) := by decide +kernel
theorem dX9_move_22 : decode cX9_move 22 = .ok (.aload_n 0, 1) := by decide +kernel
theorem dX9_move_23 : decode cX9_move 23 = .ok (.iconst 2, 1) := by decide +kernel
theorem dX9_move_24 : decode cX9_move 24 = .ok (.invokevirtual 63, 3) := by decide +kernel
theorem dX9_move_27 : decode cX9_move 27 = .ok (.ireturn, 1) := by decide +kernel
theorem dX9_move_28 : decode cX9_move 28 = .ok (.aload_n 0, 1) := by decide +kernel
theorem dX9_move_29 : decode cX9_move 29 = .ok (.invokevirtual 66, 3) := by decide +kernel
theorem dX9_move_32 : decode cX9_move 32 = .ok (.aload_n 0, 1) := by decide +kernel
theorem dX9_move_33 : decode cX9_move 33 = .ok (.iload_n 1, 1) := by decide +kernel
theorem dX9_move_34 : decode cX9_move 34 = .ok (.iconst 1, 1) := by decide +kernel
theorem dX9_move_35 : decode cX9_move 35 = .ok (.invokevirtual 55, 3) := by decide +kernel
theorem dX9_move_38 : decode cX9_move 38 = .ok (.istore 4, 2) := by decide +kernel
theorem dX9_move_40 : decode cX9_move 40 = .ok (.aload_n 0, 1) := by decide +kernel
theorem dX9_move_41 : decode cX9_move 41 = .ok (.getfield 7, 3) := by decide +kernel
theorem dX9_move_44 : decode cX9_move 44 = .ok (.iconst 5, 1) := by decide +kernel
theorem dX9_move_45 : decode cX9_move 45 = .ok (.iconst 3, 1) := by decide +kernel
theorem dX9_move_46 : decode cX9_move 46 = .ok (.iload_n 1, 1) := by decide +kernel
theorem dX9_move_47 : decode cX9_move 47 = .ok (.imul, 1) := by decide +kernel
theorem dX9_move_48 : decode cX9_move 48 = .ok (.iadd, 1) := by decide +kernel
theorem dX9_move_49 : decode cX9_move 49 = .ok (.iconst 1, 1) := by decide +kernel
theorem dX9_move_50 : decode cX9_move 50 = .ok (.iadd, 1) := by decide +kernel
theorem dX9_move_51 : decode cX9_move 51 = .ok (.iload_n 2, 1) := by decide +kernel
theorem dX9_move_52 : decode cX9_move 52 = .ok (.iastore, 1) := by decide +kernel
theorem dX9_move_53 : decode cX9_move 53 = .ok (.aload_n 0, 1) := by decide +kernel
theorem dX9_move_54 : decode cX9_move 54 = .ok (.getfield 7, 3) := by decide +kernel
theorem dX9_move_57 : decode cX9_move 57 = .ok (.iconst 5, 1) := by decide +kernel
theorem dX9_move_58 : decode cX9_move 58 = .ok (.iconst 3, 1) := by decide +kernel
theorem dX9_move_59 : decode cX9_move 59 = .ok (.iload_n 1, 1) := by decide +kernel
theorem dX9_move_60 : decode cX9_move 60 = .ok (.imul, 1) := by decide +kernel
theorem dX9_move_61 : decode cX9_move 61 = .ok (.iadd, 1) := by decide +kernel
theorem dX9_move_62 : decode cX9_move 62 = .ok (.iconst 2, 1) := by decide +kernel
theorem dX9_move_63 : decode cX9_move 63 = .ok (.iadd, 1) := by decide +kernel
theorem dX9_move_64 : decode cX9_move 64 = .ok (.iload_n 3, 1) := by decide +kernel
theorem dX9_move_65 : decode cX9_move 65 = .ok (.iastore, 1) := by decide +kernel
theorem dX9_move_66 : decode cX9_move 66 = .ok (.aload_n 0, 1) := by decide +kernel
theorem dX9_move_67 : decode cX9_move 67 = .ok (.iload 4, 2) := by decide +kernel
theorem dX9_move_69 : decode cX9_move 69 = .ok (.invokevirtual 69, 3) := by decide +kernel
theorem dX9_move_72 : decode cX9_move 72 = .ok (.ireturn, 1) := by decide +kernel
theorem dX9_arrowGoes_0 : decode cX9_arrowGoes 0 = .ok (.aload_n 0, 1) := by decide +kernel
theorem dX9_arrowGoes_1 : decode cX9_arrowGoes 1 = .ok (.getfield 7, 3) := by decide +kernel
theorem dX9_arrowGoes_4 : decode cX9_arrowGoes 4 = .ok (.bipush 77, 2) := by decide +kernel
theorem dX9_arrowGoes_6 : decode cX9_arrowGoes 6 = .ok (.dup2, 1) := by decide +kernel
theorem dX9_arrowGoes_7 : decode cX9_arrowGoes 7 = .ok (.iaload, 1) := by decide +kernel
theorem dX9_arrowGoes_8 : decode cX9_arrowGoes 8 = .ok (.iconst 1, 1) := by decide +kernel
theorem dX9_arrowGoes_9 : decode cX9_arrowGoes 9 = .ok (.isub, 1) := by decide +kernel
theorem dX9_arrowGoes_10 : decode cX9_arrowGoes 10 = .ok (.iastore, 1) := by decide +kernel
theorem dX9_arrowGoes_11 : decode cX9_arrowGoes 11 = .ok (.bipush 78, 2) := by decide +kernel
theorem dX9_arrowGoes_13 : decode cX9_arrowGoes 13 = .ok (.iconst 2, 1) := by decide +kernel
theorem dX9_arrowGoes_14 : decode cX9_arrowGoes 14 = .ok (.iload_n 1, 1) := by decide +kernel
theorem dX9_arrowGoes_15 : decode cX9_arrowGoes 15 = .ok (.imul, 1) := by decide +kernel
theorem dX9_arrowGoes_16 : decode cX9_arrowGoes 16 = .ok (.iadd, 1) := by decide +kernel
theorem dX9_arrowGoes_17 : decode cX9_arrowGoes 17 = .ok (.istore_n 2, 1) := by decide +kernel
theorem dX9_arrowGoes_18 : decode cX9_arrowGoes 18 = .ok (.iload_n 2, 1) := by decide +kernel
theorem dX9_arrowGoes_19 : decode cX9_arrowGoes 19 = .ok (.bipush 78, 2) := by decide +kernel
theorem dX9_arrowGoes_21 : decode cX9_arrowGoes 21 = .ok (.iconst 2, 1) := by decide +kernel
theorem dX9_arrowGoes_22 : decode cX9_arrowGoes 22 = .ok (.aload_n 0, 1) := by decide +kernel
theorem dX9_arrowGoes_23 : decode cX9_arrowGoes 23 = .ok (.getfield 7, 3) := by decide +kernel
theorem dX9_arrowGoes_26 : decode cX9_arrowGoes 26 = .ok (.bipush 77, 2) := by decide +kernel
theorem dX9_arrowGoes_28 : decode cX9_arrowGoes 28 = .ok (.iaload, 1) := by decide +kernel
theorem dX9_arrowGoes_29 : decode cX9_arrowGoes 29 = .ok (.imul, 1) := by decide +kernel
theorem dX9_arrowGoes_30 : decode cX9_arrowGoes 30 = .ok (.iadd, 1) := by decide +kernel
theorem dX9_arrowGoes_31 : decode cX9_arrowGoes 31 = .ok (.if_icmp .ge 23, 3) := by decide +kernel
theorem dX9_arrowGoes_34 : decode cX9_arrowGoes 34 = .ok (.aload_n 0, 1) := by decide +kernel
theorem dX9_arrowGoes_35 : decode cX9_arrowGoes 35 = .ok (.getfield 7, 3) := by decide +kernel
theorem dX9_arrowGoes_38 : decode cX9_arrowGoes 38 = .ok (.iload_n 2, 1) := by decide +kernel
theorem dX9_arrowGoes_39 : decode cX9_arrowGoes 39 = .ok (.aload_n 0, 1) := by decide +kernel
theorem dX9_arrowGoes_40 : decode cX9_arrowGoes 40 = .ok (.getfield 7, 3) := by decide +kernel
theorem dX9_arrowGoes_43 : decode cX9_arrowGoes 43 = .ok (.iload_n 2, 1) := by decide +kernel
theorem dX9_arrowGoes_44 : decode cX9_arrowGoes 44 = .ok (.iconst 2, 1) := by decide +kernel
theorem dX9_arrowGoes_45 : decode cX9_arrowGoes 45 = .ok (.iadd, 1) := by decide +kernel
theorem dX9_arrowGoes_46 : decode cX9_arrowGoes 46 = .ok (.iaload, 1) := by decide +kernel
theorem dX9_arrowGoes_47 : decode cX9_arrowGoes 47 = .ok (.iastore, 1) := by decide +kernel
theorem dX9_arrowGoes_48 : decode cX9_arrowGoes 48 = .ok (.iinc 2 1, 3) := by decide +kernel
theorem dX9_arrowGoes_51 : decode cX9_arrowGoes 51 = .ok (.goto (-33), 3) := by decide +kernel
theorem dX9_arrowGoes_54 : decode cX9_arrowGoes 54 = .ok (.return_, 1) := by decide +kernel
theorem dX9_removeTask_0 : decode cX9_removeTask 0 = .ok (.aload_n 0, 1) := by decide +kernel
theorem dX9_removeTask_1 : decode cX9_removeTask 1 = .ok (.iload_n 1, 1) := by decide +kernel
theorem dX9_removeTask_2 : decode cX9_removeTask 2 = .ok (.invokevirtual 82, 3) := by decide +kernel
theorem dX9_removeTask_5 : decode cX9_removeTask 5 = .ok (.ifCond .ne 9, 3) := by decide +kernel
theorem dX9_removeTask_8 : decode cX9_removeTask 8 = .ok (.aload_n 0, 1) := by decide +kernel
theorem dX9_removeTask_9 : decode cX9_removeTask 9 = .ok (.iconst 1, 1) := by decide +kernel
theorem dX9_removeTask_10 : decode cX9_removeTask 10 = .ok (.invokevirtual 63, 3) := by decide +kernel
theorem dX9_removeTask_13 : decode cX9_removeTask 13 = .ok (.ireturn, 1) := by decide +kernel
theorem dX9_removeTask_14 : decode cX9_removeTask 14 = .ok (.aload_n 0, 1) := by decide +kernel
theorem dX9_removeTask_15 : decode cX9_removeTask 15 = .ok (.invokevirtual 66, 3) := by decide +kernel
theorem dX9_removeTask_18 : decode cX9_removeTask 18 = .ok (.iconst 0, 1) := by decide +kernel
theorem dX9_removeTask_19 : decode cX9_removeTask 19 = .ok (.istore_n 2, 1) := by decide +kernel
theorem dX9_removeTask_20 : decode cX9_removeTask 20 = .ok (.aload_n 0, 1) := by decide +kernel
theorem dX9_removeTask_21 : decode cX9_removeTask 21 = .ok (.getfield 7, 3) := by decide +kernel
theorem dX9_removeTask_24 : decode cX9_removeTask 24 = .ok (.bipush 77, 2) := by decide +kernel
theorem dX9_removeTask_26 : decode cX9_removeTask 26 = .ok (.iaload, 1) := by decide +kernel
theorem dX9_removeTask_27 : decode cX9_removeTask 27 = .ok (.iconst 1, 1) := by decide +kernel
theorem dX9_removeTask_28 : decode cX9_removeTask 28 = .ok (.isub, 1) := by decide +kernel
theorem dX9_removeTask_29 : decode cX9_removeTask 29 = .ok (.istore_n 3, 1) := by decide +kernel
theorem dX9_removeTask_30 : decode cX9_removeTask 30 = .ok (.iload_n 3, 1) := by decide +kernel
theorem dX9_removeTask_31 : decode cX9_removeTask 31 = .ok (.ifCond .lt 37, 3) := by decide +kernel
theorem dX9_removeTask_34 : decode cX9_removeTask 34 = .ok (.aload_n 0, 1) := by decide +kernel
theorem dX9_removeTask_35 : decode cX9_removeTask 35 = .ok (.iload_n 3, 1) := by decide +kernel
theorem dX9_removeTask_36 : decode cX9_removeTask 36 = .ok (.iconst 0, 1) := by decide +kernel
theorem dX9_removeTask_37 : decode cX9_removeTask 37 = .ok (.invokevirtual 86, 3) := by decide +kernel
theorem dX9_removeTask_40 : decode cX9_removeTask 40 = .ok (.iload_n 1, 1) := by decide +kernel
theorem dX9_removeTask_41 : decode cX9_removeTask 41 = .ok (.if_icmp .eq 13, 3) := by decide +kernel
theorem dX9_removeTask_44 : decode cX9_removeTask 44 = .ok (.aload_n 0, 1) := by decide +kernel
theorem dX9_removeTask_45 : decode cX9_removeTask 45 = .ok (.iload_n 3, 1) := by decide +kernel
theorem dX9_removeTask_46 : decode cX9_removeTask 46 = .ok (.iconst 1, 1) := by decide +kernel
theorem dX9_removeTask_47 : decode cX9_removeTask 47 = .ok (.invokevirtual 86, 3) := by decide +kernel
theorem dX9_removeTask_50 : decode cX9_removeTask 50 = .ok (.iload_n 1, 1) := by decide +kernel
theorem dX9_removeTask_51 : decode cX9_removeTask 51 = .ok (.if_icmp .ne 11, 3) := by decide +kernel
theorem dX9_removeTask_54 : decode cX9_removeTask 54 = .ok (.aload_n 0, 1) := by decide +kernel
theorem dX9_removeTask_55 : decode cX9_removeTask 55 = .ok (.iload_n 3, 1) := by decide +kernel
theorem dX9_removeTask_56 : decode cX9_removeTask 56 = .ok (.invokevirtual 89, 3) := by decide +kernel
theorem dX9_removeTask_59 : decode cX9_removeTask 59 = .ok (.iinc 2 1, 3) := by decide +kernel
theorem dX9_removeTask_62 : decode cX9_removeTask 62 = .ok (.iinc 3 (-1), 3) := by decide +kernel
theorem dX9_removeTask_65 : decode cX9_removeTask 65 = .ok (.goto (-35), 3) := by decide +kernel
theorem dX9_removeTask_68 : decode cX9_removeTask 68 = .ok (.bipush 78, 2) := by decide +kernel
theorem dX9_removeTask_70 : decode cX9_removeTask 70 = .ok (.istore_n 3, 1) := by decide +kernel
theorem dX9_removeTask_71 : decode cX9_removeTask 71 = .ok (.iload_n 3, 1) := by decide +kernel
theorem dX9_removeTask_72 : decode cX9_removeTask 72 = .ok (.bipush 78, 2) := by decide +kernel
theorem dX9_removeTask_74 : decode cX9_removeTask 74 = .ok (.iconst 2, 1) := by decide +kernel
theorem dX9_removeTask_75 : decode cX9_removeTask 75 = .ok (.aload_n 0, 1) := by decide +kernel
theorem dX9_removeTask_76 : decode cX9_removeTask 76 = .ok (.getfield 7, 3) := by decide +kernel
theorem dX9_removeTask_79 : decode cX9_removeTask 79 = .ok (.bipush 77, 2) := by decide +kernel
theorem dX9_removeTask_81 : decode cX9_removeTask 81 = .ok (.iaload, 1) := by decide +kernel
theorem dX9_removeTask_82 : decode cX9_removeTask 82 = .ok (.imul, 1) := by decide +kernel
theorem dX9_removeTask_83 : decode cX9_removeTask 83 = .ok (.iadd, 1) := by decide +kernel
theorem dX9_removeTask_84 : decode cX9_removeTask 84 = .ok (.if_icmp .ge 33, 3) := by decide +kernel
theorem dX9_removeTask_87 : decode cX9_removeTask 87 = .ok (.aload_n 0, 1) := by decide +kernel
theorem dX9_removeTask_88 : decode cX9_removeTask 88 = .ok (.getfield 7, 3) := by decide +kernel
theorem dX9_removeTask_91 : decode cX9_removeTask 91 = .ok (.iload_n 3, 1) := by decide +kernel
theorem dX9_removeTask_92 : decode cX9_removeTask 92 = .ok (.dup2, 1) := by decide +kernel
theorem dX9_removeTask_93 : decode cX9_removeTask 93 = .ok (.iaload, 1) := by decide +kernel
theorem dX9_removeTask_94 : decode cX9_removeTask 94 = .ok (.aload_n 0, 1) := by decide +kernel
theorem dX9_removeTask_95 : decode cX9_removeTask 95 = .ok (.getfield 7, 3) := by decide +kernel
theorem dX9_removeTask_98 : decode cX9_removeTask 98 = .ok (.iload_n 3, 1) := by decide +kernel
theorem dX9_removeTask_99 : decode cX9_removeTask 99 = .ok (.iaload, 1) := by decide +kernel
theorem dX9_removeTask_100 : decode cX9_removeTask 100 = .ok (.iload_n 1, 1) := by decide +kernel
theorem dX9_removeTask_101 : decode cX9_removeTask 101 = .ok (.if_icmp .le 7, 3) := by decide +kernel
theorem dX9_removeTask_104 : decode cX9_removeTask 104 = .ok (.iconst 1, 1) := by decide +kernel
theorem dX9_removeTask_105 : decode cX9_removeTask 105 = .ok (.goto 4, 3) := by decide +kernel
theorem dX9_removeTask_108 : decode cX9_removeTask 108 = .ok (.iconst 0, 1) := by decide +kernel
theorem dX9_removeTask_109 : decode cX9_removeTask 109 = .ok (.isub, 1) := by decide +kernel
theorem dX9_removeTask_110 : decode cX9_removeTask 110 = .ok (.iastore, 1) := by decide +kernel
theorem dX9_removeTask_111 : decode cX9_removeTask 111 = .ok (.iinc 3 1, 3) := by decide +kernel
theorem dX9_removeTask_114 : decode cX9_removeTask 114 = .ok (.goto (-43), 3) := by decide +kernel
theorem dX9_removeTask_117 : decode cX9_removeTask 117 = .ok (.aload_n 0, 1) := by decide +kernel
theorem dX9_removeTask_118 : decode cX9_removeTask 118 = .ok (.getfield 7, 3) := by decide +kernel
theorem dX9_removeTask_121 : decode cX9_removeTask 121 = .ok (.iconst 4, 1) := by decide +kernel
theorem dX9_removeTask_122 : decode cX9_removeTask 122 = .ok (.dup2, 1) := by decide +kernel
theorem dX9_removeTask_123 : decode cX9_removeTask 123 = .ok (.iaload, 1) := by decide +kernel
theorem dX9_removeTask_124 : decode cX9_removeTask 124 = .ok (.iconst 1, 1) := by decide +kernel
theorem dX9_removeTask_125 : decode cX9_removeTask 125 = .ok (.isub, 1) := by decide +kernel
theorem dX9_removeTask_126 : decode cX9_removeTask 126 = .ok (.iastore, 1) := by decide +kernel
theorem dX9_removeTask_127 : decode cX9_removeTask 127 = .ok (.iconst 5, 1) := by decide +kernel
theorem dX9_removeTask_128 : decode cX9_removeTask 128 = .ok (.iconst 3, 1) := by decide +kernel
theorem dX9_removeTask_129 : decode cX9_removeTask 129 = .ok (.iload_n 1, 1) := by decide +kernel
theorem dX9_removeTask_130 : decode cX9_removeTask 130 = .ok (.imul, 1) := by decide +kernel
theorem dX9_removeTask_131 : decode cX9_removeTask 131 = .ok (.iadd, 1) := by decide +kernel
theorem dX9_removeTask_132 : decode cX9_removeTask 132 = .ok (.istore_n 3, 1) := by decide +kernel
theorem dX9_removeTask_133 : decode cX9_removeTask 133 = .ok (.iload_n 3, 1) := by decide +kernel
theorem dX9_removeTask_134 : decode cX9_removeTask 134 = .ok (.iconst 5, 1) := by decide +kernel
theorem dX9_removeTask_135 : decode cX9_removeTask 135 = .ok (.iconst 3, 1) := by decide +kernel
theorem dX9_removeTask_136 : decode cX9_removeTask 136 = .ok (.aload_n 0, 1) := by decide +kernel
theorem dX9_removeTask_137 : decode cX9_removeTask 137 = .ok (.getfield 7, 3) := by decide +kernel
theorem dX9_removeTask_140 : decode cX9_removeTask 140 = .ok (.iconst 4, 1) := by decide +kernel
theorem dX9_removeTask_141 : decode cX9_removeTask 141 = .ok (.iaload, 1) := by decide +kernel
theorem dX9_removeTask_142 : decode cX9_removeTask 142 = .ok (.imul, 1) := by decide +kernel
theorem dX9_removeTask_143 : decode cX9_removeTask 143 = .ok (.iadd, 1) := by decide +kernel
theorem dX9_removeTask_144 : decode cX9_removeTask 144 = .ok (.if_icmp .ge 23, 3) := by decide +kernel
theorem dX9_removeTask_147 : decode cX9_removeTask 147 = .ok (.aload_n 0, 1) := by decide +kernel
theorem dX9_removeTask_148 : decode cX9_removeTask 148 = .ok (.getfield 7, 3) := by decide +kernel
theorem dX9_removeTask_151 : decode cX9_removeTask 151 = .ok (.iload_n 3, 1) := by decide +kernel
theorem dX9_removeTask_152 : decode cX9_removeTask 152 = .ok (.aload_n 0, 1) := by decide +kernel
theorem dX9_removeTask_153 : decode cX9_removeTask 153 = .ok (.getfield 7, 3) := by decide +kernel
theorem dX9_removeTask_156 : decode cX9_removeTask 156 = .ok (.iload_n 3, 1) := by decide +kernel
theorem dX9_removeTask_157 : decode cX9_removeTask 157 = .ok (.iconst 3, 1) := by decide +kernel
theorem dX9_removeTask_158 : decode cX9_removeTask 158 = .ok (.iadd, 1) := by decide +kernel
theorem dX9_removeTask_159 : decode cX9_removeTask 159 = .ok (.iaload, 1) := by decide +kernel
theorem dX9_removeTask_160 : decode cX9_removeTask 160 = .ok (.iastore, 1) := by decide +kernel
theorem dX9_removeTask_161 : decode cX9_removeTask 161 = .ok (.iinc 3 1, 3) := by decide +kernel
theorem dX9_removeTask_164 : decode cX9_removeTask 164 = .ok (.goto (-31), 3) := by decide +kernel
theorem dX9_removeTask_167 : decode cX9_removeTask 167 = .ok (.aload_n 0, 1) := by decide +kernel
theorem dX9_removeTask_168 : decode cX9_removeTask 168 = .ok (.iload_n 2, 1) := by decide +kernel
theorem dX9_removeTask_169 : decode cX9_removeTask 169 = .ok (.invokevirtual 69, 3) := by decide +kernel
theorem dX9_removeTask_172 : decode cX9_removeTask 172 = .ok (.ireturn, 1) := by decide +kernel
theorem dX9_hasArrow_0 : decode cX9_hasArrow 0 = .ok (.iconst 0, 1) := by decide +kernel
theorem dX9_hasArrow_1 : decode cX9_hasArrow 1 = .ok (.istore_n 3, 1) := by decide +kernel
theorem dX9_hasArrow_2 : decode cX9_hasArrow 2 = .ok (.iconst 0, 1) := by decide +kernel
theorem dX9_hasArrow_3 : decode cX9_hasArrow 3 = .ok (.istore 4, 2) := by decide +kernel
theorem dX9_hasArrow_5 : decode cX9_hasArrow 5 = .ok (.iload 4, 2) := by decide +kernel
theorem dX9_hasArrow_7 : decode cX9_hasArrow 7 = .ok (.aload_n 0, 1) := by decide +kernel
theorem dX9_hasArrow_8 : decode cX9_hasArrow 8 = .ok (.getfield 7, 3) := by decide +kernel
theorem dX9_hasArrow_11 : decode cX9_hasArrow 11 = .ok (.bipush 77, 2) := by decide +kernel
theorem dX9_hasArrow_13 : decode cX9_hasArrow 13 = .ok (.iaload, 1) := by decide +kernel
theorem dX9_hasArrow_14 : decode cX9_hasArrow 14 = .ok (.if_icmp .ge 41, 3) := by decide +kernel
theorem dX9_hasArrow_17 : decode cX9_hasArrow 17 = .ok (.iload_n 3, 1) := by decide +kernel
theorem dX9_hasArrow_18 : decode cX9_hasArrow 18 = .ok (.ifCond .ne 25, 3) := by decide +kernel
theorem dX9_hasArrow_21 : decode cX9_hasArrow 21 = .ok (.aload_n 0, 1) := by decide +kernel
theorem dX9_hasArrow_22 : decode cX9_hasArrow 22 = .ok (.iload 4, 2) := by decide +kernel
theorem dX9_hasArrow_24 : decode cX9_hasArrow 24 = .ok (.iconst 0, 1) := by decide +kernel
theorem dX9_hasArrow_25 : decode cX9_hasArrow 25 = .ok (.invokevirtual 86, 3) := by decide +kernel
theorem dX9_hasArrow_28 : decode cX9_hasArrow 28 = .ok (.iload_n 1, 1) := by decide +kernel
theorem dX9_hasArrow_29 : decode cX9_hasArrow 29 = .ok (.if_icmp .ne 18, 3) := by decide +kernel
theorem dX9_hasArrow_32 : decode cX9_hasArrow 32 = .ok (.aload_n 0, 1) := by decide +kernel
theorem dX9_hasArrow_33 : decode cX9_hasArrow 33 = .ok (.iload 4, 2) := by decide +kernel
theorem dX9_hasArrow_35 : decode cX9_hasArrow 35 = .ok (.iconst 1, 1) := by decide +kernel
theorem dX9_hasArrow_36 : decode cX9_hasArrow 36 = .ok (.invokevirtual 86, 3) := by decide +kernel
theorem dX9_hasArrow_39 : decode cX9_hasArrow 39 = .ok (.iload_n 2, 1) := by decide +kernel
theorem dX9_hasArrow_40 : decode cX9_hasArrow 40 = .ok (.if_icmp .ne 7, 3) := by decide +kernel
theorem dX9_hasArrow_43 : decode cX9_hasArrow 43 = .ok (.iconst 1, 1) := by decide +kernel
theorem dX9_hasArrow_44 : decode cX9_hasArrow 44 = .ok (.goto 4, 3) := by decide +kernel
theorem dX9_hasArrow_47 : decode cX9_hasArrow 47 = .ok (.iconst 0, 1) := by decide +kernel
theorem dX9_hasArrow_48 : decode cX9_hasArrow 48 = .ok (.istore_n 3, 1) := by decide +kernel
theorem dX9_hasArrow_49 : decode cX9_hasArrow 49 = .ok (.iinc 4 1, 3) := by decide +kernel
theorem dX9_hasArrow_52 : decode cX9_hasArrow 52 = .ok (.goto (-47), 3) := by decide +kernel
theorem dX9_hasArrow_55 : decode cX9_hasArrow 55 = .ok (.iload_n 3, 1) := by decide +kernel
theorem dX9_hasArrow_56 : decode cX9_hasArrow 56 = .ok (.ireturn, 1) := by decide +kernel
theorem dX9_arrowComes_0 : decode cX9_arrowComes 0 = .ok (.aload_n 0, 1) := by decide +kernel
theorem dX9_arrowComes_1 : decode cX9_arrowComes 1 = .ok (.getfield 7, 3) := by decide +kernel
theorem dX9_arrowComes_4 : decode cX9_arrowComes 4 = .ok (.bipush 78, 2) := by decide +kernel
theorem dX9_arrowComes_6 : decode cX9_arrowComes 6 = .ok (.iconst 2, 1) := by decide +kernel
theorem dX9_arrowComes_7 : decode cX9_arrowComes 7 = .ok (.aload_n 0, 1) := by decide +kernel
theorem dX9_arrowComes_8 : decode cX9_arrowComes 8 = .ok (.getfield 7, 3) := by decide +kernel
theorem dX9_arrowComes_11 : decode cX9_arrowComes 11 = .ok (.bipush 77, 2) := by decide +kernel
theorem dX9_arrowComes_13 : decode cX9_arrowComes 13 = .ok (.iaload, 1) := by decide +kernel
theorem dX9_arrowComes_14 : decode cX9_arrowComes 14 = .ok (.imul, 1) := by decide +kernel
theorem dX9_arrowComes_15 : decode cX9_arrowComes 15 = .ok (.iadd, 1) := by decide +kernel
theorem dX9_arrowComes_16 : decode cX9_arrowComes 16 = .ok (.iload_n 1, 1) := by decide +kernel
theorem dX9_arrowComes_17 : decode cX9_arrowComes 17 = .ok (.iastore, 1) := by decide +kernel
theorem dX9_arrowComes_18 : decode cX9_arrowComes 18 = .ok (.aload_n 0, 1) := by decide +kernel
theorem dX9_arrowComes_19 : decode cX9_arrowComes 19 = .ok (.getfield 7, 3) := by decide +kernel
theorem dX9_arrowComes_22 : decode cX9_arrowComes 22 = .ok (.bipush 78, 2) := by decide +kernel
theorem dX9_arrowComes_24 : decode cX9_arrowComes 24 = .ok (.iconst 2, 1) := by decide +kernel
theorem dX9_arrowComes_25 : decode cX9_arrowComes 25 = .ok (.aload_n 0, 1) := by decide +kernel
theorem dX9_arrowComes_26 : decode cX9_arrowComes 26 = .ok (.getfield 7, 3) := by decide +kernel
theorem dX9_arrowComes_29 : decode cX9_arrowComes 29 = .ok (.bipush 77, 2) := by decide +kernel
theorem dX9_arrowComes_31 : decode cX9_arrowComes 31 = .ok (.iaload, 1) := by decide +kernel
theorem dX9_arrowComes_32 : decode cX9_arrowComes 32 = .ok (.imul, 1) := by decide +kernel
theorem dX9_arrowComes_33 : decode cX9_arrowComes 33 = .ok (.iadd, 1) := by decide +kernel
theorem dX9_arrowComes_34 : decode cX9_arrowComes 34 = .ok (.iconst 1, 1) := by decide +kernel
theorem dX9_arrowComes_35 : decode cX9_arrowComes 35 = .ok (.iadd, 1) := by decide +kernel
theorem dX9_arrowComes_36 : decode cX9_arrowComes 36 = .ok (.iload_n 2, 1) := by decide +kernel
theorem dX9_arrowComes_37 : decode cX9_arrowComes 37 = .ok (.iastore, 1) := by decide +kernel
theorem dX9_arrowComes_38 : decode cX9_arrowComes 38 = .ok (.aload_n 0, 1) := by decide +kernel
theorem dX9_arrowComes_39 : decode cX9_arrowComes 39 = .ok (.getfield 7, 3) := by decide +kernel
theorem dX9_arrowComes_42 : decode cX9_arrowComes 42 = .ok (.bipush 77, 2) := by decide +kernel
theorem dX9_arrowComes_44 : decode cX9_arrowComes 44 = .ok (.dup2, 1) := by decide +kernel
theorem dX9_arrowComes_45 : decode cX9_arrowComes 45 = .ok (.iaload, 1) := by decide +kernel
theorem dX9_arrowComes_46 : decode cX9_arrowComes 46 = .ok (.iconst 1, 1) := by decide +kernel
theorem dX9_arrowComes_47 : decode cX9_arrowComes 47 = .ok (.iadd, 1) := by decide +kernel
theorem dX9_arrowComes_48 : decode cX9_arrowComes 48 = .ok (.iastore, 1) := by decide +kernel
theorem dX9_arrowComes_49 : decode cX9_arrowComes 49 = .ok (.return_, 1) := by decide +kernel
theorem dX9_addArrow_0 : decode cX9_addArrow 0 = .ok (.aload_n 0, 1) := by decide +kernel
theorem dX9_addArrow_1 : decode cX9_addArrow 1 = .ok (.iload_n 1, 1) := by decide +kernel
theorem dX9_addArrow_2 : decode cX9_addArrow 2 = .ok (.invokevirtual 82, 3) := by decide +kernel
theorem dX9_addArrow_5 : decode cX9_addArrow 5 = .ok (.ifCond .eq 11, 3) := by decide +kernel
theorem dX9_addArrow_8 : decode cX9_addArrow 8 = .ok (.aload_n 0, 1) := by decide +kernel
theorem dX9_addArrow_9 : decode cX9_addArrow 9 = .ok (.iload_n 2, 1) := by decide +kernel
theorem dX9_addArrow_10 : decode cX9_addArrow 10 = .ok (.invokevirtual 82, 3) := by decide +kernel
theorem dX9_addArrow_13 : decode cX9_addArrow 13 = .ok (.ifCond .ne 9, 3) := by decide +kernel
theorem dX9_addArrow_16 : decode cX9_addArrow 16 = .ok (.aload_n 0, 1) := by decide +kernel
theorem dX9_addArrow_17 : decode cX9_addArrow 17 = .ok (.iconst 1, 1) := by decide +kernel
theorem dX9_addArrow_18 : decode cX9_addArrow 18 = .ok (.invokevirtual 63, 3) := by decide +kernel
theorem dX9_addArrow_21 : decode cX9_addArrow 21 = .ok (.ireturn, 1) := by decide +kernel
theorem dX9_addArrow_22 : decode cX9_addArrow 22 = .ok (.iload_n 1, 1) := by decide +kernel
theorem dX9_addArrow_23 : decode cX9_addArrow 23 = .ok (.iload_n 2, 1) := by decide +kernel
theorem dX9_addArrow_24 : decode cX9_addArrow 24 = .ok (.if_icmp .ne 9, 3) := by decide +kernel
theorem dX9_addArrow_27 : decode cX9_addArrow 27 = .ok (.aload_n 0, 1) := by decide +kernel
theorem dX9_addArrow_28 : decode cX9_addArrow 28 = .ok (.iconst 2, 1) := by decide +kernel
theorem dX9_addArrow_29 : decode cX9_addArrow 29 = .ok (.invokevirtual 63, 3) := by decide +kernel
theorem dX9_addArrow_32 : decode cX9_addArrow 32 = .ok (.ireturn, 1) := by decide +kernel
theorem dX9_addArrow_33 : decode cX9_addArrow 33 = .ok (.aload_n 0, 1) := by decide +kernel
theorem dX9_addArrow_34 : decode cX9_addArrow 34 = .ok (.iload_n 1, 1) := by decide +kernel
theorem dX9_addArrow_35 : decode cX9_addArrow 35 = .ok (.iload_n 2, 1) := by decide +kernel
theorem dX9_addArrow_36 : decode cX9_addArrow 36 = .ok (.invokevirtual 93, 3) := by decide +kernel
theorem dX9_addArrow_39 : decode cX9_addArrow 39 = .ok (.ifCond .ne 15, 3) := by decide +kernel
theorem dX9_addArrow_42 : decode cX9_addArrow 42 = .ok (.aload_n 0, 1) := by decide +kernel
theorem dX9_addArrow_43 : decode cX9_addArrow 43 = .ok (.getfield 7, 3) := by decide +kernel
theorem dX9_addArrow_46 : decode cX9_addArrow 46 = .ok (.bipush 77, 2) := by decide +kernel
theorem dX9_addArrow_48 : decode cX9_addArrow 48 = .ok (.iaload, 1) := by decide +kernel
theorem dX9_addArrow_49 : decode cX9_addArrow 49 = .ok (.bipush 30, 2) := by decide +kernel
theorem dX9_addArrow_51 : decode cX9_addArrow 51 = .ok (.if_icmp .ne 9, 3) := by decide +kernel
theorem dX9_addArrow_54 : decode cX9_addArrow 54 = .ok (.aload_n 0, 1) := by decide +kernel
theorem dX9_addArrow_55 : decode cX9_addArrow 55 = .ok (.iconst 3, 1) := by decide +kernel
theorem dX9_addArrow_56 : decode cX9_addArrow 56 = .ok (.invokevirtual 63, 3) := by decide +kernel
theorem dX9_addArrow_59 : decode cX9_addArrow 59 = .ok (.ireturn, 1) := by decide +kernel
theorem dX9_addArrow_60 : decode cX9_addArrow 60 = .ok (.aload_n 0, 1) := by decide +kernel
theorem dX9_addArrow_61 : decode cX9_addArrow 61 = .ok (.invokevirtual 66, 3) := by decide +kernel
theorem dX9_addArrow_64 : decode cX9_addArrow 64 = .ok (.aload_n 0, 1) := by decide +kernel
theorem dX9_addArrow_65 : decode cX9_addArrow 65 = .ok (.iload_n 1, 1) := by decide +kernel
theorem dX9_addArrow_66 : decode cX9_addArrow 66 = .ok (.iload_n 2, 1) := by decide +kernel
theorem dX9_addArrow_67 : decode cX9_addArrow 67 = .ok (.invokevirtual 96, 3) := by decide +kernel
theorem dX9_addArrow_70 : decode cX9_addArrow 70 = .ok (.aload_n 0, 1) := by decide +kernel
theorem dX9_addArrow_71 : decode cX9_addArrow 71 = .ok (.aload_n 0, 1) := by decide +kernel
theorem dX9_addArrow_72 : decode cX9_addArrow 72 = .ok (.getfield 7, 3) := by decide +kernel
theorem dX9_addArrow_75 : decode cX9_addArrow 75 = .ok (.bipush 77, 2) := by decide +kernel
theorem dX9_addArrow_77 : decode cX9_addArrow 77 = .ok (.iaload, 1) := by decide +kernel
theorem dX9_addArrow_78 : decode cX9_addArrow 78 = .ok (.iconst 1, 1) := by decide +kernel
theorem dX9_addArrow_79 : decode cX9_addArrow 79 = .ok (.isub, 1) := by decide +kernel
theorem dX9_addArrow_80 : decode cX9_addArrow 80 = .ok (.invokevirtual 69, 3) := by decide +kernel
theorem dX9_addArrow_83 : decode cX9_addArrow 83 = .ok (.ireturn, 1) := by decide +kernel
theorem dX9_removeArrow_0 : decode cX9_removeArrow 0 = .ok (.aload_n 0, 1) := by decide +kernel
theorem dX9_removeArrow_1 : decode cX9_removeArrow 1 = .ok (.iload_n 1, 1) := by decide +kernel
theorem dX9_removeArrow_2 : decode cX9_removeArrow 2 = .ok (.invokevirtual 100, 3) := by decide +kernel
theorem dX9_removeArrow_5 : decode cX9_removeArrow 5 = .ok (.ifCond .ne 9, 3) := by decide +kernel
theorem dX9_removeArrow_8 : decode cX9_removeArrow 8 = .ok (.aload_n 0, 1) := by decide +kernel
theorem dX9_removeArrow_9 : decode cX9_removeArrow 9 = .ok (.iconst 1, 1) := by decide +kernel
theorem dX9_removeArrow_10 : decode cX9_removeArrow 10 = .ok (.invokevirtual 63, 3) := by decide +kernel
theorem dX9_removeArrow_13 : decode cX9_removeArrow 13 = .ok (.ireturn, 1) := by decide +kernel
theorem dX9_removeArrow_14 : decode cX9_removeArrow 14 = .ok (.aload_n 0, 1) := by decide +kernel
theorem dX9_removeArrow_15 : decode cX9_removeArrow 15 = .ok (.invokevirtual 66, 3) := by decide +kernel
theorem dX9_removeArrow_18 : decode cX9_removeArrow 18 = .ok (.aload_n 0, 1) := by decide +kernel
theorem dX9_removeArrow_19 : decode cX9_removeArrow 19 = .ok (.iload_n 1, 1) := by decide +kernel
theorem dX9_removeArrow_20 : decode cX9_removeArrow 20 = .ok (.invokevirtual 89, 3) := by decide +kernel
theorem dX9_removeArrow_23 : decode cX9_removeArrow 23 = .ok (.aload_n 0, 1) := by decide +kernel
theorem dX9_removeArrow_24 : decode cX9_removeArrow 24 = .ok (.aload_n 0, 1) := by decide +kernel
theorem dX9_removeArrow_25 : decode cX9_removeArrow 25 = .ok (.getfield 7, 3) := by decide +kernel
theorem dX9_removeArrow_28 : decode cX9_removeArrow 28 = .ok (.bipush 77, 2) := by decide +kernel
theorem dX9_removeArrow_30 : decode cX9_removeArrow 30 = .ok (.iaload, 1) := by decide +kernel
theorem dX9_removeArrow_31 : decode cX9_removeArrow 31 = .ok (.invokevirtual 69, 3) := by decide +kernel
theorem dX9_removeArrow_34 : decode cX9_removeArrow 34 = .ok (.ireturn, 1) := by decide +kernel
theorem dX9_newBand_0 : decode cX9_newBand 0 = .ok (.iconst 0, 1) := by decide +kernel
theorem dX9_newBand_1 : decode cX9_newBand 1 = .ok (.istore_n 1, 1) := by decide +kernel
theorem dX9_newBand_2 : decode cX9_newBand 2 = .ok (.iload_n 1, 1) := by decide +kernel
theorem dX9_newBand_3 : decode cX9_newBand 3 = .ok (.bipush 20, 2) := by decide +kernel
theorem dX9_newBand_5 : decode cX9_newBand 5 = .ok (.if_icmp .ge 24, 3) := by decide +kernel
theorem dX9_newBand_8 : decode cX9_newBand 8 = .ok (.aload_n 0, 1) := by decide +kernel
theorem dX9_newBand_9 : decode cX9_newBand 9 = .ok (.getfield 22, 3) := by decide +kernel
theorem dX9_newBand_12 : decode cX9_newBand 12 = .ok (.bipush 20, 2) := by decide +kernel
theorem dX9_newBand_14 : decode cX9_newBand 14 = .ok (.aload_n 0, 1) := by decide +kernel
theorem dX9_newBand_15 : decode cX9_newBand 15 = .ok (.getfield 103, 3) := by decide +kernel
theorem dX9_newBand_18 : decode cX9_newBand 18 = .ok (.imul, 1) := by decide +kernel
theorem dX9_newBand_19 : decode cX9_newBand 19 = .ok (.iload_n 1, 1) := by decide +kernel
theorem dX9_newBand_20 : decode cX9_newBand 20 = .ok (.iadd, 1) := by decide +kernel
theorem dX9_newBand_21 : decode cX9_newBand 21 = .ok (.iconst (-1), 1) := by decide +kernel
theorem dX9_newBand_22 : decode cX9_newBand 22 = .ok (.iastore, 1) := by decide +kernel
theorem dX9_newBand_23 : decode cX9_newBand 23 = .ok (.iinc 1 1, 3) := by decide +kernel
theorem dX9_newBand_26 : decode cX9_newBand 26 = .ok (.goto (-24), 3) := by decide +kernel
theorem dX9_newBand_29 : decode cX9_newBand 29 = .ok (.aload_n 0, 1) := by decide +kernel
theorem dX9_newBand_30 : decode cX9_newBand 30 = .ok (.dup, 1) := by decide +kernel
theorem dX9_newBand_31 : decode cX9_newBand 31 = .ok (.getfield 103, 3) := by decide +kernel
theorem dX9_newBand_34 : decode cX9_newBand 34 = .ok (.iconst 1, 1) := by decide +kernel
theorem dX9_newBand_35 : decode cX9_newBand 35 = .ok (.iadd, 1) := by decide +kernel
theorem dX9_newBand_36 : decode cX9_newBand 36 = .ok (.putfield 103, 3) := by decide +kernel
theorem dX9_newBand_39 : decode cX9_newBand 39 = .ok (.aload_n 0, 1) := by decide +kernel
theorem dX9_newBand_40 : decode cX9_newBand 40 = .ok (.iconst 0, 1) := by decide +kernel
theorem dX9_newBand_41 : decode cX9_newBand 41 = .ok (.putfield 106, 3) := by decide +kernel
theorem dX9_newBand_44 : decode cX9_newBand 44 = .ok (.return_, 1) := by decide +kernel
theorem dX9_takesRow_0 : decode cX9_takesRow 0 = .ok (.aload_n 0, 1) := by decide +kernel
theorem dX9_takesRow_1 : decode cX9_takesRow 1 = .ok (.getfield 22, 3) := by decide +kernel
theorem dX9_takesRow_4 : decode cX9_takesRow 4 = .ok (.bipush 20, 2) := by decide +kernel
theorem dX9_takesRow_6 : decode cX9_takesRow 6 = .ok (.aload_n 0, 1) := by decide +kernel
theorem dX9_takesRow_7 : decode cX9_takesRow 7 = .ok (.getfield 103, 3) := by decide +kernel
theorem dX9_takesRow_10 : decode cX9_takesRow 10 = .ok (.iconst 1, 1) := by decide +kernel
theorem dX9_takesRow_11 : decode cX9_takesRow 11 = .ok (.isub, 1) := by decide +kernel
theorem dX9_takesRow_12 : decode cX9_takesRow 12 = .ok (.imul, 1) := by decide +kernel
theorem dX9_takesRow_13 : decode cX9_takesRow 13 = .ok (.aload_n 0, 1) := by decide +kernel
theorem dX9_takesRow_14 : decode cX9_takesRow 14 = .ok (.getfield 106, 3) := by decide +kernel
theorem dX9_takesRow_17 : decode cX9_takesRow 17 = .ok (.iadd, 1) := by decide +kernel
theorem dX9_takesRow_18 : decode cX9_takesRow 18 = .ok (.iload_n 1, 1) := by decide +kernel
theorem dX9_takesRow_19 : decode cX9_takesRow 19 = .ok (.iastore, 1) := by decide +kernel
theorem dX9_takesRow_20 : decode cX9_takesRow 20 = .ok (.aload_n 0, 1) := by decide +kernel
theorem dX9_takesRow_21 : decode cX9_takesRow 21 = .ok (.dup, 1) := by decide +kernel
theorem dX9_takesRow_22 : decode cX9_takesRow 22 = .ok (.getfield 106, 3) := by decide +kernel
theorem dX9_takesRow_25 : decode cX9_takesRow 25 = .ok (.iconst 1, 1) := by decide +kernel
theorem dX9_takesRow_26 : decode cX9_takesRow 26 = .ok (.iadd, 1) := by decide +kernel
theorem dX9_takesRow_27 : decode cX9_takesRow 27 = .ok (.putfield 106, 3) := by decide +kernel
theorem dX9_takesRow_30 : decode cX9_takesRow 30 = .ok (.return_, 1) := by decide +kernel
theorem dX9_sizeOf_0 : decode cX9_sizeOf 0 = .ok (.iconst 0, 1) := by decide +kernel
theorem dX9_sizeOf_1 : decode cX9_sizeOf 1 = .ok (.istore_n 2, 1) := by decide +kernel
theorem dX9_sizeOf_2 : decode cX9_sizeOf 2 = .ok (.iconst 0, 1) := by decide +kernel
theorem dX9_sizeOf_3 : decode cX9_sizeOf 3 = .ok (.istore_n 3, 1) := by decide +kernel
theorem dX9_sizeOf_4 : decode cX9_sizeOf 4 = .ok (.iload_n 3, 1) := by decide +kernel
theorem dX9_sizeOf_5 : decode cX9_sizeOf 5 = .ok (.aload_n 0, 1) := by decide +kernel
theorem dX9_sizeOf_6 : decode cX9_sizeOf 6 = .ok (.getfield 7, 3) := by decide +kernel
theorem dX9_sizeOf_9 : decode cX9_sizeOf 9 = .ok (.iconst 4, 1) := by decide +kernel
theorem dX9_sizeOf_10 : decode cX9_sizeOf 10 = .ok (.iaload, 1) := by decide +kernel
theorem dX9_sizeOf_11 : decode cX9_sizeOf 11 = .ok (.if_icmp .ge 27, 3) := by decide +kernel
theorem dX9_sizeOf_14 : decode cX9_sizeOf 14 = .ok (.iload_n 2, 1) := by decide +kernel
theorem dX9_sizeOf_15 : decode cX9_sizeOf 15 = .ok (.aload_n 0, 1) := by decide +kernel
theorem dX9_sizeOf_16 : decode cX9_sizeOf 16 = .ok (.iload_n 3, 1) := by decide +kernel
theorem dX9_sizeOf_17 : decode cX9_sizeOf 17 = .ok (.iconst 0, 1) := by decide +kernel
theorem dX9_sizeOf_18 : decode cX9_sizeOf 18 = .ok (.invokevirtual 55, 3) := by decide +kernel
theorem dX9_sizeOf_21 : decode cX9_sizeOf 21 = .ok (.iload_n 1, 1) := by decide +kernel
theorem dX9_sizeOf_22 : decode cX9_sizeOf 22 = .ok (.if_icmp .ne 7, 3) := by decide +kernel
theorem dX9_sizeOf_25 : decode cX9_sizeOf 25 = .ok (.iconst 1, 1) := by decide +kernel
theorem dX9_sizeOf_26 : decode cX9_sizeOf 26 = .ok (.goto 4, 3) := by decide +kernel
theorem dX9_sizeOf_29 : decode cX9_sizeOf 29 = .ok (.iconst 0, 1) := by decide +kernel
theorem dX9_sizeOf_30 : decode cX9_sizeOf 30 = .ok (.iadd, 1) := by decide +kernel
theorem dX9_sizeOf_31 : decode cX9_sizeOf 31 = .ok (.istore_n 2, 1) := by decide +kernel
theorem dX9_sizeOf_32 : decode cX9_sizeOf 32 = .ok (.iinc 3 1, 3) := by decide +kernel
theorem dX9_sizeOf_35 : decode cX9_sizeOf 35 = .ok (.goto (-31), 3) := by decide +kernel
theorem dX9_sizeOf_38 : decode cX9_sizeOf 38 = .ok (.iload_n 2, 1) := by decide +kernel
theorem dX9_sizeOf_39 : decode cX9_sizeOf 39 = .ok (.ireturn, 1) := by decide +kernel
theorem dX9_next_0 : decode cX9_next 0 = .ok (.iconst (-1), 1) := by decide +kernel
theorem dX9_next_1 : decode cX9_next 1 = .ok (.istore_n 3, 1) := by decide +kernel
theorem dX9_next_2 : decode cX9_next 2 = .ok (.iconst 0, 1) := by decide +kernel
theorem dX9_next_3 : decode cX9_next 3 = .ok (.istore 4, 2) := by decide +kernel
theorem dX9_next_5 : decode cX9_next 5 = .ok (.iload 4, 2) := by decide +kernel
theorem dX9_next_7 : decode cX9_next 7 = .ok (.aload_n 0, 1) := by decide +kernel
theorem dX9_next_8 : decode cX9_next 8 = .ok (.getfield 7, 3) := by decide +kernel
theorem dX9_next_11 : decode cX9_next 11 = .ok (.iconst 4, 1) := by decide +kernel
theorem dX9_next_12 : decode cX9_next 12 = .ok (.iaload, 1) := by decide +kernel
theorem dX9_next_13 : decode cX9_next 13 = .ok (.if_icmp .ge 99, 3) := by decide +kernel
theorem dX9_next_16 : decode cX9_next 16 = .ok (.iload_n 2, 1) := by decide +kernel
theorem dX9_next_17 : decode cX9_next 17 = .ok (.iconst (-1), 1) := by decide +kernel
theorem dX9_next_18 : decode cX9_next 18 = .ok (.if_icmp .eq 41, 3) := by decide +kernel
theorem dX9_next_21 : decode cX9_next 21 = .ok (.aload_n 0, 1) := by decide +kernel
theorem dX9_next_22 : decode cX9_next 22 = .ok (.iload 4, 2) := by decide +kernel
theorem dX9_next_24 : decode cX9_next 24 = .ok (.iconst 1, 1) := by decide +kernel
theorem dX9_next_25 : decode cX9_next 25 = .ok (.invokevirtual 55, 3) := by decide +kernel
theorem dX9_next_28 : decode cX9_next 28 = .ok (.aload_n 0, 1) := by decide +kernel
theorem dX9_next_29 : decode cX9_next 29 = .ok (.iload_n 2, 1) := by decide +kernel
theorem dX9_next_30 : decode cX9_next 30 = .ok (.iconst 1, 1) := by decide +kernel
theorem dX9_next_31 : decode cX9_next 31 = .ok (.invokevirtual 55, 3) := by decide +kernel
theorem dX9_next_34 : decode cX9_next 34 = .ok (.if_icmp .gt 25, 3) := by decide +kernel
theorem dX9_next_37 : decode cX9_next 37 = .ok (.aload_n 0, 1) := by decide +kernel
theorem dX9_next_38 : decode cX9_next 38 = .ok (.iload 4, 2) := by decide +kernel
theorem dX9_next_40 : decode cX9_next 40 = .ok (.iconst 1, 1) := by decide +kernel
theorem dX9_next_41 : decode cX9_next 41 = .ok (.invokevirtual 55, 3) := by decide +kernel
theorem dX9_next_44 : decode cX9_next 44 = .ok (.aload_n 0, 1) := by decide +kernel
theorem dX9_next_45 : decode cX9_next 45 = .ok (.iload_n 2, 1) := by decide +kernel
theorem dX9_next_46 : decode cX9_next 46 = .ok (.iconst 1, 1) := by decide +kernel
theorem dX9_next_47 : decode cX9_next 47 = .ok (.invokevirtual 55, 3) := by decide +kernel
theorem dX9_next_50 : decode cX9_next 50 = .ok (.if_icmp .ne 13, 3) := by decide +kernel
theorem dX9_next_53 : decode cX9_next 53 = .ok (.iload 4, 2) := by decide +kernel
theorem dX9_next_55 : decode cX9_next 55 = .ok (.iload_n 2, 1) := by decide +kernel
theorem dX9_next_56 : decode cX9_next 56 = .ok (.if_icmp .le 7, 3) := by decide +kernel
theorem dX9_next_59 : decode cX9_next 59 = .ok (.iconst 1, 1) := by decide +kernel
theorem dX9_next_60 : decode cX9_next 60 = .ok (.goto 4, 3) := by decide +kernel
theorem dX9_next_63 : decode cX9_next 63 = .ok (.iconst 0, 1) := by decide +kernel
theorem dX9_next_64 : decode cX9_next 64 = .ok (.istore 5, 2) := by decide +kernel
theorem dX9_next_66 : decode cX9_next 66 = .ok (.aload_n 0, 1) := by decide +kernel
theorem dX9_next_67 : decode cX9_next 67 = .ok (.iload 4, 2) := by decide +kernel
theorem dX9_next_69 : decode cX9_next 69 = .ok (.iconst 0, 1) := by decide +kernel
theorem dX9_next_70 : decode cX9_next 70 = .ok (.invokevirtual 55, 3) := by decide +kernel
theorem dX9_next_73 : decode cX9_next 73 = .ok (.iload_n 1, 1) := by decide +kernel
theorem dX9_next_74 : decode cX9_next 74 = .ok (.if_icmp .ne 32, 3) := by decide +kernel
theorem dX9_next_77 : decode cX9_next 77 = .ok (.iload 5, 2) := by decide +kernel
theorem dX9_next_79 : decode cX9_next 79 = .ok (.ifCond .eq 27, 3) := by decide +kernel
theorem dX9_next_82 : decode cX9_next 82 = .ok (.iload_n 3, 1) := by decide +kernel
theorem dX9_next_83 : decode cX9_next 83 = .ok (.iconst (-1), 1) := by decide +kernel
theorem dX9_next_84 : decode cX9_next 84 = .ok (.if_icmp .eq 19, 3) := by decide +kernel
theorem dX9_next_87 : decode cX9_next 87 = .ok (.aload_n 0, 1) := by decide +kernel
theorem dX9_next_88 : decode cX9_next 88 = .ok (.iload 4, 2) := by decide +kernel
theorem dX9_next_90 : decode cX9_next 90 = .ok (.iconst 1, 1) := by decide +kernel
theorem dX9_next_91 : decode cX9_next 91 = .ok (.invokevirtual 55, 3) := by decide +kernel
theorem dX9_next_94 : decode cX9_next 94 = .ok (.aload_n 0, 1) := by decide +kernel
theorem dX9_next_95 : decode cX9_next 95 = .ok (.iload_n 3, 1) := by decide +kernel
theorem dX9_next_96 : decode cX9_next 96 = .ok (.iconst 1, 1) := by decide +kernel
theorem dX9_next_97 : decode cX9_next 97 = .ok (.invokevirtual 55, 3) := by decide +kernel
theorem dX9_next_100 : decode cX9_next 100 = .ok (.if_icmp .ge 6, 3) := by decide +kernel
theorem dX9_next_103 : decode cX9_next 103 = .ok (.iload 4, 2) := by decide +kernel
theorem dX9_next_105 : decode cX9_next 105 = .ok (.istore_n 3, 1) := by decide +kernel
theorem dX9_next_106 : decode cX9_next 106 = .ok (.iinc 4 1, 3) := by decide +kernel
theorem dX9_next_109 : decode cX9_next 109 = .ok (.goto (-104), 3) := by decide +kernel
theorem dX9_next_112 : decode cX9_next 112 = .ok (.iload_n 3, 1) := by decide +kernel
theorem dX9_next_113 : decode cX9_next 113 = .ok (.ireturn, 1) := by decide +kernel
theorem dX9_begins_0 : decode cX9_begins 0 = .ok (.aload_n 0, 1) := by decide +kernel
theorem dX9_begins_1 : decode cX9_begins 1 = .ok (.iload_n 1, 1) := by decide +kernel
theorem dX9_begins_2 : decode cX9_begins 2 = .ok (.invokevirtual 109, 3) := by decide +kernel
theorem dX9_begins_5 : decode cX9_begins 5 = .ok (.iconst 1, 1) := by decide +kernel
theorem dX9_begins_6 : decode cX9_begins 6 = .ok (.iadd, 1) := by decide +kernel
theorem dX9_begins_7 : decode cX9_begins 7 = .ok (.istore_n 3, 1) := by decide +kernel
theorem dX9_begins_8 : decode cX9_begins 8 = .ok (.aload_n 0, 1) := by decide +kernel
theorem dX9_begins_9 : decode cX9_begins 9 = .ok (.getfield 103, 3) := by decide +kernel
theorem dX9_begins_12 : decode cX9_begins 12 = .ok (.ifCond .ne 7, 3) := by decide +kernel
theorem dX9_begins_15 : decode cX9_begins 15 = .ok (.iconst 0, 1) := by decide +kernel
theorem dX9_begins_16 : decode cX9_begins 16 = .ok (.goto 9, 3) := by decide +kernel
theorem dX9_begins_19 : decode cX9_begins 19 = .ok (.iload_n 2, 1) := by decide +kernel
theorem dX9_begins_20 : decode cX9_begins 20 = .ok (.aload_n 0, 1) := by decide +kernel
theorem dX9_begins_21 : decode cX9_begins 21 = .ok (.getfield 106, 3) := by decide +kernel
theorem dX9_begins_24 : decode cX9_begins 24 = .ok (.isub, 1) := by decide +kernel
theorem dX9_begins_25 : decode cX9_begins 25 = .ok (.istore 4, 2) := by decide +kernel
theorem dX9_begins_27 : decode cX9_begins 27 = .ok (.aload_n 0, 1) := by decide +kernel
theorem dX9_begins_28 : decode cX9_begins 28 = .ok (.getfield 7, 3) := by decide +kernel
theorem dX9_begins_31 : decode cX9_begins 31 = .ok (.iconst 2, 1) := by decide +kernel
theorem dX9_begins_32 : decode cX9_begins 32 = .ok (.iaload, 1) := by decide +kernel
theorem dX9_begins_33 : decode cX9_begins 33 = .ok (.iconst 1, 1) := by decide +kernel
theorem dX9_begins_34 : decode cX9_begins 34 = .ok (.if_icmp .ne 25, 3) := by decide +kernel
theorem dX9_begins_37 : decode cX9_begins 37 = .ok (.iload_n 3, 1) := by decide +kernel
theorem dX9_begins_38 : decode cX9_begins 38 = .ok (.iload 4, 2) := by decide +kernel
theorem dX9_begins_40 : decode cX9_begins 40 = .ok (.if_icmp .le 19, 3) := by decide +kernel
theorem dX9_begins_43 : decode cX9_begins 43 = .ok (.iload_n 3, 1) := by decide +kernel
theorem dX9_begins_44 : decode cX9_begins 44 = .ok (.iload_n 2, 1) := by decide +kernel
theorem dX9_begins_45 : decode cX9_begins 45 = .ok (.if_icmp .gt 14, 3) := by decide +kernel
theorem dX9_begins_48 : decode cX9_begins 48 = .ok (.aload_n 0, 1) := by decide +kernel
theorem dX9_begins_49 : decode cX9_begins 49 = .ok (.getfield 106, 3) := by decide +kernel
theorem dX9_begins_52 : decode cX9_begins 52 = .ok (.ifCond .le 7, 3) := by decide +kernel
theorem dX9_begins_55 : decode cX9_begins 55 = .ok (.iconst 1, 1) := by decide +kernel
theorem dX9_begins_56 : decode cX9_begins 56 = .ok (.goto 4, 3) := by decide +kernel
theorem dX9_begins_59 : decode cX9_begins 59 = .ok (.iconst 0, 1) := by decide +kernel
theorem dX9_begins_60 : decode cX9_begins 60 = .ok (.istore 5, 2) := by decide +kernel
theorem dX9_begins_62 : decode cX9_begins 62 = .ok (.aload_n 0, 1) := by decide +kernel
theorem dX9_begins_63 : decode cX9_begins 63 = .ok (.getfield 103, 3) := by decide +kernel
theorem dX9_begins_66 : decode cX9_begins 66 = .ok (.ifCond .eq 14, 3) := by decide +kernel
theorem dX9_begins_69 : decode cX9_begins 69 = .ok (.iload 5, 2) := by decide +kernel
theorem dX9_begins_71 : decode cX9_begins 71 = .ok (.ifCond .ne 9, 3) := by decide +kernel
theorem dX9_begins_74 : decode cX9_begins 74 = .ok (.iload 4, 2) := by decide +kernel
theorem dX9_begins_76 : decode cX9_begins 76 = .ok (.iconst 2, 1) := by decide +kernel
theorem dX9_begins_77 : decode cX9_begins 77 = .ok (.if_icmp .ge 7, 3) := by decide +kernel
theorem dX9_begins_80 : decode cX9_begins 80 = .ok (.aload_n 0, 1) := by decide +kernel
theorem dX9_begins_81 : decode cX9_begins 81 = .ok (.invokevirtual 112, 3) := by decide +kernel
theorem dX9_begins_84 : decode cX9_begins 84 = .ok (.aload_n 0, 1) := by decide +kernel
theorem dX9_begins_85 : decode cX9_begins 85 = .ok (.bipush 100, 2) := by decide +kernel
theorem dX9_begins_87 : decode cX9_begins 87 = .ok (.iload_n 1, 1) := by decide +kernel
theorem dX9_begins_88 : decode cX9_begins 88 = .ok (.iadd, 1) := by decide +kernel
theorem dX9_begins_89 : decode cX9_begins 89 = .ok (.invokevirtual 115, 3) := by decide +kernel
theorem dX9_begins_92 : decode cX9_begins 92 = .ok (.aload_n 0, 1) := by decide +kernel
theorem dX9_begins_93 : decode cX9_begins 93 = .ok (.iload_n 1, 1) := by decide +kernel
theorem dX9_begins_94 : decode cX9_begins 94 = .ok (.iconst (-1), 1) := by decide +kernel
theorem dX9_begins_95 : decode cX9_begins 95 = .ok (.invokevirtual 118, 3) := by decide +kernel
theorem dX9_begins_98 : decode cX9_begins 98 = .ok (.istore 6, 2) := by decide +kernel
theorem dX9_begins_100 : decode cX9_begins 100 = .ok (.iload 6, 2) := by decide +kernel
theorem dX9_begins_102 : decode cX9_begins 102 = .ok (.iconst (-1), 1) := by decide +kernel
theorem dX9_begins_103 : decode cX9_begins 103 = .ok (.if_icmp .eq 66, 3) := by decide +kernel
theorem dX9_begins_106 : decode cX9_begins 106 = .ok (.aload_n 0, 1) := by decide +kernel
theorem dX9_begins_107 : decode cX9_begins 107 = .ok (.getfield 106, 3) := by decide +kernel
theorem dX9_begins_110 : decode cX9_begins 110 = .ok (.iload_n 2, 1) := by decide +kernel
theorem dX9_begins_111 : decode cX9_begins 111 = .ok (.if_icmp .ne 16, 3) := by decide +kernel
theorem dX9_begins_114 : decode cX9_begins 114 = .ok (.aload_n 0, 1) := by decide +kernel
theorem dX9_begins_115 : decode cX9_begins 115 = .ok (.invokevirtual 112, 3) := by decide +kernel
theorem dX9_begins_118 : decode cX9_begins 118 = .ok (.aload_n 0, 1) := by decide +kernel
theorem dX9_begins_119 : decode cX9_begins 119 = .ok (.sipush 200, 3) := by decide +kernel
theorem dX9_begins_122 : decode cX9_begins 122 = .ok (.iload_n 1, 1) := by decide +kernel
theorem dX9_begins_123 : decode cX9_begins 123 = .ok (.iadd, 1) := by decide +kernel
theorem dX9_begins_124 : decode cX9_begins 124 = .ok (.invokevirtual 115, 3) := by decide +kernel
theorem dX9_begins_127 : decode cX9_begins 127 = .ok (.aload_n 0, 1) := by decide +kernel
theorem dX9_begins_128 : decode cX9_begins 128 = .ok (.getfield 25, 3) := by decide +kernel
theorem dX9_begins_131 : decode cX9_begins 131 = .ok (.iload 6, 2) := by decide +kernel
theorem dX9_begins_133 : decode cX9_begins 133 = .ok (.aload_n 0, 1) := by decide +kernel
theorem dX9_begins_134 : decode cX9_begins 134 = .ok (.getfield 103, 3) := by decide +kernel
theorem dX9_begins_137 : decode cX9_begins 137 = .ok (.iconst 1, 1) := by decide +kernel
theorem dX9_begins_138 : decode cX9_begins 138 = .ok (.isub, 1) := by decide +kernel
theorem dX9_begins_139 : decode cX9_begins 139 = .ok (.iastore, 1) := by decide +kernel
theorem dX9_begins_140 : decode cX9_begins 140 = .ok (.aload_n 0, 1) := by decide +kernel
theorem dX9_begins_141 : decode cX9_begins 141 = .ok (.getfield 28, 3) := by decide +kernel
theorem dX9_begins_144 : decode cX9_begins 144 = .ok (.iload 6, 2) := by decide +kernel
theorem dX9_begins_146 : decode cX9_begins 146 = .ok (.aload_n 0, 1) := by decide +kernel
theorem dX9_begins_147 : decode cX9_begins 147 = .ok (.getfield 106, 3) := by decide +kernel
theorem dX9_begins_150 : decode cX9_begins 150 = .ok (.iastore, 1) := by decide +kernel
theorem dX9_begins_151 : decode cX9_begins 151 = .ok (.aload_n 0, 1) := by decide +kernel
theorem dX9_begins_152 : decode cX9_begins 152 = .ok (.iload 6, 2) := by decide +kernel
theorem dX9_begins_154 : decode cX9_begins 154 = .ok (.invokevirtual 115, 3) := by decide +kernel
theorem dX9_begins_157 : decode cX9_begins 157 = .ok (.aload_n 0, 1) := by decide +kernel
theorem dX9_begins_158 : decode cX9_begins 158 = .ok (.iload_n 1, 1) := by decide +kernel
theorem dX9_begins_159 : decode cX9_begins 159 = .ok (.iload 6, 2) := by decide +kernel
theorem dX9_begins_161 : decode cX9_begins 161 = .ok (.invokevirtual 118, 3) := by decide +kernel
theorem dX9_begins_164 : decode cX9_begins 164 = .ok (.istore 6, 2) := by decide +kernel
theorem dX9_begins_166 : decode cX9_begins 166 = .ok (.goto (-66), 3) := by decide +kernel
theorem dX9_begins_169 : decode cX9_begins 169 = .ok (.return_, 1) := by decide +kernel
theorem dX9_bandsBy_0 : decode cX9_bandsBy 0 = .ok (.aload_n 0, 1) := by decide +kernel
theorem dX9_bandsBy_1 : decode cX9_bandsBy 1 = .ok (.iconst 0, 1) := by decide +kernel
theorem dX9_bandsBy_2 : decode cX9_bandsBy 2 = .ok (.putfield 103, 3) := by decide +kernel
theorem dX9_bandsBy_5 : decode cX9_bandsBy 5 = .ok (.aload_n 0, 1) := by decide +kernel
theorem dX9_bandsBy_6 : decode cX9_bandsBy 6 = .ok (.iconst 0, 1) := by decide +kernel
theorem dX9_bandsBy_7 : decode cX9_bandsBy 7 = .ok (.putfield 106, 3) := by decide +kernel
theorem dX9_bandsBy_10 : decode cX9_bandsBy 10 = .ok (.iconst 0, 1) := by decide +kernel
theorem dX9_bandsBy_11 : decode cX9_bandsBy 11 = .ok (.istore_n 2, 1) := by decide +kernel
theorem dX9_bandsBy_12 : decode cX9_bandsBy 12 = .ok (.iload_n 2, 1) := by decide +kernel
theorem dX9_bandsBy_13 : decode cX9_bandsBy 13 = .ok (.bipush 6, 2) := by decide +kernel
theorem dX9_bandsBy_15 : decode cX9_bandsBy 15 = .ok (.if_icmp .ge 23, 3) := by decide +kernel
theorem dX9_bandsBy_18 : decode cX9_bandsBy 18 = .ok (.aload_n 0, 1) := by decide +kernel
theorem dX9_bandsBy_19 : decode cX9_bandsBy 19 = .ok (.iload_n 2, 1) := by decide +kernel
theorem dX9_bandsBy_20 : decode cX9_bandsBy 20 = .ok (.invokevirtual 109, 3) := by decide +kernel
theorem dX9_bandsBy_23 : decode cX9_bandsBy 23 = .ok (.ifCond .le 9, 3) := by decide +kernel
theorem dX9_bandsBy_26 : decode cX9_bandsBy 26 = .ok (.aload_n 0, 1) := by decide +kernel
theorem dX9_bandsBy_27 : decode cX9_bandsBy 27 = .ok (.iload_n 2, 1) := by decide +kernel
theorem dX9_bandsBy_28 : decode cX9_bandsBy 28 = .ok (.iload_n 1, 1) := by decide +kernel
theorem dX9_bandsBy_29 : decode cX9_bandsBy 29 = .ok (.invokevirtual 121, 3) := by decide +kernel
theorem dX9_bandsBy_32 : decode cX9_bandsBy 32 = .ok (.iinc 2 1, 3) := by decide +kernel
theorem dX9_bandsBy_35 : decode cX9_bandsBy 35 = .ok (.goto (-23), 3) := by decide +kernel
theorem dX9_bandsBy_38 : decode cX9_bandsBy 38 = .ok (.return_, 1) := by decide +kernel
theorem dX9_printsBy_0 : decode cX9_printsBy 0 = .ok (.aload_n 0, 1) := by decide +kernel
theorem dX9_printsBy_1 : decode cX9_printsBy 1 = .ok (.iload_n 1, 1) := by decide +kernel
theorem dX9_printsBy_2 : decode cX9_printsBy 2 = .ok (.invokevirtual 124, 3) := by decide +kernel
theorem dX9_printsBy_5 : decode cX9_printsBy 5 = .ok (.iconst 0, 1) := by decide +kernel
theorem dX9_printsBy_6 : decode cX9_printsBy 6 = .ok (.istore_n 3, 1) := by decide +kernel
theorem dX9_printsBy_7 : decode cX9_printsBy 7 = .ok (.iload_n 3, 1) := by decide +kernel
theorem dX9_printsBy_8 : decode cX9_printsBy 8 = .ok (.sipush 1248, 3) := by decide +kernel
theorem dX9_printsBy_11 : decode cX9_printsBy 11 = .ok (.if_icmp .ge 16, 3) := by decide +kernel
theorem dX9_printsBy_14 : decode cX9_printsBy 14 = .ok (.aload_n 0, 1) := by decide +kernel
theorem dX9_printsBy_15 : decode cX9_printsBy 15 = .ok (.getfield 31, 3) := by decide +kernel
theorem dX9_printsBy_18 : decode cX9_printsBy 18 = .ok (.iload_n 3, 1) := by decide +kernel
theorem dX9_printsBy_19 : decode cX9_printsBy 19 = .ok (.iconst (-1), 1) := by decide +kernel
theorem dX9_printsBy_20 : decode cX9_printsBy 20 = .ok (.iastore, 1) := by decide +kernel
theorem dX9_printsBy_21 : decode cX9_printsBy 21 = .ok (.iinc 3 1, 3) := by decide +kernel
theorem dX9_printsBy_24 : decode cX9_printsBy 24 = .ok (.goto (-17), 3) := by decide +kernel
theorem dX9_printsBy_27 : decode cX9_printsBy 27 = .ok (.iconst 0, 1) := by decide +kernel
theorem dX9_printsBy_28 : decode cX9_printsBy 28 = .ok (.istore_n 3, 1) := by decide +kernel
theorem dX9_printsBy_29 : decode cX9_printsBy 29 = .ok (.iload_n 3, 1) := by decide +kernel
theorem dX9_printsBy_30 : decode cX9_printsBy 30 = .ok (.aload_n 0, 1) := by decide +kernel
theorem dX9_printsBy_31 : decode cX9_printsBy 31 = .ok (.getfield 7, 3) := by decide +kernel
theorem dX9_printsBy_34 : decode cX9_printsBy 34 = .ok (.iconst 4, 1) := by decide +kernel
theorem dX9_printsBy_35 : decode cX9_printsBy 35 = .ok (.iaload, 1) := by decide +kernel
theorem dX9_printsBy_36 : decode cX9_printsBy 36 = .ok (.if_icmp .ge 55, 3) := by decide +kernel
theorem dX9_printsBy_39 : decode cX9_printsBy 39 = .ok (.aload_n 0, 1) := by decide +kernel
theorem dX9_printsBy_40 : decode cX9_printsBy 40 = .ok (.iload_n 3, 1) := by decide +kernel
theorem dX9_printsBy_41 : decode cX9_printsBy 41 = .ok (.iconst 1, 1) := by decide +kernel
theorem dX9_printsBy_42 : decode cX9_printsBy 42 = .ok (.invokevirtual 55, 3) := by decide +kernel
theorem dX9_printsBy_45 : decode cX9_printsBy 45 = .ok (.iload_n 2, 1) := by decide +kernel
theorem dX9_printsBy_46 : decode cX9_printsBy 46 = .ok (.idiv, 1) := by decide +kernel
theorem dX9_printsBy_47 : decode cX9_printsBy 47 = .ok (.istore 4, 2) := by decide +kernel
theorem dX9_printsBy_49 : decode cX9_printsBy 49 = .ok (.iload 4, 2) := by decide +kernel
theorem dX9_printsBy_51 : decode cX9_printsBy 51 = .ok (.aload_n 0, 1) := by decide +kernel
theorem dX9_printsBy_52 : decode cX9_printsBy 52 = .ok (.iload_n 3, 1) := by decide +kernel
theorem dX9_printsBy_53 : decode cX9_printsBy 53 = .ok (.invokevirtual 127, 3) := by decide +kernel
theorem dX9_printsBy_56 : decode cX9_printsBy 56 = .ok (.iload_n 2, 1) := by decide +kernel
theorem dX9_printsBy_57 : decode cX9_printsBy 57 = .ok (.idiv, 1) := by decide +kernel
theorem dX9_printsBy_58 : decode cX9_printsBy 58 = .ok (.if_icmp .gt 27, 3) := by decide +kernel
theorem dX9_printsBy_61 : decode cX9_printsBy 61 = .ok (.aload_n 0, 1) := by decide +kernel
theorem dX9_printsBy_62 : decode cX9_printsBy 62 = .ok (.getfield 31, 3) := by decide +kernel
theorem dX9_printsBy_65 : decode cX9_printsBy 65 = .ok (.bipush 52, 2) := by decide +kernel
theorem dX9_printsBy_67 : decode cX9_printsBy 67 = .ok (.aload_n 0, 1) := by decide +kernel
theorem dX9_printsBy_68 : decode cX9_printsBy 68 = .ok (.getfield 25, 3) := by decide +kernel
theorem dX9_printsBy_71 : decode cX9_printsBy 71 = .ok (.iload_n 3, 1) := by decide +kernel
theorem dX9_printsBy_72 : decode cX9_printsBy 72 = .ok (.iaload, 1) := by decide +kernel
theorem dX9_printsBy_73 : decode cX9_printsBy 73 = .ok (.imul, 1) := by decide +kernel
theorem dX9_printsBy_74 : decode cX9_printsBy 74 = .ok (.iload 4, 2) := by decide +kernel
theorem dX9_printsBy_76 : decode cX9_printsBy 76 = .ok (.iadd, 1) := by decide +kernel
theorem dX9_printsBy_77 : decode cX9_printsBy 77 = .ok (.iconst 0, 1) := by decide +kernel
theorem dX9_printsBy_78 : decode cX9_printsBy 78 = .ok (.iastore, 1) := by decide +kernel
theorem dX9_printsBy_79 : decode cX9_printsBy 79 = .ok (.iinc 4 1, 3) := by decide +kernel
theorem dX9_printsBy_82 : decode cX9_printsBy 82 = .ok (.goto (-33), 3) := by decide +kernel
theorem dX9_printsBy_85 : decode cX9_printsBy 85 = .ok (.iinc 3 1, 3) := by decide +kernel
theorem dX9_printsBy_88 : decode cX9_printsBy 88 = .ok (.goto (-59), 3) := by decide +kernel
theorem dX9_printsBy_91 : decode cX9_printsBy 91 = .ok (.aload_n 0, 1) := by decide +kernel
theorem dX9_printsBy_92 : decode cX9_printsBy 92 = .ok (.iconst 0, 1) := by decide +kernel
theorem dX9_printsBy_93 : decode cX9_printsBy 93 = .ok (.putfield 130, 3) := by decide +kernel
theorem dX9_printsBy_96 : decode cX9_printsBy 96 = .ok (.iconst 0, 1) := by decide +kernel
theorem dX9_printsBy_97 : decode cX9_printsBy 97 = .ok (.istore_n 3, 1) := by decide +kernel
theorem dX9_printsBy_98 : decode cX9_printsBy 98 = .ok (.iload_n 3, 1) := by decide +kernel
theorem dX9_printsBy_99 : decode cX9_printsBy 99 = .ok (.sipush 1248, 3) := by decide +kernel
theorem dX9_printsBy_102 : decode cX9_printsBy 102 = .ok (.if_icmp .ge 79, 3) := by decide +kernel
theorem dX9_printsBy_105 : decode cX9_printsBy 105 = .ok (.aload_n 0, 1) := by decide +kernel
theorem dX9_printsBy_106 : decode cX9_printsBy 106 = .ok (.getfield 7, 3) := by decide +kernel
theorem dX9_printsBy_109 : decode cX9_printsBy 109 = .ok (.iconst 3, 1) := by decide +kernel
theorem dX9_printsBy_110 : decode cX9_printsBy 110 = .ok (.iaload, 1) := by decide +kernel
theorem dX9_printsBy_111 : decode cX9_printsBy 111 = .ok (.ifCond .ne 7, 3) := by decide +kernel
theorem dX9_printsBy_114 : decode cX9_printsBy 114 = .ok (.iload_n 3, 1) := by decide +kernel
theorem dX9_printsBy_115 : decode cX9_printsBy 115 = .ok (.goto 15, 3) := by decide +kernel
theorem dX9_printsBy_118 : decode cX9_printsBy 118 = .ok (.bipush 52, 2) := by decide +kernel
theorem dX9_printsBy_120 : decode cX9_printsBy 120 = .ok (.iload_n 3, 1) := by decide +kernel
theorem dX9_printsBy_121 : decode cX9_printsBy 121 = .ok (.bipush 24, 2) := by decide +kernel
theorem dX9_printsBy_123 : decode cX9_printsBy 123 = .ok (.irem, 1) := by decide +kernel
theorem dX9_printsBy_124 : decode cX9_printsBy 124 = .ok (.imul, 1) := by decide +kernel
theorem dX9_printsBy_125 : decode cX9_printsBy 125 = .ok (.iload_n 3, 1) := by decide +kernel
theorem dX9_printsBy_126 : decode cX9_printsBy 126 = .ok (.bipush 24, 2) := by decide +kernel
theorem dX9_printsBy_128 : decode cX9_printsBy 128 = .ok (.idiv, 1) := by decide +kernel
theorem dX9_printsBy_129 : decode cX9_printsBy 129 = .ok (.iadd, 1) := by decide +kernel
theorem dX9_printsBy_130 : decode cX9_printsBy 130 = .ok (.istore 4, 2) := by decide +kernel
theorem dX9_printsBy_132 : decode cX9_printsBy 132 = .ok (.aload_n 0, 1) := by decide +kernel
theorem dX9_printsBy_133 : decode cX9_printsBy 133 = .ok (.getfield 31, 3) := by decide +kernel
theorem dX9_printsBy_136 : decode cX9_printsBy 136 = .ok (.iload 4, 2) := by decide +kernel
theorem dX9_printsBy_138 : decode cX9_printsBy 138 = .ok (.iaload, 1) := by decide +kernel
theorem dX9_printsBy_139 : decode cX9_printsBy 139 = .ok (.iconst (-1), 1) := by decide +kernel
theorem dX9_printsBy_140 : decode cX9_printsBy 140 = .ok (.if_icmp .eq 35, 3) := by decide +kernel
theorem dX9_printsBy_143 : decode cX9_printsBy 143 = .ok (.aload_n 0, 1) := by decide +kernel
theorem dX9_printsBy_144 : decode cX9_printsBy 144 = .ok (.getfield 31, 3) := by decide +kernel
theorem dX9_printsBy_147 : decode cX9_printsBy 147 = .ok (.iload 4, 2) := by decide +kernel
theorem dX9_printsBy_149 : decode cX9_printsBy 149 = .ok (.aload_n 0, 1) := by decide +kernel
theorem dX9_printsBy_150 : decode cX9_printsBy 150 = .ok (.getfield 130, 3) := by decide +kernel
theorem dX9_printsBy_153 : decode cX9_printsBy 153 = .ok (.iastore, 1) := by decide +kernel
theorem dX9_printsBy_154 : decode cX9_printsBy 154 = .ok (.aload_n 0, 1) := by decide +kernel
theorem dX9_printsBy_155 : decode cX9_printsBy 155 = .ok (.getfield 34, 3) := by decide +kernel
theorem dX9_printsBy_158 : decode cX9_printsBy 158 = .ok (.aload_n 0, 1) := by decide +kernel
theorem dX9_printsBy_159 : decode cX9_printsBy 159 = .ok (.getfield 130, 3) := by decide +kernel
theorem dX9_printsBy_162 : decode cX9_printsBy 162 = .ok (.iload 4, 2) := by decide +kernel
theorem dX9_printsBy_164 : decode cX9_printsBy 164 = .ok (.iastore, 1) := by decide +kernel
theorem dX9_printsBy_165 : decode cX9_printsBy 165 = .ok (.aload_n 0, 1) := by decide +kernel
theorem dX9_printsBy_166 : decode cX9_printsBy 166 = .ok (.dup, 1) := by decide +kernel
theorem dX9_printsBy_167 : decode cX9_printsBy 167 = .ok (.getfield 130, 3) := by decide +kernel
theorem dX9_printsBy_170 : decode cX9_printsBy 170 = .ok (.iconst 1, 1) := by decide +kernel
theorem dX9_printsBy_171 : decode cX9_printsBy 171 = .ok (.iadd, 1) := by decide +kernel
theorem dX9_printsBy_172 : decode cX9_printsBy 172 = .ok (.putfield 130, 3) := by decide +kernel
theorem dX9_printsBy_175 : decode cX9_printsBy 175 = .ok (.iinc 3 1, 3) := by decide +kernel
theorem dX9_printsBy_178 : decode cX9_printsBy 178 = .ok (.goto (-80), 3) := by decide +kernel
theorem dX9_printsBy_181 : decode cX9_printsBy 181 = .ok (.return_, 1) := by decide +kernel
theorem dX9_prints_0 : decode cX9_prints 0 = .ok (.aload_n 0, 1) := by decide +kernel
theorem dX9_prints_1 : decode cX9_prints 1 = .ok (.aload_n 0, 1) := by decide +kernel
theorem dX9_prints_2 : decode cX9_prints 2 = .ok (.getfield 7, 3) := by decide +kernel
theorem dX9_prints_5 : decode cX9_prints 5 = .ok (.iconst 0, 1) := by decide +kernel
theorem dX9_prints_6 : decode cX9_prints 6 = .ok (.iaload, 1) := by decide +kernel
theorem dX9_prints_7 : decode cX9_prints 7 = .ok (.aload_n 0, 1) := by decide +kernel
theorem dX9_prints_8 : decode cX9_prints 8 = .ok (.getfield 7, 3) := by decide +kernel
theorem dX9_prints_11 : decode cX9_prints 11 = .ok (.iconst 1, 1) := by decide +kernel
theorem dX9_prints_12 : decode cX9_prints 12 = .ok (.iaload, 1) := by decide +kernel
theorem dX9_prints_13 : decode cX9_prints 13 = .ok (.invokevirtual 133, 3) := by decide +kernel
theorem dX9_prints_16 : decode cX9_prints 16 = .ok (.return_, 1) := by decide +kernel
theorem dX9_sheetBy_0 : decode cX9_sheetBy 0 = .ok (.aload_n 0, 1) := by decide +kernel
theorem dX9_sheetBy_1 : decode cX9_sheetBy 1 = .ok (.getfield 31, 3) := by decide +kernel
theorem dX9_sheetBy_4 : decode cX9_sheetBy 4 = .ok (.bipush 52, 2) := by decide +kernel
theorem dX9_sheetBy_6 : decode cX9_sheetBy 6 = .ok (.aload_n 0, 1) := by decide +kernel
theorem dX9_sheetBy_7 : decode cX9_sheetBy 7 = .ok (.getfield 25, 3) := by decide +kernel
theorem dX9_sheetBy_10 : decode cX9_sheetBy 10 = .ok (.iload_n 1, 1) := by decide +kernel
theorem dX9_sheetBy_11 : decode cX9_sheetBy 11 = .ok (.iaload, 1) := by decide +kernel
theorem dX9_sheetBy_12 : decode cX9_sheetBy 12 = .ok (.imul, 1) := by decide +kernel
theorem dX9_sheetBy_13 : decode cX9_sheetBy 13 = .ok (.iload_n 2, 1) := by decide +kernel
theorem dX9_sheetBy_14 : decode cX9_sheetBy 14 = .ok (.iload_n 3, 1) := by decide +kernel
theorem dX9_sheetBy_15 : decode cX9_sheetBy 15 = .ok (.idiv, 1) := by decide +kernel
theorem dX9_sheetBy_16 : decode cX9_sheetBy 16 = .ok (.iadd, 1) := by decide +kernel
theorem dX9_sheetBy_17 : decode cX9_sheetBy 17 = .ok (.iaload, 1) := by decide +kernel
theorem dX9_sheetBy_18 : decode cX9_sheetBy 18 = .ok (.ireturn, 1) := by decide +kernel
theorem dX9_leaves_0 : decode cX9_leaves 0 = .ok (.aload_n 0, 1) := by decide +kernel
theorem dX9_leaves_1 : decode cX9_leaves 1 = .ok (.aload_n 0, 1) := by decide +kernel
theorem dX9_leaves_2 : decode cX9_leaves 2 = .ok (.iload_n 1, 1) := by decide +kernel
theorem dX9_leaves_3 : decode cX9_leaves 3 = .ok (.iconst 0, 1) := by decide +kernel
theorem dX9_leaves_4 : decode cX9_leaves 4 = .ok (.invokevirtual 86, 3) := by decide +kernel
theorem dX9_leaves_7 : decode cX9_leaves 7 = .ok (.aload_n 0, 1) := by decide +kernel
theorem dX9_leaves_8 : decode cX9_leaves 8 = .ok (.aload_n 0, 1) := by decide +kernel
theorem dX9_leaves_9 : decode cX9_leaves 9 = .ok (.iload_n 1, 1) := by decide +kernel
theorem dX9_leaves_10 : decode cX9_leaves 10 = .ok (.iconst 0, 1) := by decide +kernel
theorem dX9_leaves_11 : decode cX9_leaves 11 = .ok (.invokevirtual 86, 3) := by decide +kernel
theorem dX9_leaves_14 : decode cX9_leaves 14 = .ok (.invokevirtual 127, 3) := by decide +kernel
theorem dX9_leaves_17 : decode cX9_leaves 17 = .ok (.iload_n 2, 1) := by decide +kernel
theorem dX9_leaves_18 : decode cX9_leaves 18 = .ok (.invokevirtual 136, 3) := by decide +kernel
theorem dX9_leaves_21 : decode cX9_leaves 21 = .ok (.ireturn, 1) := by decide +kernel
theorem dX9_arrives_0 : decode cX9_arrives 0 = .ok (.aload_n 0, 1) := by decide +kernel
theorem dX9_arrives_1 : decode cX9_arrives 1 = .ok (.aload_n 0, 1) := by decide +kernel
theorem dX9_arrives_2 : decode cX9_arrives 2 = .ok (.iload_n 1, 1) := by decide +kernel
theorem dX9_arrives_3 : decode cX9_arrives 3 = .ok (.iconst 1, 1) := by decide +kernel
theorem dX9_arrives_4 : decode cX9_arrives 4 = .ok (.invokevirtual 86, 3) := by decide +kernel
theorem dX9_arrives_7 : decode cX9_arrives 7 = .ok (.aload_n 0, 1) := by decide +kernel
theorem dX9_arrives_8 : decode cX9_arrives 8 = .ok (.aload_n 0, 1) := by decide +kernel
theorem dX9_arrives_9 : decode cX9_arrives 9 = .ok (.iload_n 1, 1) := by decide +kernel
theorem dX9_arrives_10 : decode cX9_arrives 10 = .ok (.iconst 1, 1) := by decide +kernel
theorem dX9_arrives_11 : decode cX9_arrives 11 = .ok (.invokevirtual 86, 3) := by decide +kernel
theorem dX9_arrives_14 : decode cX9_arrives 14 = .ok (.iconst 1, 1) := by decide +kernel
theorem dX9_arrives_15 : decode cX9_arrives 15 = .ok (.invokevirtual 55, 3) := by decide +kernel
theorem dX9_arrives_18 : decode cX9_arrives 18 = .ok (.iload_n 2, 1) := by decide +kernel
theorem dX9_arrives_19 : decode cX9_arrives 19 = .ok (.invokevirtual 136, 3) := by decide +kernel
theorem dX9_arrives_22 : decode cX9_arrives 22 = .ok (.ireturn, 1) := by decide +kernel
theorem dX9_isExit_0 : decode cX9_isExit 0 = .ok (.aload_n 0, 1) := by decide +kernel
theorem dX9_isExit_1 : decode cX9_isExit 1 = .ok (.iload_n 1, 1) := by decide +kernel
theorem dX9_isExit_2 : decode cX9_isExit 2 = .ok (.iload_n 2, 1) := by decide +kernel
theorem dX9_isExit_3 : decode cX9_isExit 3 = .ok (.invokevirtual 140, 3) := by decide +kernel
theorem dX9_isExit_6 : decode cX9_isExit 6 = .ok (.aload_n 0, 1) := by decide +kernel
theorem dX9_isExit_7 : decode cX9_isExit 7 = .ok (.iload_n 1, 1) := by decide +kernel
theorem dX9_isExit_8 : decode cX9_isExit 8 = .ok (.iload_n 2, 1) := by decide +kernel
theorem dX9_isExit_9 : decode cX9_isExit 9 = .ok (.invokevirtual 143, 3) := by decide +kernel
theorem dX9_isExit_12 : decode cX9_isExit 12 = .ok (.if_icmp .eq 7, 3) := by decide +kernel
theorem dX9_isExit_15 : decode cX9_isExit 15 = .ok (.iconst 1, 1) := by decide +kernel
theorem dX9_isExit_16 : decode cX9_isExit 16 = .ok (.goto 4, 3) := by decide +kernel
theorem dX9_isExit_19 : decode cX9_isExit 19 = .ok (.iconst 0, 1) := by decide +kernel
theorem dX9_isExit_20 : decode cX9_isExit 20 = .ok (.ireturn, 1) := by decide +kernel
theorem dX9_exitOf_0 : decode cX9_exitOf 0 = .ok (.iconst 0, 1) := by decide +kernel
theorem dX9_exitOf_1 : decode cX9_exitOf 1 = .ok (.istore_n 2, 1) := by decide +kernel
theorem dX9_exitOf_2 : decode cX9_exitOf 2 = .ok (.iconst 0, 1) := by decide +kernel
theorem dX9_exitOf_3 : decode cX9_exitOf 3 = .ok (.istore_n 3, 1) := by decide +kernel
theorem dX9_exitOf_4 : decode cX9_exitOf 4 = .ok (.iload_n 3, 1) := by decide +kernel
theorem dX9_exitOf_5 : decode cX9_exitOf 5 = .ok (.iload_n 1, 1) := by decide +kernel
theorem dX9_exitOf_6 : decode cX9_exitOf 6 = .ok (.if_icmp .gt 31, 3) := by decide +kernel
theorem dX9_exitOf_9 : decode cX9_exitOf 9 = .ok (.iload_n 2, 1) := by decide +kernel
theorem dX9_exitOf_10 : decode cX9_exitOf 10 = .ok (.aload_n 0, 1) := by decide +kernel
theorem dX9_exitOf_11 : decode cX9_exitOf 11 = .ok (.iload_n 3, 1) := by decide +kernel
theorem dX9_exitOf_12 : decode cX9_exitOf 12 = .ok (.aload_n 0, 1) := by decide +kernel
theorem dX9_exitOf_13 : decode cX9_exitOf 13 = .ok (.getfield 7, 3) := by decide +kernel
theorem dX9_exitOf_16 : decode cX9_exitOf 16 = .ok (.iconst 1, 1) := by decide +kernel
theorem dX9_exitOf_17 : decode cX9_exitOf 17 = .ok (.iaload, 1) := by decide +kernel
theorem dX9_exitOf_18 : decode cX9_exitOf 18 = .ok (.invokevirtual 146, 3) := by decide +kernel
theorem dX9_exitOf_21 : decode cX9_exitOf 21 = .ok (.ifCond .eq 7, 3) := by decide +kernel
theorem dX9_exitOf_24 : decode cX9_exitOf 24 = .ok (.iconst 1, 1) := by decide +kernel
theorem dX9_exitOf_25 : decode cX9_exitOf 25 = .ok (.goto 4, 3) := by decide +kernel
theorem dX9_exitOf_28 : decode cX9_exitOf 28 = .ok (.iconst 0, 1) := by decide +kernel
theorem dX9_exitOf_29 : decode cX9_exitOf 29 = .ok (.iadd, 1) := by decide +kernel
theorem dX9_exitOf_30 : decode cX9_exitOf 30 = .ok (.istore_n 2, 1) := by decide +kernel
theorem dX9_exitOf_31 : decode cX9_exitOf 31 = .ok (.iinc 3 1, 3) := by decide +kernel
theorem dX9_exitOf_34 : decode cX9_exitOf 34 = .ok (.goto (-30), 3) := by decide +kernel
theorem dX9_exitOf_37 : decode cX9_exitOf 37 = .ok (.aload_n 0, 1) := by decide +kernel
theorem dX9_exitOf_38 : decode cX9_exitOf 38 = .ok (.iload_n 1, 1) := by decide +kernel
theorem dX9_exitOf_39 : decode cX9_exitOf 39 = .ok (.aload_n 0, 1) := by decide +kernel
theorem dX9_exitOf_40 : decode cX9_exitOf 40 = .ok (.getfield 7, 3) := by decide +kernel
theorem dX9_exitOf_43 : decode cX9_exitOf 43 = .ok (.iconst 1, 1) := by decide +kernel
theorem dX9_exitOf_44 : decode cX9_exitOf 44 = .ok (.iaload, 1) := by decide +kernel
theorem dX9_exitOf_45 : decode cX9_exitOf 45 = .ok (.invokevirtual 146, 3) := by decide +kernel
theorem dX9_exitOf_48 : decode cX9_exitOf 48 = .ok (.ifCond .eq 7, 3) := by decide +kernel
theorem dX9_exitOf_51 : decode cX9_exitOf 51 = .ok (.iload_n 2, 1) := by decide +kernel
theorem dX9_exitOf_52 : decode cX9_exitOf 52 = .ok (.goto 4, 3) := by decide +kernel
theorem dX9_exitOf_55 : decode cX9_exitOf 55 = .ok (.iconst (-1), 1) := by decide +kernel
theorem dX9_exitOf_56 : decode cX9_exitOf 56 = .ok (.ireturn, 1) := by decide +kernel
theorem dX9_isLate_0 : decode cX9_isLate 0 = .ok (.aload_n 0, 1) := by decide +kernel
theorem dX9_isLate_1 : decode cX9_isLate 1 = .ok (.aload_n 0, 1) := by decide +kernel
theorem dX9_isLate_2 : decode cX9_isLate 2 = .ok (.iload_n 1, 1) := by decide +kernel
theorem dX9_isLate_3 : decode cX9_isLate 3 = .ok (.iconst 1, 1) := by decide +kernel
theorem dX9_isLate_4 : decode cX9_isLate 4 = .ok (.invokevirtual 86, 3) := by decide +kernel
theorem dX9_isLate_7 : decode cX9_isLate 7 = .ok (.iconst 1, 1) := by decide +kernel
theorem dX9_isLate_8 : decode cX9_isLate 8 = .ok (.invokevirtual 55, 3) := by decide +kernel
theorem dX9_isLate_11 : decode cX9_isLate 11 = .ok (.aload_n 0, 1) := by decide +kernel
theorem dX9_isLate_12 : decode cX9_isLate 12 = .ok (.aload_n 0, 1) := by decide +kernel
theorem dX9_isLate_13 : decode cX9_isLate 13 = .ok (.iload_n 1, 1) := by decide +kernel
theorem dX9_isLate_14 : decode cX9_isLate 14 = .ok (.iconst 0, 1) := by decide +kernel
theorem dX9_isLate_15 : decode cX9_isLate 15 = .ok (.invokevirtual 86, 3) := by decide +kernel
theorem dX9_isLate_18 : decode cX9_isLate 18 = .ok (.invokevirtual 127, 3) := by decide +kernel
theorem dX9_isLate_21 : decode cX9_isLate 21 = .ok (.if_icmp .gt 7, 3) := by decide +kernel
theorem dX9_isLate_24 : decode cX9_isLate 24 = .ok (.iconst 1, 1) := by decide +kernel
theorem dX9_isLate_25 : decode cX9_isLate 25 = .ok (.goto 4, 3) := by decide +kernel
theorem dX9_isLate_28 : decode cX9_isLate 28 = .ok (.iconst 0, 1) := by decide +kernel
theorem dX9_isLate_29 : decode cX9_isLate 29 = .ok (.ireturn, 1) := by decide +kernel
theorem dX9_partsOf_0 : decode cX9_partsOf 0 = .ok (.aload_n 0, 1) := by decide +kernel
theorem dX9_partsOf_1 : decode cX9_partsOf 1 = .ok (.iload_n 1, 1) := by decide +kernel
theorem dX9_partsOf_2 : decode cX9_partsOf 2 = .ok (.invokevirtual 127, 3) := by decide +kernel
theorem dX9_partsOf_5 : decode cX9_partsOf 5 = .ok (.aload_n 0, 1) := by decide +kernel
theorem dX9_partsOf_6 : decode cX9_partsOf 6 = .ok (.getfield 7, 3) := by decide +kernel
theorem dX9_partsOf_9 : decode cX9_partsOf 9 = .ok (.iconst 1, 1) := by decide +kernel
theorem dX9_partsOf_10 : decode cX9_partsOf 10 = .ok (.iaload, 1) := by decide +kernel
theorem dX9_partsOf_11 : decode cX9_partsOf 11 = .ok (.idiv, 1) := by decide +kernel
theorem dX9_partsOf_12 : decode cX9_partsOf 12 = .ok (.aload_n 0, 1) := by decide +kernel
theorem dX9_partsOf_13 : decode cX9_partsOf 13 = .ok (.iload_n 1, 1) := by decide +kernel
theorem dX9_partsOf_14 : decode cX9_partsOf 14 = .ok (.iconst 1, 1) := by decide +kernel
theorem dX9_partsOf_15 : decode cX9_partsOf 15 = .ok (.invokevirtual 55, 3) := by decide +kernel
theorem dX9_partsOf_18 : decode cX9_partsOf 18 = .ok (.aload_n 0, 1) := by decide +kernel
theorem dX9_partsOf_19 : decode cX9_partsOf 19 = .ok (.getfield 7, 3) := by decide +kernel
theorem dX9_partsOf_22 : decode cX9_partsOf 22 = .ok (.iconst 1, 1) := by decide +kernel
theorem dX9_partsOf_23 : decode cX9_partsOf 23 = .ok (.iaload, 1) := by decide +kernel
theorem dX9_partsOf_24 : decode cX9_partsOf 24 = .ok (.idiv, 1) := by decide +kernel
theorem dX9_partsOf_25 : decode cX9_partsOf 25 = .ok (.isub, 1) := by decide +kernel
theorem dX9_partsOf_26 : decode cX9_partsOf 26 = .ok (.iconst 1, 1) := by decide +kernel
theorem dX9_partsOf_27 : decode cX9_partsOf 27 = .ok (.iadd, 1) := by decide +kernel
theorem dX9_partsOf_28 : decode cX9_partsOf 28 = .ok (.ireturn, 1) := by decide +kernel
theorem dX9_taskTold_0 : decode cX9_taskTold 0 = .ok (.iload_n 2, 1) := by decide +kernel
theorem dX9_taskTold_1 : decode cX9_taskTold 1 = .ok (.tableswitch 57 3 6 #[31, 37, 44, 51], 31) := by decide +kernel
theorem dX9_taskTold_32 : decode cX9_taskTold 32 = .ok (.aload_n 0, 1) := by decide +kernel
theorem dX9_taskTold_33 : decode cX9_taskTold 33 = .ok (.iload_n 1, 1) := by decide +kernel
theorem dX9_taskTold_34 : decode cX9_taskTold 34 = .ok (.invokevirtual 127, 3) := by decide +kernel
theorem dX9_taskTold_37 : decode cX9_taskTold 37 = .ok (.ireturn, 1) := by decide +kernel
theorem dX9_taskTold_38 : decode cX9_taskTold 38 = .ok (.aload_n 0, 1) := by decide +kernel
theorem dX9_taskTold_39 : decode cX9_taskTold 39 = .ok (.getfield 25, 3) := by decide +kernel
theorem dX9_taskTold_42 : decode cX9_taskTold 42 = .ok (.iload_n 1, 1) := by decide +kernel
theorem dX9_taskTold_43 : decode cX9_taskTold 43 = .ok (.iaload, 1) := by decide +kernel
theorem dX9_taskTold_44 : decode cX9_taskTold 44 = .ok (.ireturn, 1) := by decide +kernel
theorem dX9_taskTold_45 : decode cX9_taskTold 45 = .ok (.aload_n 0, 1) := by decide +kernel
theorem dX9_taskTold_46 : decode cX9_taskTold 46 = .ok (.getfield 28, 3) := by decide +kernel
theorem dX9_taskTold_49 : decode cX9_taskTold 49 = .ok (.iload_n 1, 1) := by decide +kernel
theorem dX9_taskTold_50 : decode cX9_taskTold 50 = .ok (.iaload, 1) := by decide +kernel
theorem dX9_taskTold_51 : decode cX9_taskTold 51 = .ok (.ireturn, 1) := by decide +kernel
theorem dX9_taskTold_52 : decode cX9_taskTold 52 = .ok (.aload_n 0, 1) := by decide +kernel
theorem dX9_taskTold_53 : decode cX9_taskTold 53 = .ok (.iload_n 1, 1) := by decide +kernel
theorem dX9_taskTold_54 : decode cX9_taskTold 54 = .ok (.invokevirtual 149, 3) := by decide +kernel
theorem dX9_taskTold_57 : decode cX9_taskTold 57 = .ok (.ireturn, 1) := by decide +kernel
theorem dX9_taskTold_58 : decode cX9_taskTold 58 = .ok (.aload_n 0, 1) := by decide +kernel
theorem dX9_taskTold_59 : decode cX9_taskTold 59 = .ok (.iload_n 1, 1) := by decide +kernel
theorem dX9_taskTold_60 : decode cX9_taskTold 60 = .ok (.iload_n 2, 1) := by decide +kernel
theorem dX9_taskTold_61 : decode cX9_taskTold 61 = .ok (.invokevirtual 55, 3) := by decide +kernel
theorem dX9_taskTold_64 : decode cX9_taskTold 64 = .ok (.ireturn, 1) := by decide +kernel
theorem dX9_task_0 : decode cX9_task 0 = .ok (.aload_n 0, 1) := by decide +kernel
theorem dX9_task_1 : decode cX9_task 1 = .ok (.iload_n 1, 1) := by decide +kernel
theorem dX9_task_2 : decode cX9_task 2 = .ok (.invokevirtual 82, 3) := by decide +kernel
theorem dX9_task_5 : decode cX9_task 5 = .ok (.ifCond .ne 9, 3) := by decide +kernel
theorem dX9_task_8 : decode cX9_task 8 = .ok (.aload_n 0, 1) := by decide +kernel
theorem dX9_task_9 : decode cX9_task 9 = .ok (.iconst 1, 1) := by decide +kernel
theorem dX9_task_10 : decode cX9_task 10 = .ok (.invokevirtual 63, 3) := by decide +kernel
theorem dX9_task_13 : decode cX9_task 13 = .ok (.ireturn, 1) := by decide +kernel
theorem dX9_task_14 : decode cX9_task 14 = .ok (.iload_n 2, 1) := by decide +kernel
theorem dX9_task_15 : decode cX9_task 15 = .ok (.iconst 0, 1) := by decide +kernel
theorem dX9_task_16 : decode cX9_task 16 = .ok (.bipush 6, 2) := by decide +kernel
theorem dX9_task_18 : decode cX9_task 18 = .ok (.invokestatic 51, 3) := by decide +kernel
theorem dX9_task_21 : decode cX9_task 21 = .ok (.ifCond .ne 9, 3) := by decide +kernel
theorem dX9_task_24 : decode cX9_task 24 = .ok (.aload_n 0, 1) := by decide +kernel
theorem dX9_task_25 : decode cX9_task 25 = .ok (.iconst 2, 1) := by decide +kernel
theorem dX9_task_26 : decode cX9_task 26 = .ok (.invokevirtual 63, 3) := by decide +kernel
theorem dX9_task_29 : decode cX9_task 29 = .ok (.ireturn, 1) := by decide +kernel
theorem dX9_task_30 : decode cX9_task 30 = .ok (.aload_n 0, 1) := by decide +kernel
theorem dX9_task_31 : decode cX9_task 31 = .ok (.aload_n 0, 1) := by decide +kernel
theorem dX9_task_32 : decode cX9_task 32 = .ok (.getfield 7, 3) := by decide +kernel
theorem dX9_task_35 : decode cX9_task 35 = .ok (.iconst 0, 1) := by decide +kernel
theorem dX9_task_36 : decode cX9_task 36 = .ok (.iaload, 1) := by decide +kernel
theorem dX9_task_37 : decode cX9_task 37 = .ok (.invokevirtual 124, 3) := by decide +kernel
theorem dX9_task_40 : decode cX9_task 40 = .ok (.aload_n 0, 1) := by decide +kernel
theorem dX9_task_41 : decode cX9_task 41 = .ok (.aload_n 0, 1) := by decide +kernel
theorem dX9_task_42 : decode cX9_task 42 = .ok (.iload_n 1, 1) := by decide +kernel
theorem dX9_task_43 : decode cX9_task 43 = .ok (.iload_n 2, 1) := by decide +kernel
theorem dX9_task_44 : decode cX9_task 44 = .ok (.invokevirtual 152, 3) := by decide +kernel
theorem dX9_task_47 : decode cX9_task 47 = .ok (.invokevirtual 47, 3) := by decide +kernel
theorem dX9_task_50 : decode cX9_task 50 = .ok (.ireturn, 1) := by decide +kernel
theorem dX9_bands_0 : decode cX9_bands 0 = .ok (.aload_n 0, 1) := by decide +kernel
theorem dX9_bands_1 : decode cX9_bands 1 = .ok (.aload_n 0, 1) := by decide +kernel
theorem dX9_bands_2 : decode cX9_bands 2 = .ok (.getfield 7, 3) := by decide +kernel
theorem dX9_bands_5 : decode cX9_bands 5 = .ok (.iconst 0, 1) := by decide +kernel
theorem dX9_bands_6 : decode cX9_bands 6 = .ok (.iaload, 1) := by decide +kernel
theorem dX9_bands_7 : decode cX9_bands 7 = .ok (.invokevirtual 124, 3) := by decide +kernel
theorem dX9_bands_10 : decode cX9_bands 10 = .ok (.aload_n 0, 1) := by decide +kernel
theorem dX9_bands_11 : decode cX9_bands 11 = .ok (.aload_n 0, 1) := by decide +kernel
theorem dX9_bands_12 : decode cX9_bands 12 = .ok (.getfield 103, 3) := by decide +kernel
theorem dX9_bands_15 : decode cX9_bands 15 = .ok (.invokevirtual 47, 3) := by decide +kernel
theorem dX9_bands_18 : decode cX9_bands 18 = .ok (.ireturn, 1) := by decide +kernel
theorem dX9_row_0 : decode cX9_row 0 = .ok (.aload_n 0, 1) := by decide +kernel
theorem dX9_row_1 : decode cX9_row 1 = .ok (.aload_n 0, 1) := by decide +kernel
theorem dX9_row_2 : decode cX9_row 2 = .ok (.getfield 7, 3) := by decide +kernel
theorem dX9_row_5 : decode cX9_row 5 = .ok (.iconst 0, 1) := by decide +kernel
theorem dX9_row_6 : decode cX9_row 6 = .ok (.iaload, 1) := by decide +kernel
theorem dX9_row_7 : decode cX9_row 7 = .ok (.invokevirtual 124, 3) := by decide +kernel
theorem dX9_row_10 : decode cX9_row 10 = .ok (.iload_n 1, 1) := by decide +kernel
theorem dX9_row_11 : decode cX9_row 11 = .ok (.iconst 0, 1) := by decide +kernel
theorem dX9_row_12 : decode cX9_row 12 = .ok (.aload_n 0, 1) := by decide +kernel
theorem dX9_row_13 : decode cX9_row 13 = .ok (.getfield 103, 3) := by decide +kernel
theorem dX9_row_16 : decode cX9_row 16 = .ok (.iconst 1, 1) := by decide +kernel
theorem dX9_row_17 : decode cX9_row 17 = .ok (.isub, 1) := by decide +kernel
theorem dX9_row_18 : decode cX9_row 18 = .ok (.invokestatic 51, 3) := by decide +kernel
theorem dX9_row_21 : decode cX9_row 21 = .ok (.ifCond .eq 19, 3) := by decide +kernel
theorem dX9_row_24 : decode cX9_row 24 = .ok (.iload_n 2, 1) := by decide +kernel
theorem dX9_row_25 : decode cX9_row 25 = .ok (.iconst 0, 1) := by decide +kernel
theorem dX9_row_26 : decode cX9_row 26 = .ok (.aload_n 0, 1) := by decide +kernel
theorem dX9_row_27 : decode cX9_row 27 = .ok (.getfield 7, 3) := by decide +kernel
theorem dX9_row_30 : decode cX9_row 30 = .ok (.iconst 0, 1) := by decide +kernel
theorem dX9_row_31 : decode cX9_row 31 = .ok (.iaload, 1) := by decide +kernel
theorem dX9_row_32 : decode cX9_row 32 = .ok (.iconst 1, 1) := by decide +kernel
theorem dX9_row_33 : decode cX9_row 33 = .ok (.isub, 1) := by decide +kernel
theorem dX9_row_34 : decode cX9_row 34 = .ok (.invokestatic 51, 3) := by decide +kernel
theorem dX9_row_37 : decode cX9_row 37 = .ok (.ifCond .ne 9, 3) := by decide +kernel
theorem dX9_row_40 : decode cX9_row 40 = .ok (.aload_n 0, 1) := by decide +kernel
theorem dX9_row_41 : decode cX9_row 41 = .ok (.iconst 1, 1) := by decide +kernel
theorem dX9_row_42 : decode cX9_row 42 = .ok (.invokevirtual 63, 3) := by decide +kernel
theorem dX9_row_45 : decode cX9_row 45 = .ok (.ireturn, 1) := by decide +kernel
theorem dX9_row_46 : decode cX9_row 46 = .ok (.aload_n 0, 1) := by decide +kernel
theorem dX9_row_47 : decode cX9_row 47 = .ok (.aload_n 0, 1) := by decide +kernel
theorem dX9_row_48 : decode cX9_row 48 = .ok (.getfield 22, 3) := by decide +kernel
theorem dX9_row_51 : decode cX9_row 51 = .ok (.bipush 20, 2) := by decide +kernel
theorem dX9_row_53 : decode cX9_row 53 = .ok (.iload_n 1, 1) := by decide +kernel
theorem dX9_row_54 : decode cX9_row 54 = .ok (.imul, 1) := by decide +kernel
theorem dX9_row_55 : decode cX9_row 55 = .ok (.iload_n 2, 1) := by decide +kernel
theorem dX9_row_56 : decode cX9_row 56 = .ok (.iadd, 1) := by decide +kernel
theorem dX9_row_57 : decode cX9_row 57 = .ok (.iaload, 1) := by decide +kernel
theorem dX9_row_58 : decode cX9_row 58 = .ok (.invokevirtual 47, 3) := by decide +kernel
theorem dX9_row_61 : decode cX9_row 61 = .ok (.ireturn, 1) := by decide +kernel
theorem dX9_sheets_0 : decode cX9_sheets 0 = .ok (.aload_n 0, 1) := by decide +kernel
theorem dX9_sheets_1 : decode cX9_sheets 1 = .ok (.invokevirtual 155, 3) := by decide +kernel
theorem dX9_sheets_4 : decode cX9_sheets 4 = .ok (.aload_n 0, 1) := by decide +kernel
theorem dX9_sheets_5 : decode cX9_sheets 5 = .ok (.aload_n 0, 1) := by decide +kernel
theorem dX9_sheets_6 : decode cX9_sheets 6 = .ok (.getfield 130, 3) := by decide +kernel
theorem dX9_sheets_9 : decode cX9_sheets 9 = .ok (.invokevirtual 47, 3) := by decide +kernel
theorem dX9_sheets_12 : decode cX9_sheets 12 = .ok (.ireturn, 1) := by decide +kernel
theorem dX9_partsOn_0 : decode cX9_partsOn 0 = .ok (.iconst 0, 1) := by decide +kernel
theorem dX9_partsOn_1 : decode cX9_partsOn 1 = .ok (.istore_n 2, 1) := by decide +kernel
theorem dX9_partsOn_2 : decode cX9_partsOn 2 = .ok (.iconst 0, 1) := by decide +kernel
theorem dX9_partsOn_3 : decode cX9_partsOn 3 = .ok (.istore_n 3, 1) := by decide +kernel
theorem dX9_partsOn_4 : decode cX9_partsOn 4 = .ok (.iload_n 3, 1) := by decide +kernel
theorem dX9_partsOn_5 : decode cX9_partsOn 5 = .ok (.aload_n 0, 1) := by decide +kernel
theorem dX9_partsOn_6 : decode cX9_partsOn 6 = .ok (.getfield 7, 3) := by decide +kernel
theorem dX9_partsOn_9 : decode cX9_partsOn 9 = .ok (.iconst 4, 1) := by decide +kernel
theorem dX9_partsOn_10 : decode cX9_partsOn 10 = .ok (.iaload, 1) := by decide +kernel
theorem dX9_partsOn_11 : decode cX9_partsOn 11 = .ok (.if_icmp .ge 79, 3) := by decide +kernel
theorem dX9_partsOn_14 : decode cX9_partsOn 14 = .ok (.aload_n 0, 1) := by decide +kernel
theorem dX9_partsOn_15 : decode cX9_partsOn 15 = .ok (.getfield 34, 3) := by decide +kernel
theorem dX9_partsOn_18 : decode cX9_partsOn 18 = .ok (.iload_n 1, 1) := by decide +kernel
theorem dX9_partsOn_19 : decode cX9_partsOn 19 = .ok (.iaload, 1) := by decide +kernel
theorem dX9_partsOn_20 : decode cX9_partsOn 20 = .ok (.bipush 52, 2) := by decide +kernel
theorem dX9_partsOn_22 : decode cX9_partsOn 22 = .ok (.irem, 1) := by decide +kernel
theorem dX9_partsOn_23 : decode cX9_partsOn 23 = .ok (.istore 4, 2) := by decide +kernel
theorem dX9_partsOn_25 : decode cX9_partsOn 25 = .ok (.iload_n 2, 1) := by decide +kernel
theorem dX9_partsOn_26 : decode cX9_partsOn 26 = .ok (.aload_n 0, 1) := by decide +kernel
theorem dX9_partsOn_27 : decode cX9_partsOn 27 = .ok (.getfield 25, 3) := by decide +kernel
theorem dX9_partsOn_30 : decode cX9_partsOn 30 = .ok (.iload_n 3, 1) := by decide +kernel
theorem dX9_partsOn_31 : decode cX9_partsOn 31 = .ok (.iaload, 1) := by decide +kernel
theorem dX9_partsOn_32 : decode cX9_partsOn 32 = .ok (.aload_n 0, 1) := by decide +kernel
theorem dX9_partsOn_33 : decode cX9_partsOn 33 = .ok (.getfield 34, 3) := by decide +kernel
theorem dX9_partsOn_36 : decode cX9_partsOn 36 = .ok (.iload_n 1, 1) := by decide +kernel
theorem dX9_partsOn_37 : decode cX9_partsOn 37 = .ok (.iaload, 1) := by decide +kernel
theorem dX9_partsOn_38 : decode cX9_partsOn 38 = .ok (.bipush 52, 2) := by decide +kernel
theorem dX9_partsOn_40 : decode cX9_partsOn 40 = .ok (.idiv, 1) := by decide +kernel
theorem dX9_partsOn_41 : decode cX9_partsOn 41 = .ok (.if_icmp .ne 40, 3) := by decide +kernel
theorem dX9_partsOn_44 : decode cX9_partsOn 44 = .ok (.iload 4, 2) := by decide +kernel
theorem dX9_partsOn_46 : decode cX9_partsOn 46 = .ok (.aload_n 0, 1) := by decide +kernel
theorem dX9_partsOn_47 : decode cX9_partsOn 47 = .ok (.iload_n 3, 1) := by decide +kernel
theorem dX9_partsOn_48 : decode cX9_partsOn 48 = .ok (.iconst 1, 1) := by decide +kernel
theorem dX9_partsOn_49 : decode cX9_partsOn 49 = .ok (.invokevirtual 55, 3) := by decide +kernel
theorem dX9_partsOn_52 : decode cX9_partsOn 52 = .ok (.aload_n 0, 1) := by decide +kernel
theorem dX9_partsOn_53 : decode cX9_partsOn 53 = .ok (.getfield 7, 3) := by decide +kernel
theorem dX9_partsOn_56 : decode cX9_partsOn 56 = .ok (.iconst 1, 1) := by decide +kernel
theorem dX9_partsOn_57 : decode cX9_partsOn 57 = .ok (.iaload, 1) := by decide +kernel
theorem dX9_partsOn_58 : decode cX9_partsOn 58 = .ok (.idiv, 1) := by decide +kernel
theorem dX9_partsOn_59 : decode cX9_partsOn 59 = .ok (.aload_n 0, 1) := by decide +kernel
theorem dX9_partsOn_60 : decode cX9_partsOn 60 = .ok (.iload_n 3, 1) := by decide +kernel
theorem dX9_partsOn_61 : decode cX9_partsOn 61 = .ok (.invokevirtual 127, 3) := by decide +kernel
theorem dX9_partsOn_64 : decode cX9_partsOn 64 = .ok (.aload_n 0, 1) := by decide +kernel
theorem dX9_partsOn_65 : decode cX9_partsOn 65 = .ok (.getfield 7, 3) := by decide +kernel
theorem dX9_partsOn_68 : decode cX9_partsOn 68 = .ok (.iconst 1, 1) := by decide +kernel
theorem dX9_partsOn_69 : decode cX9_partsOn 69 = .ok (.iaload, 1) := by decide +kernel
theorem dX9_partsOn_70 : decode cX9_partsOn 70 = .ok (.idiv, 1) := by decide +kernel
theorem dX9_partsOn_71 : decode cX9_partsOn 71 = .ok (.invokestatic 51, 3) := by decide +kernel
theorem dX9_partsOn_74 : decode cX9_partsOn 74 = .ok (.ifCond .eq 7, 3) := by decide +kernel
theorem dX9_partsOn_77 : decode cX9_partsOn 77 = .ok (.iconst 1, 1) := by decide +kernel
theorem dX9_partsOn_78 : decode cX9_partsOn 78 = .ok (.goto 4, 3) := by decide +kernel
theorem dX9_partsOn_81 : decode cX9_partsOn 81 = .ok (.iconst 0, 1) := by decide +kernel
theorem dX9_partsOn_82 : decode cX9_partsOn 82 = .ok (.iadd, 1) := by decide +kernel
theorem dX9_partsOn_83 : decode cX9_partsOn 83 = .ok (.istore_n 2, 1) := by decide +kernel
theorem dX9_partsOn_84 : decode cX9_partsOn 84 = .ok (.iinc 3 1, 3) := by decide +kernel
theorem dX9_partsOn_87 : decode cX9_partsOn 87 = .ok (.goto (-83), 3) := by decide +kernel
theorem dX9_partsOn_90 : decode cX9_partsOn 90 = .ok (.iload_n 2, 1) := by decide +kernel
theorem dX9_partsOn_91 : decode cX9_partsOn 91 = .ok (.ireturn, 1) := by decide +kernel
theorem dX9_arrowsOn_0 : decode cX9_arrowsOn 0 = .ok (.iconst 0, 1) := by decide +kernel
theorem dX9_arrowsOn_1 : decode cX9_arrowsOn 1 = .ok (.istore_n 3, 1) := by decide +kernel
theorem dX9_arrowsOn_2 : decode cX9_arrowsOn 2 = .ok (.iconst 0, 1) := by decide +kernel
theorem dX9_arrowsOn_3 : decode cX9_arrowsOn 3 = .ok (.istore 4, 2) := by decide +kernel
theorem dX9_arrowsOn_5 : decode cX9_arrowsOn 5 = .ok (.iload 4, 2) := by decide +kernel
theorem dX9_arrowsOn_7 : decode cX9_arrowsOn 7 = .ok (.aload_n 0, 1) := by decide +kernel
theorem dX9_arrowsOn_8 : decode cX9_arrowsOn 8 = .ok (.getfield 7, 3) := by decide +kernel
theorem dX9_arrowsOn_11 : decode cX9_arrowsOn 11 = .ok (.bipush 77, 2) := by decide +kernel
theorem dX9_arrowsOn_13 : decode cX9_arrowsOn 13 = .ok (.iaload, 1) := by decide +kernel
theorem dX9_arrowsOn_14 : decode cX9_arrowsOn 14 = .ok (.if_icmp .ge 77, 3) := by decide +kernel
theorem dX9_arrowsOn_17 : decode cX9_arrowsOn 17 = .ok (.aload_n 0, 1) := by decide +kernel
theorem dX9_arrowsOn_18 : decode cX9_arrowsOn 18 = .ok (.iload 4, 2) := by decide +kernel
theorem dX9_arrowsOn_20 : decode cX9_arrowsOn 20 = .ok (.aload_n 0, 1) := by decide +kernel
theorem dX9_arrowsOn_21 : decode cX9_arrowsOn 21 = .ok (.getfield 7, 3) := by decide +kernel
theorem dX9_arrowsOn_24 : decode cX9_arrowsOn 24 = .ok (.iconst 1, 1) := by decide +kernel
theorem dX9_arrowsOn_25 : decode cX9_arrowsOn 25 = .ok (.iaload, 1) := by decide +kernel
theorem dX9_arrowsOn_26 : decode cX9_arrowsOn 26 = .ok (.invokevirtual 140, 3) := by decide +kernel
theorem dX9_arrowsOn_29 : decode cX9_arrowsOn 29 = .ok (.iload_n 1, 1) := by decide +kernel
theorem dX9_arrowsOn_30 : decode cX9_arrowsOn 30 = .ok (.if_icmp .eq 19, 3) := by decide +kernel
theorem dX9_arrowsOn_33 : decode cX9_arrowsOn 33 = .ok (.aload_n 0, 1) := by decide +kernel
theorem dX9_arrowsOn_34 : decode cX9_arrowsOn 34 = .ok (.iload 4, 2) := by decide +kernel
theorem dX9_arrowsOn_36 : decode cX9_arrowsOn 36 = .ok (.aload_n 0, 1) := by decide +kernel
theorem dX9_arrowsOn_37 : decode cX9_arrowsOn 37 = .ok (.getfield 7, 3) := by decide +kernel
theorem dX9_arrowsOn_40 : decode cX9_arrowsOn 40 = .ok (.iconst 1, 1) := by decide +kernel
theorem dX9_arrowsOn_41 : decode cX9_arrowsOn 41 = .ok (.iaload, 1) := by decide +kernel
theorem dX9_arrowsOn_42 : decode cX9_arrowsOn 42 = .ok (.invokevirtual 143, 3) := by decide +kernel
theorem dX9_arrowsOn_45 : decode cX9_arrowsOn 45 = .ok (.iload_n 1, 1) := by decide +kernel
theorem dX9_arrowsOn_46 : decode cX9_arrowsOn 46 = .ok (.if_icmp .ne 7, 3) := by decide +kernel
theorem dX9_arrowsOn_49 : decode cX9_arrowsOn 49 = .ok (.iconst 1, 1) := by decide +kernel
theorem dX9_arrowsOn_50 : decode cX9_arrowsOn 50 = .ok (.goto 4, 3) := by decide +kernel
theorem dX9_arrowsOn_53 : decode cX9_arrowsOn 53 = .ok (.iconst 0, 1) := by decide +kernel
theorem dX9_arrowsOn_54 : decode cX9_arrowsOn 54 = .ok (.istore 5, 2) := by decide +kernel
theorem dX9_arrowsOn_56 : decode cX9_arrowsOn 56 = .ok (.iload_n 3, 1) := by decide +kernel
theorem dX9_arrowsOn_57 : decode cX9_arrowsOn 57 = .ok (.iload 5, 2) := by decide +kernel
theorem dX9_arrowsOn_59 : decode cX9_arrowsOn 59 = .ok (.ifCond .eq 23, 3) := by decide +kernel
theorem dX9_arrowsOn_62 : decode cX9_arrowsOn 62 = .ok (.aload_n 0, 1) := by decide +kernel
theorem dX9_arrowsOn_63 : decode cX9_arrowsOn 63 = .ok (.iload 4, 2) := by decide +kernel
theorem dX9_arrowsOn_65 : decode cX9_arrowsOn 65 = .ok (.aload_n 0, 1) := by decide +kernel
theorem dX9_arrowsOn_66 : decode cX9_arrowsOn 66 = .ok (.getfield 7, 3) := by decide +kernel
theorem dX9_arrowsOn_69 : decode cX9_arrowsOn 69 = .ok (.iconst 1, 1) := by decide +kernel
theorem dX9_arrowsOn_70 : decode cX9_arrowsOn 70 = .ok (.iaload, 1) := by decide +kernel
theorem dX9_arrowsOn_71 : decode cX9_arrowsOn 71 = .ok (.invokevirtual 146, 3) := by decide +kernel
theorem dX9_arrowsOn_74 : decode cX9_arrowsOn 74 = .ok (.iload_n 2, 1) := by decide +kernel
theorem dX9_arrowsOn_75 : decode cX9_arrowsOn 75 = .ok (.if_icmp .ne 7, 3) := by decide +kernel
theorem dX9_arrowsOn_78 : decode cX9_arrowsOn 78 = .ok (.iconst 1, 1) := by decide +kernel
theorem dX9_arrowsOn_79 : decode cX9_arrowsOn 79 = .ok (.goto 4, 3) := by decide +kernel
theorem dX9_arrowsOn_82 : decode cX9_arrowsOn 82 = .ok (.iconst 0, 1) := by decide +kernel
theorem dX9_arrowsOn_83 : decode cX9_arrowsOn 83 = .ok (.iadd, 1) := by decide +kernel
theorem dX9_arrowsOn_84 : decode cX9_arrowsOn 84 = .ok (.istore_n 3, 1) := by decide +kernel
theorem dX9_arrowsOn_85 : decode cX9_arrowsOn 85 = .ok (.iinc 4 1, 3) := by decide +kernel
theorem dX9_arrowsOn_88 : decode cX9_arrowsOn 88 = .ok (.goto (-83), 3) := by decide +kernel
theorem dX9_arrowsOn_91 : decode cX9_arrowsOn 91 = .ok (.iload_n 3, 1) := by decide +kernel
theorem dX9_arrowsOn_92 : decode cX9_arrowsOn 92 = .ok (.ireturn, 1) := by decide +kernel
theorem dX9_sheetTold_0 : decode cX9_sheetTold 0 = .ok (.iload_n 2, 1) := by decide +kernel
theorem dX9_sheetTold_1 : decode cX9_sheetTold 1 = .ok (.tableswitch 64 0 3 #[31, 41, 51, 57], 31) := by decide +kernel
theorem dX9_sheetTold_32 : decode cX9_sheetTold 32 = .ok (.aload_n 0, 1) := by decide +kernel
theorem dX9_sheetTold_33 : decode cX9_sheetTold 33 = .ok (.getfield 34, 3) := by decide +kernel
theorem dX9_sheetTold_36 : decode cX9_sheetTold 36 = .ok (.iload_n 1, 1) := by decide +kernel
theorem dX9_sheetTold_37 : decode cX9_sheetTold 37 = .ok (.iaload, 1) := by decide +kernel
theorem dX9_sheetTold_38 : decode cX9_sheetTold 38 = .ok (.bipush 52, 2) := by decide +kernel
theorem dX9_sheetTold_40 : decode cX9_sheetTold 40 = .ok (.idiv, 1) := by decide +kernel
theorem dX9_sheetTold_41 : decode cX9_sheetTold 41 = .ok (.ireturn, 1) := by decide +kernel
theorem dX9_sheetTold_42 : decode cX9_sheetTold 42 = .ok (.aload_n 0, 1) := by decide +kernel
theorem dX9_sheetTold_43 : decode cX9_sheetTold 43 = .ok (.getfield 34, 3) := by decide +kernel
theorem dX9_sheetTold_46 : decode cX9_sheetTold 46 = .ok (.iload_n 1, 1) := by decide +kernel
theorem dX9_sheetTold_47 : decode cX9_sheetTold 47 = .ok (.iaload, 1) := by decide +kernel
theorem dX9_sheetTold_48 : decode cX9_sheetTold 48 = .ok (.bipush 52, 2) := by decide +kernel
theorem dX9_sheetTold_50 : decode cX9_sheetTold 50 = .ok (.irem, 1) := by decide +kernel
theorem dX9_sheetTold_51 : decode cX9_sheetTold 51 = .ok (.ireturn, 1) := by decide +kernel
theorem dX9_sheetTold_52 : decode cX9_sheetTold 52 = .ok (.aload_n 0, 1) := by decide +kernel
theorem dX9_sheetTold_53 : decode cX9_sheetTold 53 = .ok (.iload_n 1, 1) := by decide +kernel
theorem dX9_sheetTold_54 : decode cX9_sheetTold 54 = .ok (.invokevirtual 158, 3) := by decide +kernel
theorem dX9_sheetTold_57 : decode cX9_sheetTold 57 = .ok (.ireturn, 1) := by decide +kernel
theorem dX9_sheetTold_58 : decode cX9_sheetTold 58 = .ok (.aload_n 0, 1) := by decide +kernel
theorem dX9_sheetTold_59 : decode cX9_sheetTold 59 = .ok (.iload_n 1, 1) := by decide +kernel
theorem dX9_sheetTold_60 : decode cX9_sheetTold 60 = .ok (.iconst 1, 1) := by decide +kernel
theorem dX9_sheetTold_61 : decode cX9_sheetTold 61 = .ok (.invokevirtual 161, 3) := by decide +kernel
theorem dX9_sheetTold_64 : decode cX9_sheetTold 64 = .ok (.ireturn, 1) := by decide +kernel
theorem dX9_sheetTold_65 : decode cX9_sheetTold 65 = .ok (.aload_n 0, 1) := by decide +kernel
theorem dX9_sheetTold_66 : decode cX9_sheetTold 66 = .ok (.iload_n 1, 1) := by decide +kernel
theorem dX9_sheetTold_67 : decode cX9_sheetTold 67 = .ok (.iconst 0, 1) := by decide +kernel
theorem dX9_sheetTold_68 : decode cX9_sheetTold 68 = .ok (.invokevirtual 161, 3) := by decide +kernel
theorem dX9_sheetTold_71 : decode cX9_sheetTold 71 = .ok (.ireturn, 1) := by decide +kernel
theorem dX9_sheet_0 : decode cX9_sheet 0 = .ok (.aload_n 0, 1) := by decide +kernel
theorem dX9_sheet_1 : decode cX9_sheet 1 = .ok (.invokevirtual 155, 3) := by decide +kernel
theorem dX9_sheet_4 : decode cX9_sheet 4 = .ok (.iload_n 1, 1) := by decide +kernel
theorem dX9_sheet_5 : decode cX9_sheet 5 = .ok (.iconst 0, 1) := by decide +kernel
theorem dX9_sheet_6 : decode cX9_sheet 6 = .ok (.aload_n 0, 1) := by decide +kernel
theorem dX9_sheet_7 : decode cX9_sheet 7 = .ok (.getfield 130, 3) := by decide +kernel
theorem dX9_sheet_10 : decode cX9_sheet 10 = .ok (.iconst 1, 1) := by decide +kernel
theorem dX9_sheet_11 : decode cX9_sheet 11 = .ok (.isub, 1) := by decide +kernel
theorem dX9_sheet_12 : decode cX9_sheet 12 = .ok (.invokestatic 51, 3) := by decide +kernel
theorem dX9_sheet_15 : decode cX9_sheet 15 = .ok (.ifCond .ne 9, 3) := by decide +kernel
theorem dX9_sheet_18 : decode cX9_sheet 18 = .ok (.aload_n 0, 1) := by decide +kernel
theorem dX9_sheet_19 : decode cX9_sheet 19 = .ok (.iconst 1, 1) := by decide +kernel
theorem dX9_sheet_20 : decode cX9_sheet 20 = .ok (.invokevirtual 63, 3) := by decide +kernel
theorem dX9_sheet_23 : decode cX9_sheet 23 = .ok (.ireturn, 1) := by decide +kernel
theorem dX9_sheet_24 : decode cX9_sheet 24 = .ok (.iload_n 2, 1) := by decide +kernel
theorem dX9_sheet_25 : decode cX9_sheet 25 = .ok (.iconst 0, 1) := by decide +kernel
theorem dX9_sheet_26 : decode cX9_sheet 26 = .ok (.iconst 4, 1) := by decide +kernel
theorem dX9_sheet_27 : decode cX9_sheet 27 = .ok (.invokestatic 51, 3) := by decide +kernel
theorem dX9_sheet_30 : decode cX9_sheet 30 = .ok (.ifCond .eq 16, 3) := by decide +kernel
theorem dX9_sheet_33 : decode cX9_sheet 33 = .ok (.aload_n 0, 1) := by decide +kernel
theorem dX9_sheet_34 : decode cX9_sheet 34 = .ok (.aload_n 0, 1) := by decide +kernel
theorem dX9_sheet_35 : decode cX9_sheet 35 = .ok (.iload_n 1, 1) := by decide +kernel
theorem dX9_sheet_36 : decode cX9_sheet 36 = .ok (.iload_n 2, 1) := by decide +kernel
theorem dX9_sheet_37 : decode cX9_sheet 37 = .ok (.invokevirtual 165, 3) := by decide +kernel
theorem dX9_sheet_40 : decode cX9_sheet 40 = .ok (.invokevirtual 47, 3) := by decide +kernel
theorem dX9_sheet_43 : decode cX9_sheet 43 = .ok (.goto 8, 3) := by decide +kernel
theorem dX9_sheet_46 : decode cX9_sheet 46 = .ok (.aload_n 0, 1) := by decide +kernel
theorem dX9_sheet_47 : decode cX9_sheet 47 = .ok (.iconst 2, 1) := by decide +kernel
theorem dX9_sheet_48 : decode cX9_sheet 48 = .ok (.invokevirtual 63, 3) := by decide +kernel
theorem dX9_sheet_51 : decode cX9_sheet 51 = .ok (.ireturn, 1) := by decide +kernel
theorem dX9_sheetAt_0 : decode cX9_sheetAt 0 = .ok (.aload_n 0, 1) := by decide +kernel
theorem dX9_sheetAt_1 : decode cX9_sheetAt 1 = .ok (.invokevirtual 155, 3) := by decide +kernel
theorem dX9_sheetAt_4 : decode cX9_sheetAt 4 = .ok (.iload_n 1, 1) := by decide +kernel
theorem dX9_sheetAt_5 : decode cX9_sheetAt 5 = .ok (.iconst 0, 1) := by decide +kernel
theorem dX9_sheetAt_6 : decode cX9_sheetAt 6 = .ok (.aload_n 0, 1) := by decide +kernel
theorem dX9_sheetAt_7 : decode cX9_sheetAt 7 = .ok (.getfield 103, 3) := by decide +kernel
theorem dX9_sheetAt_10 : decode cX9_sheetAt 10 = .ok (.iconst 1, 1) := by decide +kernel
theorem dX9_sheetAt_11 : decode cX9_sheetAt 11 = .ok (.isub, 1) := by decide +kernel
theorem dX9_sheetAt_12 : decode cX9_sheetAt 12 = .ok (.invokestatic 51, 3) := by decide +kernel
theorem dX9_sheetAt_15 : decode cX9_sheetAt 15 = .ok (.ifCond .ne 9, 3) := by decide +kernel
theorem dX9_sheetAt_18 : decode cX9_sheetAt 18 = .ok (.aload_n 0, 1) := by decide +kernel
theorem dX9_sheetAt_19 : decode cX9_sheetAt 19 = .ok (.iconst 1, 1) := by decide +kernel
theorem dX9_sheetAt_20 : decode cX9_sheetAt 20 = .ok (.invokevirtual 63, 3) := by decide +kernel
theorem dX9_sheetAt_23 : decode cX9_sheetAt 23 = .ok (.ireturn, 1) := by decide +kernel
theorem dX9_sheetAt_24 : decode cX9_sheetAt 24 = .ok (.iload_n 2, 1) := by decide +kernel
theorem dX9_sheetAt_25 : decode cX9_sheetAt 25 = .ok (.ifCond .ge 9, 3) := by decide +kernel
theorem dX9_sheetAt_28 : decode cX9_sheetAt 28 = .ok (.aload_n 0, 1) := by decide +kernel
theorem dX9_sheetAt_29 : decode cX9_sheetAt 29 = .ok (.iconst 2, 1) := by decide +kernel
theorem dX9_sheetAt_30 : decode cX9_sheetAt 30 = .ok (.invokevirtual 63, 3) := by decide +kernel
theorem dX9_sheetAt_33 : decode cX9_sheetAt 33 = .ok (.ireturn, 1) := by decide +kernel
theorem dX9_sheetAt_34 : decode cX9_sheetAt 34 = .ok (.aload_n 0, 1) := by decide +kernel
theorem dX9_sheetAt_35 : decode cX9_sheetAt 35 = .ok (.iload_n 2, 1) := by decide +kernel
theorem dX9_sheetAt_36 : decode cX9_sheetAt 36 = .ok (.bipush 52, 2) := by decide +kernel
theorem dX9_sheetAt_38 : decode cX9_sheetAt 38 = .ok (.if_icmp .ge 17, 3) := by decide +kernel
theorem dX9_sheetAt_41 : decode cX9_sheetAt 41 = .ok (.aload_n 0, 1) := by decide +kernel
theorem dX9_sheetAt_42 : decode cX9_sheetAt 42 = .ok (.getfield 31, 3) := by decide +kernel
theorem dX9_sheetAt_45 : decode cX9_sheetAt 45 = .ok (.bipush 52, 2) := by decide +kernel
theorem dX9_sheetAt_47 : decode cX9_sheetAt 47 = .ok (.iload_n 1, 1) := by decide +kernel
theorem dX9_sheetAt_48 : decode cX9_sheetAt 48 = .ok (.imul, 1) := by decide +kernel
theorem dX9_sheetAt_49 : decode cX9_sheetAt 49 = .ok (.iload_n 2, 1) := by decide +kernel
theorem dX9_sheetAt_50 : decode cX9_sheetAt 50 = .ok (.iadd, 1) := by decide +kernel
theorem dX9_sheetAt_51 : decode cX9_sheetAt 51 = .ok (.iaload, 1) := by decide +kernel
theorem dX9_sheetAt_52 : decode cX9_sheetAt 52 = .ok (.goto 4, 3) := by decide +kernel
theorem dX9_sheetAt_55 : decode cX9_sheetAt 55 = .ok (.iconst (-1), 1) := by decide +kernel
theorem dX9_sheetAt_56 : decode cX9_sheetAt 56 = .ok (.invokevirtual 47, 3) := by decide +kernel
theorem dX9_sheetAt_59 : decode cX9_sheetAt 59 = .ok (.ireturn, 1) := by decide +kernel
theorem dX9_part_0 : decode cX9_part 0 = .ok (.aload_n 0, 1) := by decide +kernel
theorem dX9_part_1 : decode cX9_part 1 = .ok (.iload_n 1, 1) := by decide +kernel
theorem dX9_part_2 : decode cX9_part 2 = .ok (.invokevirtual 82, 3) := by decide +kernel
theorem dX9_part_5 : decode cX9_part 5 = .ok (.ifCond .eq 18, 3) := by decide +kernel
theorem dX9_part_8 : decode cX9_part 8 = .ok (.iload_n 2, 1) := by decide +kernel
theorem dX9_part_9 : decode cX9_part 9 = .ok (.iconst 0, 1) := by decide +kernel
theorem dX9_part_10 : decode cX9_part 10 = .ok (.aload_n 0, 1) := by decide +kernel
theorem dX9_part_11 : decode cX9_part 11 = .ok (.iload_n 1, 1) := by decide +kernel
theorem dX9_part_12 : decode cX9_part 12 = .ok (.invokevirtual 149, 3) := by decide +kernel
theorem dX9_part_15 : decode cX9_part 15 = .ok (.iconst 1, 1) := by decide +kernel
theorem dX9_part_16 : decode cX9_part 16 = .ok (.isub, 1) := by decide +kernel
theorem dX9_part_17 : decode cX9_part 17 = .ok (.invokestatic 51, 3) := by decide +kernel
theorem dX9_part_20 : decode cX9_part 20 = .ok (.ifCond .ne 9, 3) := by decide +kernel
theorem dX9_part_23 : decode cX9_part 23 = .ok (.aload_n 0, 1) := by decide +kernel
theorem dX9_part_24 : decode cX9_part 24 = .ok (.iconst 1, 1) := by decide +kernel
theorem dX9_part_25 : decode cX9_part 25 = .ok (.invokevirtual 63, 3) := by decide +kernel
theorem dX9_part_28 : decode cX9_part 28 = .ok (.ireturn, 1) := by decide +kernel
theorem dX9_part_29 : decode cX9_part 29 = .ok (.aload_n 0, 1) := by decide +kernel
theorem dX9_part_30 : decode cX9_part 30 = .ok (.invokevirtual 155, 3) := by decide +kernel
theorem dX9_part_33 : decode cX9_part 33 = .ok (.aload_n 0, 1) := by decide +kernel
theorem dX9_part_34 : decode cX9_part 34 = .ok (.iload_n 1, 1) := by decide +kernel
theorem dX9_part_35 : decode cX9_part 35 = .ok (.iconst 1, 1) := by decide +kernel
theorem dX9_part_36 : decode cX9_part 36 = .ok (.invokevirtual 55, 3) := by decide +kernel
theorem dX9_part_39 : decode cX9_part 39 = .ok (.aload_n 0, 1) := by decide +kernel
theorem dX9_part_40 : decode cX9_part 40 = .ok (.getfield 7, 3) := by decide +kernel
theorem dX9_part_43 : decode cX9_part 43 = .ok (.iconst 1, 1) := by decide +kernel
theorem dX9_part_44 : decode cX9_part 44 = .ok (.iaload, 1) := by decide +kernel
theorem dX9_part_45 : decode cX9_part 45 = .ok (.idiv, 1) := by decide +kernel
theorem dX9_part_46 : decode cX9_part 46 = .ok (.iload_n 2, 1) := by decide +kernel
theorem dX9_part_47 : decode cX9_part 47 = .ok (.iadd, 1) := by decide +kernel
theorem dX9_part_48 : decode cX9_part 48 = .ok (.istore 4, 2) := by decide +kernel
theorem dX9_part_50 : decode cX9_part 50 = .ok (.iload_n 2, 1) := by decide +kernel
theorem dX9_part_51 : decode cX9_part 51 = .ok (.ifCond .ne 12, 3) := by decide +kernel
theorem dX9_part_54 : decode cX9_part 54 = .ok (.aload_n 0, 1) := by decide +kernel
theorem dX9_part_55 : decode cX9_part 55 = .ok (.iload_n 1, 1) := by decide +kernel
theorem dX9_part_56 : decode cX9_part 56 = .ok (.iconst 1, 1) := by decide +kernel
theorem dX9_part_57 : decode cX9_part 57 = .ok (.invokevirtual 55, 3) := by decide +kernel
theorem dX9_part_60 : decode cX9_part 60 = .ok (.goto 12, 3) := by decide +kernel
theorem dX9_part_63 : decode cX9_part 63 = .ok (.iload 4, 2) := by decide +kernel
theorem dX9_part_65 : decode cX9_part 65 = .ok (.aload_n 0, 1) := by decide +kernel
theorem dX9_part_66 : decode cX9_part 66 = .ok (.getfield 7, 3) := by decide +kernel
theorem dX9_part_69 : decode cX9_part 69 = .ok (.iconst 1, 1) := by decide +kernel
theorem dX9_part_70 : decode cX9_part 70 = .ok (.iaload, 1) := by decide +kernel
theorem dX9_part_71 : decode cX9_part 71 = .ok (.imul, 1) := by decide +kernel
theorem dX9_part_72 : decode cX9_part 72 = .ok (.istore 5, 2) := by decide +kernel
theorem dX9_part_74 : decode cX9_part 74 = .ok (.iload_n 2, 1) := by decide +kernel
theorem dX9_part_75 : decode cX9_part 75 = .ok (.aload_n 0, 1) := by decide +kernel
theorem dX9_part_76 : decode cX9_part 76 = .ok (.iload_n 1, 1) := by decide +kernel
theorem dX9_part_77 : decode cX9_part 77 = .ok (.invokevirtual 149, 3) := by decide +kernel
theorem dX9_part_80 : decode cX9_part 80 = .ok (.iconst 1, 1) := by decide +kernel
theorem dX9_part_81 : decode cX9_part 81 = .ok (.isub, 1) := by decide +kernel
theorem dX9_part_82 : decode cX9_part 82 = .ok (.if_icmp .ne 11, 3) := by decide +kernel
theorem dX9_part_85 : decode cX9_part 85 = .ok (.aload_n 0, 1) := by decide +kernel
theorem dX9_part_86 : decode cX9_part 86 = .ok (.iload_n 1, 1) := by decide +kernel
theorem dX9_part_87 : decode cX9_part 87 = .ok (.invokevirtual 127, 3) := by decide +kernel
theorem dX9_part_90 : decode cX9_part 90 = .ok (.goto 21, 3) := by decide +kernel
theorem dX9_part_93 : decode cX9_part 93 = .ok (.iload 4, 2) := by decide +kernel
theorem dX9_part_95 : decode cX9_part 95 = .ok (.aload_n 0, 1) := by decide +kernel
theorem dX9_part_96 : decode cX9_part 96 = .ok (.getfield 7, 3) := by decide +kernel
theorem dX9_part_99 : decode cX9_part 99 = .ok (.iconst 1, 1) := by decide +kernel
theorem dX9_part_100 : decode cX9_part 100 = .ok (.iaload, 1) := by decide +kernel
theorem dX9_part_101 : decode cX9_part 101 = .ok (.imul, 1) := by decide +kernel
theorem dX9_part_102 : decode cX9_part 102 = .ok (.aload_n 0, 1) := by decide +kernel
theorem dX9_part_103 : decode cX9_part 103 = .ok (.getfield 7, 3) := by decide +kernel
theorem dX9_part_106 : decode cX9_part 106 = .ok (.iconst 1, 1) := by decide +kernel
theorem dX9_part_107 : decode cX9_part 107 = .ok (.iaload, 1) := by decide +kernel
theorem dX9_part_108 : decode cX9_part 108 = .ok (.iadd, 1) := by decide +kernel
theorem dX9_part_109 : decode cX9_part 109 = .ok (.iconst 1, 1) := by decide +kernel
theorem dX9_part_110 : decode cX9_part 110 = .ok (.isub, 1) := by decide +kernel
theorem dX9_part_111 : decode cX9_part 111 = .ok (.istore 6, 2) := by decide +kernel
theorem dX9_part_113 : decode cX9_part 113 = .ok (.bipush 52, 2) := by decide +kernel
theorem dX9_part_115 : decode cX9_part 115 = .ok (.aload_n 0, 1) := by decide +kernel
theorem dX9_part_116 : decode cX9_part 116 = .ok (.getfield 25, 3) := by decide +kernel
theorem dX9_part_119 : decode cX9_part 119 = .ok (.iload_n 1, 1) := by decide +kernel
theorem dX9_part_120 : decode cX9_part 120 = .ok (.iaload, 1) := by decide +kernel
theorem dX9_part_121 : decode cX9_part 121 = .ok (.imul, 1) := by decide +kernel
theorem dX9_part_122 : decode cX9_part 122 = .ok (.iload 4, 2) := by decide +kernel
theorem dX9_part_124 : decode cX9_part 124 = .ok (.iadd, 1) := by decide +kernel
theorem dX9_part_125 : decode cX9_part 125 = .ok (.istore 7, 2) := by decide +kernel
theorem dX9_part_127 : decode cX9_part 127 = .ok (.iload_n 3, 1) := by decide +kernel
theorem dX9_part_128 : decode cX9_part 128 = .ok (.tableswitch 125 0 4 #[36, 48, 62, 74, 96], 36) := by decide +kernel
theorem dX9_part_164 : decode cX9_part 164 = .ok (.aload_n 0, 1) := by decide +kernel
theorem dX9_part_165 : decode cX9_part 165 = .ok (.aload_n 0, 1) := by decide +kernel
theorem dX9_part_166 : decode cX9_part 166 = .ok (.getfield 31, 3) := by decide +kernel
theorem dX9_part_169 : decode cX9_part 169 = .ok (.iload 7, 2) := by decide +kernel
theorem dX9_part_171 : decode cX9_part 171 = .ok (.iaload, 1) := by decide +kernel
theorem dX9_part_172 : decode cX9_part 172 = .ok (.invokevirtual 47, 3) := by decide +kernel
theorem dX9_part_175 : decode cX9_part 175 = .ok (.ireturn, 1) := by decide +kernel
theorem dX9_part_176 : decode cX9_part 176 = .ok (.aload_n 0, 1) := by decide +kernel
theorem dX9_part_177 : decode cX9_part 177 = .ok (.iload 5, 2) := by decide +kernel
theorem dX9_part_179 : decode cX9_part 179 = .ok (.aload_n 0, 1) := by decide +kernel
theorem dX9_part_180 : decode cX9_part 180 = .ok (.getfield 7, 3) := by decide +kernel
theorem dX9_part_183 : decode cX9_part 183 = .ok (.iconst 1, 1) := by decide +kernel
theorem dX9_part_184 : decode cX9_part 184 = .ok (.iaload, 1) := by decide +kernel
theorem dX9_part_185 : decode cX9_part 185 = .ok (.irem, 1) := by decide +kernel
theorem dX9_part_186 : decode cX9_part 186 = .ok (.invokevirtual 47, 3) := by decide +kernel
theorem dX9_part_189 : decode cX9_part 189 = .ok (.ireturn, 1) := by decide +kernel
theorem dX9_part_190 : decode cX9_part 190 = .ok (.aload_n 0, 1) := by decide +kernel
theorem dX9_part_191 : decode cX9_part 191 = .ok (.iload 6, 2) := by decide +kernel
theorem dX9_part_193 : decode cX9_part 193 = .ok (.iload 5, 2) := by decide +kernel
theorem dX9_part_195 : decode cX9_part 195 = .ok (.isub, 1) := by decide +kernel
theorem dX9_part_196 : decode cX9_part 196 = .ok (.iconst 1, 1) := by decide +kernel
theorem dX9_part_197 : decode cX9_part 197 = .ok (.iadd, 1) := by decide +kernel
theorem dX9_part_198 : decode cX9_part 198 = .ok (.invokevirtual 47, 3) := by decide +kernel
theorem dX9_part_201 : decode cX9_part 201 = .ok (.ireturn, 1) := by decide +kernel
theorem dX9_part_202 : decode cX9_part 202 = .ok (.aload_n 0, 1) := by decide +kernel
theorem dX9_part_203 : decode cX9_part 203 = .ok (.iload_n 2, 1) := by decide +kernel
theorem dX9_part_204 : decode cX9_part 204 = .ok (.ifCond .ne 7, 3) := by decide +kernel
theorem dX9_part_207 : decode cX9_part 207 = .ok (.iconst (-1), 1) := by decide +kernel
theorem dX9_part_208 : decode cX9_part 208 = .ok (.goto 12, 3) := by decide +kernel
theorem dX9_part_211 : decode cX9_part 211 = .ok (.aload_n 0, 1) := by decide +kernel
theorem dX9_part_212 : decode cX9_part 212 = .ok (.getfield 31, 3) := by decide +kernel
theorem dX9_part_215 : decode cX9_part 215 = .ok (.iload 7, 2) := by decide +kernel
theorem dX9_part_217 : decode cX9_part 217 = .ok (.iconst 1, 1) := by decide +kernel
theorem dX9_part_218 : decode cX9_part 218 = .ok (.isub, 1) := by decide +kernel
theorem dX9_part_219 : decode cX9_part 219 = .ok (.iaload, 1) := by decide +kernel
theorem dX9_part_220 : decode cX9_part 220 = .ok (.invokevirtual 47, 3) := by decide +kernel
theorem dX9_part_223 : decode cX9_part 223 = .ok (.ireturn, 1) := by decide +kernel
theorem dX9_part_224 : decode cX9_part 224 = .ok (.aload_n 0, 1) := by decide +kernel
theorem dX9_part_225 : decode cX9_part 225 = .ok (.iload_n 2, 1) := by decide +kernel
theorem dX9_part_226 : decode cX9_part 226 = .ok (.aload_n 0, 1) := by decide +kernel
theorem dX9_part_227 : decode cX9_part 227 = .ok (.iload_n 1, 1) := by decide +kernel
theorem dX9_part_228 : decode cX9_part 228 = .ok (.invokevirtual 149, 3) := by decide +kernel
theorem dX9_part_231 : decode cX9_part 231 = .ok (.iconst 1, 1) := by decide +kernel
theorem dX9_part_232 : decode cX9_part 232 = .ok (.isub, 1) := by decide +kernel
theorem dX9_part_233 : decode cX9_part 233 = .ok (.if_icmp .ne 7, 3) := by decide +kernel
theorem dX9_part_236 : decode cX9_part 236 = .ok (.iconst (-1), 1) := by decide +kernel
theorem dX9_part_237 : decode cX9_part 237 = .ok (.goto 12, 3) := by decide +kernel
theorem dX9_part_240 : decode cX9_part 240 = .ok (.aload_n 0, 1) := by decide +kernel
theorem dX9_part_241 : decode cX9_part 241 = .ok (.getfield 31, 3) := by decide +kernel
theorem dX9_part_244 : decode cX9_part 244 = .ok (.iload 7, 2) := by decide +kernel
theorem dX9_part_246 : decode cX9_part 246 = .ok (.iconst 1, 1) := by decide +kernel
theorem dX9_part_247 : decode cX9_part 247 = .ok (.iadd, 1) := by decide +kernel
theorem dX9_part_248 : decode cX9_part 248 = .ok (.iaload, 1) := by decide +kernel
theorem dX9_part_249 : decode cX9_part 249 = .ok (.invokevirtual 47, 3) := by decide +kernel
theorem dX9_part_252 : decode cX9_part 252 = .ok (.ireturn, 1) := by decide +kernel
theorem dX9_part_253 : decode cX9_part 253 = .ok (.aload_n 0, 1) := by decide +kernel
theorem dX9_part_254 : decode cX9_part 254 = .ok (.iconst 2, 1) := by decide +kernel
theorem dX9_part_255 : decode cX9_part 255 = .ok (.invokevirtual 63, 3) := by decide +kernel
theorem dX9_part_258 : decode cX9_part 258 = .ok (.ireturn, 1) := by decide +kernel
theorem dX9_arrowTold_0 : decode cX9_arrowTold 0 = .ok (.iload_n 2, 1) := by decide +kernel
theorem dX9_arrowTold_1 : decode cX9_arrowTold 1 = .ok (.tableswitch 72 0 4 #[35, 35, 42, 54, 66], 35) := by decide +kernel
theorem dX9_arrowTold_36 : decode cX9_arrowTold 36 = .ok (.aload_n 0, 1) := by decide +kernel
theorem dX9_arrowTold_37 : decode cX9_arrowTold 37 = .ok (.iload_n 1, 1) := by decide +kernel
theorem dX9_arrowTold_38 : decode cX9_arrowTold 38 = .ok (.iload_n 2, 1) := by decide +kernel
theorem dX9_arrowTold_39 : decode cX9_arrowTold 39 = .ok (.invokevirtual 86, 3) := by decide +kernel
theorem dX9_arrowTold_42 : decode cX9_arrowTold 42 = .ok (.ireturn, 1) := by decide +kernel
theorem dX9_arrowTold_43 : decode cX9_arrowTold 43 = .ok (.aload_n 0, 1) := by decide +kernel
theorem dX9_arrowTold_44 : decode cX9_arrowTold 44 = .ok (.iload_n 1, 1) := by decide +kernel
theorem dX9_arrowTold_45 : decode cX9_arrowTold 45 = .ok (.aload_n 0, 1) := by decide +kernel
theorem dX9_arrowTold_46 : decode cX9_arrowTold 46 = .ok (.getfield 7, 3) := by decide +kernel
theorem dX9_arrowTold_49 : decode cX9_arrowTold 49 = .ok (.iconst 1, 1) := by decide +kernel
theorem dX9_arrowTold_50 : decode cX9_arrowTold 50 = .ok (.iaload, 1) := by decide +kernel
theorem dX9_arrowTold_51 : decode cX9_arrowTold 51 = .ok (.invokevirtual 140, 3) := by decide +kernel
theorem dX9_arrowTold_54 : decode cX9_arrowTold 54 = .ok (.ireturn, 1) := by decide +kernel
theorem dX9_arrowTold_55 : decode cX9_arrowTold 55 = .ok (.aload_n 0, 1) := by decide +kernel
theorem dX9_arrowTold_56 : decode cX9_arrowTold 56 = .ok (.iload_n 1, 1) := by decide +kernel
theorem dX9_arrowTold_57 : decode cX9_arrowTold 57 = .ok (.aload_n 0, 1) := by decide +kernel
theorem dX9_arrowTold_58 : decode cX9_arrowTold 58 = .ok (.getfield 7, 3) := by decide +kernel
theorem dX9_arrowTold_61 : decode cX9_arrowTold 61 = .ok (.iconst 1, 1) := by decide +kernel
theorem dX9_arrowTold_62 : decode cX9_arrowTold 62 = .ok (.iaload, 1) := by decide +kernel
theorem dX9_arrowTold_63 : decode cX9_arrowTold 63 = .ok (.invokevirtual 143, 3) := by decide +kernel
theorem dX9_arrowTold_66 : decode cX9_arrowTold 66 = .ok (.ireturn, 1) := by decide +kernel
theorem dX9_arrowTold_67 : decode cX9_arrowTold 67 = .ok (.aload_n 0, 1) := by decide +kernel
theorem dX9_arrowTold_68 : decode cX9_arrowTold 68 = .ok (.iload_n 1, 1) := by decide +kernel
theorem dX9_arrowTold_69 : decode cX9_arrowTold 69 = .ok (.invokevirtual 168, 3) := by decide +kernel
theorem dX9_arrowTold_72 : decode cX9_arrowTold 72 = .ok (.ireturn, 1) := by decide +kernel
theorem dX9_arrowTold_73 : decode cX9_arrowTold 73 = .ok (.aload_n 0, 1) := by decide +kernel
theorem dX9_arrowTold_74 : decode cX9_arrowTold 74 = .ok (.iload_n 1, 1) := by decide +kernel
theorem dX9_arrowTold_75 : decode cX9_arrowTold 75 = .ok (.invokevirtual 171, 3) := by decide +kernel
theorem dX9_arrowTold_78 : decode cX9_arrowTold 78 = .ok (.ifCond .eq 7, 3) := by decide +kernel
theorem dX9_arrowTold_81 : decode cX9_arrowTold 81 = .ok (.iconst 1, 1) := by decide +kernel
theorem dX9_arrowTold_82 : decode cX9_arrowTold 82 = .ok (.goto 4, 3) := by decide +kernel
theorem dX9_arrowTold_85 : decode cX9_arrowTold 85 = .ok (.iconst 0, 1) := by decide +kernel
theorem dX9_arrowTold_86 : decode cX9_arrowTold 86 = .ok (.ireturn, 1) := by decide +kernel
theorem dX9_arrow_0 : decode cX9_arrow 0 = .ok (.aload_n 0, 1) := by decide +kernel
theorem dX9_arrow_1 : decode cX9_arrow 1 = .ok (.iload_n 1, 1) := by decide +kernel
theorem dX9_arrow_2 : decode cX9_arrow 2 = .ok (.invokevirtual 100, 3) := by decide +kernel
theorem dX9_arrow_5 : decode cX9_arrow 5 = .ok (.ifCond .ne 9, 3) := by decide +kernel
theorem dX9_arrow_8 : decode cX9_arrow 8 = .ok (.aload_n 0, 1) := by decide +kernel
theorem dX9_arrow_9 : decode cX9_arrow 9 = .ok (.iconst 1, 1) := by decide +kernel
theorem dX9_arrow_10 : decode cX9_arrow 10 = .ok (.invokevirtual 63, 3) := by decide +kernel
theorem dX9_arrow_13 : decode cX9_arrow 13 = .ok (.ireturn, 1) := by decide +kernel
theorem dX9_arrow_14 : decode cX9_arrow 14 = .ok (.iload_n 2, 1) := by decide +kernel
theorem dX9_arrow_15 : decode cX9_arrow 15 = .ok (.iconst 0, 1) := by decide +kernel
theorem dX9_arrow_16 : decode cX9_arrow 16 = .ok (.iconst 5, 1) := by decide +kernel
theorem dX9_arrow_17 : decode cX9_arrow 17 = .ok (.invokestatic 51, 3) := by decide +kernel
theorem dX9_arrow_20 : decode cX9_arrow 20 = .ok (.ifCond .ne 9, 3) := by decide +kernel
theorem dX9_arrow_23 : decode cX9_arrow 23 = .ok (.aload_n 0, 1) := by decide +kernel
theorem dX9_arrow_24 : decode cX9_arrow 24 = .ok (.iconst 2, 1) := by decide +kernel
theorem dX9_arrow_25 : decode cX9_arrow 25 = .ok (.invokevirtual 63, 3) := by decide +kernel
theorem dX9_arrow_28 : decode cX9_arrow 28 = .ok (.ireturn, 1) := by decide +kernel
theorem dX9_arrow_29 : decode cX9_arrow 29 = .ok (.aload_n 0, 1) := by decide +kernel
theorem dX9_arrow_30 : decode cX9_arrow 30 = .ok (.invokevirtual 155, 3) := by decide +kernel
theorem dX9_arrow_33 : decode cX9_arrow 33 = .ok (.aload_n 0, 1) := by decide +kernel
theorem dX9_arrow_34 : decode cX9_arrow 34 = .ok (.aload_n 0, 1) := by decide +kernel
theorem dX9_arrow_35 : decode cX9_arrow 35 = .ok (.iload_n 1, 1) := by decide +kernel
theorem dX9_arrow_36 : decode cX9_arrow 36 = .ok (.iload_n 2, 1) := by decide +kernel
theorem dX9_arrow_37 : decode cX9_arrow 37 = .ok (.invokevirtual 174, 3) := by decide +kernel
theorem dX9_arrow_40 : decode cX9_arrow 40 = .ok (.invokevirtual 47, 3) := by decide +kernel
theorem dX9_arrow_43 : decode cX9_arrow 43 = .ok (.ireturn, 1) := by decide +kernel
theorem dX9_arrowOf_0 : decode cX9_arrowOf 0 = .ok (.aload_n 0, 1) := by decide +kernel
theorem dX9_arrowOf_1 : decode cX9_arrowOf 1 = .ok (.invokevirtual 155, 3) := by decide +kernel
theorem dX9_arrowOf_4 : decode cX9_arrowOf 4 = .ok (.iconst 0, 1) := by decide +kernel
theorem dX9_arrowOf_5 : decode cX9_arrowOf 5 = .ok (.istore_n 2, 1) := by decide +kernel
theorem dX9_arrowOf_6 : decode cX9_arrowOf 6 = .ok (.iload_n 2, 1) := by decide +kernel
theorem dX9_arrowOf_7 : decode cX9_arrowOf 7 = .ok (.aload_n 0, 1) := by decide +kernel
theorem dX9_arrowOf_8 : decode cX9_arrowOf 8 = .ok (.getfield 7, 3) := by decide +kernel
theorem dX9_arrowOf_11 : decode cX9_arrowOf 11 = .ok (.bipush 77, 2) := by decide +kernel
theorem dX9_arrowOf_13 : decode cX9_arrowOf 13 = .ok (.iaload, 1) := by decide +kernel
theorem dX9_arrowOf_14 : decode cX9_arrowOf 14 = .ok (.if_icmp .ge 28, 3) := by decide +kernel
theorem dX9_arrowOf_17 : decode cX9_arrowOf 17 = .ok (.aload_n 0, 1) := by decide +kernel
theorem dX9_arrowOf_18 : decode cX9_arrowOf 18 = .ok (.iload_n 2, 1) := by decide +kernel
theorem dX9_arrowOf_19 : decode cX9_arrowOf 19 = .ok (.invokevirtual 168, 3) := by decide +kernel
theorem dX9_arrowOf_22 : decode cX9_arrowOf 22 = .ok (.iload_n 1, 1) := by decide +kernel
theorem dX9_arrowOf_23 : decode cX9_arrowOf 23 = .ok (.if_icmp .ne 13, 3) := by decide +kernel
theorem dX9_arrowOf_26 : decode cX9_arrowOf 26 = .ok (.iload_n 1, 1) := by decide +kernel
theorem dX9_arrowOf_27 : decode cX9_arrowOf 27 = .ok (.ifCond .le 9, 3) := by decide +kernel
theorem dX9_arrowOf_30 : decode cX9_arrowOf 30 = .ok (.aload_n 0, 1) := by decide +kernel
theorem dX9_arrowOf_31 : decode cX9_arrowOf 31 = .ok (.iload_n 2, 1) := by decide +kernel
theorem dX9_arrowOf_32 : decode cX9_arrowOf 32 = .ok (.invokevirtual 47, 3) := by decide +kernel
theorem dX9_arrowOf_35 : decode cX9_arrowOf 35 = .ok (.ireturn, 1) := by decide +kernel
theorem dX9_arrowOf_36 : decode cX9_arrowOf 36 = .ok (.iinc 2 1, 3) := by decide +kernel
theorem dX9_arrowOf_39 : decode cX9_arrowOf 39 = .ok (.goto (-33), 3) := by decide +kernel
theorem dX9_arrowOf_42 : decode cX9_arrowOf 42 = .ok (.aload_n 0, 1) := by decide +kernel
theorem dX9_arrowOf_43 : decode cX9_arrowOf 43 = .ok (.iconst 1, 1) := by decide +kernel
theorem dX9_arrowOf_44 : decode cX9_arrowOf 44 = .ok (.invokevirtual 63, 3) := by decide +kernel
theorem dX9_arrowOf_47 : decode cX9_arrowOf 47 = .ok (.ireturn, 1) := by decide +kernel
theorem dX9_taskAt_0 : decode cX9_taskAt 0 = .ok (.aload_n 0, 1) := by decide +kernel
theorem dX9_taskAt_1 : decode cX9_taskAt 1 = .ok (.invokevirtual 155, 3) := by decide +kernel
theorem dX9_taskAt_4 : decode cX9_taskAt 4 = .ok (.iload_n 1, 1) := by decide +kernel
theorem dX9_taskAt_5 : decode cX9_taskAt 5 = .ok (.iconst 0, 1) := by decide +kernel
theorem dX9_taskAt_6 : decode cX9_taskAt 6 = .ok (.aload_n 0, 1) := by decide +kernel
theorem dX9_taskAt_7 : decode cX9_taskAt 7 = .ok (.getfield 130, 3) := by decide +kernel
theorem dX9_taskAt_10 : decode cX9_taskAt 10 = .ok (.iconst 1, 1) := by decide +kernel
theorem dX9_taskAt_11 : decode cX9_taskAt 11 = .ok (.isub, 1) := by decide +kernel
theorem dX9_taskAt_12 : decode cX9_taskAt 12 = .ok (.invokestatic 51, 3) := by decide +kernel
theorem dX9_taskAt_15 : decode cX9_taskAt 15 = .ok (.ifCond .eq 35, 3) := by decide +kernel
theorem dX9_taskAt_18 : decode cX9_taskAt 18 = .ok (.iload_n 2, 1) := by decide +kernel
theorem dX9_taskAt_19 : decode cX9_taskAt 19 = .ok (.iconst 0, 1) := by decide +kernel
theorem dX9_taskAt_20 : decode cX9_taskAt 20 = .ok (.aload_n 0, 1) := by decide +kernel
theorem dX9_taskAt_21 : decode cX9_taskAt 21 = .ok (.getfield 7, 3) := by decide +kernel
theorem dX9_taskAt_24 : decode cX9_taskAt 24 = .ok (.iconst 0, 1) := by decide +kernel
theorem dX9_taskAt_25 : decode cX9_taskAt 25 = .ok (.iaload, 1) := by decide +kernel
theorem dX9_taskAt_26 : decode cX9_taskAt 26 = .ok (.iconst 1, 1) := by decide +kernel
theorem dX9_taskAt_27 : decode cX9_taskAt 27 = .ok (.isub, 1) := by decide +kernel
theorem dX9_taskAt_28 : decode cX9_taskAt 28 = .ok (.invokestatic 51, 3) := by decide +kernel
theorem dX9_taskAt_31 : decode cX9_taskAt 31 = .ok (.ifCond .eq 19, 3) := by decide +kernel
theorem dX9_taskAt_34 : decode cX9_taskAt 34 = .ok (.iload_n 3, 1) := by decide +kernel
theorem dX9_taskAt_35 : decode cX9_taskAt 35 = .ok (.iconst 0, 1) := by decide +kernel
theorem dX9_taskAt_36 : decode cX9_taskAt 36 = .ok (.aload_n 0, 1) := by decide +kernel
theorem dX9_taskAt_37 : decode cX9_taskAt 37 = .ok (.getfield 7, 3) := by decide +kernel
theorem dX9_taskAt_40 : decode cX9_taskAt 40 = .ok (.iconst 1, 1) := by decide +kernel
theorem dX9_taskAt_41 : decode cX9_taskAt 41 = .ok (.iaload, 1) := by decide +kernel
theorem dX9_taskAt_42 : decode cX9_taskAt 42 = .ok (.iconst 1, 1) := by decide +kernel
theorem dX9_taskAt_43 : decode cX9_taskAt 43 = .ok (.isub, 1) := by decide +kernel
theorem dX9_taskAt_44 : decode cX9_taskAt 44 = .ok (.invokestatic 51, 3) := by decide +kernel
theorem dX9_taskAt_47 : decode cX9_taskAt 47 = .ok (.ifCond .ne 9, 3) := by decide +kernel
theorem dX9_taskAt_50 : decode cX9_taskAt 50 = .ok (.aload_n 0, 1) := by decide +kernel
theorem dX9_taskAt_51 : decode cX9_taskAt 51 = .ok (.iconst 1, 1) := by decide +kernel
theorem dX9_taskAt_52 : decode cX9_taskAt 52 = .ok (.invokevirtual 63, 3) := by decide +kernel
theorem dX9_taskAt_55 : decode cX9_taskAt 55 = .ok (.ireturn, 1) := by decide +kernel
theorem dX9_taskAt_56 : decode cX9_taskAt 56 = .ok (.aload_n 0, 1) := by decide +kernel
theorem dX9_taskAt_57 : decode cX9_taskAt 57 = .ok (.getfield 22, 3) := by decide +kernel
theorem dX9_taskAt_60 : decode cX9_taskAt 60 = .ok (.bipush 20, 2) := by decide +kernel
theorem dX9_taskAt_62 : decode cX9_taskAt 62 = .ok (.aload_n 0, 1) := by decide +kernel
theorem dX9_taskAt_63 : decode cX9_taskAt 63 = .ok (.getfield 34, 3) := by decide +kernel
theorem dX9_taskAt_66 : decode cX9_taskAt 66 = .ok (.iload_n 1, 1) := by decide +kernel
theorem dX9_taskAt_67 : decode cX9_taskAt 67 = .ok (.iaload, 1) := by decide +kernel
theorem dX9_taskAt_68 : decode cX9_taskAt 68 = .ok (.bipush 52, 2) := by decide +kernel
theorem dX9_taskAt_70 : decode cX9_taskAt 70 = .ok (.idiv, 1) := by decide +kernel
theorem dX9_taskAt_71 : decode cX9_taskAt 71 = .ok (.imul, 1) := by decide +kernel
theorem dX9_taskAt_72 : decode cX9_taskAt 72 = .ok (.iload_n 2, 1) := by decide +kernel
theorem dX9_taskAt_73 : decode cX9_taskAt 73 = .ok (.iadd, 1) := by decide +kernel
theorem dX9_taskAt_74 : decode cX9_taskAt 74 = .ok (.iaload, 1) := by decide +kernel
theorem dX9_taskAt_75 : decode cX9_taskAt 75 = .ok (.istore 4, 2) := by decide +kernel
theorem dX9_taskAt_77 : decode cX9_taskAt 77 = .ok (.aload_n 0, 1) := by decide +kernel
theorem dX9_taskAt_78 : decode cX9_taskAt 78 = .ok (.getfield 34, 3) := by decide +kernel
theorem dX9_taskAt_81 : decode cX9_taskAt 81 = .ok (.iload_n 1, 1) := by decide +kernel
theorem dX9_taskAt_82 : decode cX9_taskAt 82 = .ok (.iaload, 1) := by decide +kernel
theorem dX9_taskAt_83 : decode cX9_taskAt 83 = .ok (.bipush 52, 2) := by decide +kernel
theorem dX9_taskAt_85 : decode cX9_taskAt 85 = .ok (.irem, 1) := by decide +kernel
theorem dX9_taskAt_86 : decode cX9_taskAt 86 = .ok (.aload_n 0, 1) := by decide +kernel
theorem dX9_taskAt_87 : decode cX9_taskAt 87 = .ok (.getfield 7, 3) := by decide +kernel
theorem dX9_taskAt_90 : decode cX9_taskAt 90 = .ok (.iconst 1, 1) := by decide +kernel
theorem dX9_taskAt_91 : decode cX9_taskAt 91 = .ok (.iaload, 1) := by decide +kernel
theorem dX9_taskAt_92 : decode cX9_taskAt 92 = .ok (.imul, 1) := by decide +kernel
theorem dX9_taskAt_93 : decode cX9_taskAt 93 = .ok (.iload_n 3, 1) := by decide +kernel
theorem dX9_taskAt_94 : decode cX9_taskAt 94 = .ok (.iadd, 1) := by decide +kernel
theorem dX9_taskAt_95 : decode cX9_taskAt 95 = .ok (.istore 5, 2) := by decide +kernel
theorem dX9_taskAt_97 : decode cX9_taskAt 97 = .ok (.aload_n 0, 1) := by decide +kernel
theorem dX9_taskAt_98 : decode cX9_taskAt 98 = .ok (.iload 4, 2) := by decide +kernel
theorem dX9_taskAt_100 : decode cX9_taskAt 100 = .ok (.invokevirtual 82, 3) := by decide +kernel
theorem dX9_taskAt_103 : decode cX9_taskAt 103 = .ok (.ifCond .eq 28, 3) := by decide +kernel
theorem dX9_taskAt_106 : decode cX9_taskAt 106 = .ok (.iload 5, 2) := by decide +kernel
theorem dX9_taskAt_108 : decode cX9_taskAt 108 = .ok (.aload_n 0, 1) := by decide +kernel
theorem dX9_taskAt_109 : decode cX9_taskAt 109 = .ok (.iload 4, 2) := by decide +kernel
theorem dX9_taskAt_111 : decode cX9_taskAt 111 = .ok (.iconst 1, 1) := by decide +kernel
theorem dX9_taskAt_112 : decode cX9_taskAt 112 = .ok (.invokevirtual 55, 3) := by decide +kernel
theorem dX9_taskAt_115 : decode cX9_taskAt 115 = .ok (.aload_n 0, 1) := by decide +kernel
theorem dX9_taskAt_116 : decode cX9_taskAt 116 = .ok (.iload 4, 2) := by decide +kernel
theorem dX9_taskAt_118 : decode cX9_taskAt 118 = .ok (.invokevirtual 127, 3) := by decide +kernel
theorem dX9_taskAt_121 : decode cX9_taskAt 121 = .ok (.invokestatic 51, 3) := by decide +kernel
theorem dX9_taskAt_124 : decode cX9_taskAt 124 = .ok (.ifCond .eq 7, 3) := by decide +kernel
theorem dX9_taskAt_127 : decode cX9_taskAt 127 = .ok (.iconst 1, 1) := by decide +kernel
theorem dX9_taskAt_128 : decode cX9_taskAt 128 = .ok (.goto 4, 3) := by decide +kernel
theorem dX9_taskAt_131 : decode cX9_taskAt 131 = .ok (.iconst 0, 1) := by decide +kernel
theorem dX9_taskAt_132 : decode cX9_taskAt 132 = .ok (.istore 6, 2) := by decide +kernel
theorem dX9_taskAt_134 : decode cX9_taskAt 134 = .ok (.aload_n 0, 1) := by decide +kernel
theorem dX9_taskAt_135 : decode cX9_taskAt 135 = .ok (.iload 6, 2) := by decide +kernel
theorem dX9_taskAt_137 : decode cX9_taskAt 137 = .ok (.ifCond .eq 8, 3) := by decide +kernel
theorem dX9_taskAt_140 : decode cX9_taskAt 140 = .ok (.iload 4, 2) := by decide +kernel
theorem dX9_taskAt_142 : decode cX9_taskAt 142 = .ok (.goto 4, 3) := by decide +kernel
theorem dX9_taskAt_145 : decode cX9_taskAt 145 = .ok (.iconst (-1), 1) := by decide +kernel
theorem dX9_taskAt_146 : decode cX9_taskAt 146 = .ok (.invokevirtual 47, 3) := by decide +kernel
theorem dX9_taskAt_149 : decode cX9_taskAt 149 = .ok (.ireturn, 1) := by decide +kernel
theorem dX9_covered_0 : decode cX9_covered 0 = .ok (.aload_n 0, 1) := by decide +kernel
theorem dX9_covered_1 : decode cX9_covered 1 = .ok (.invokevirtual 155, 3) := by decide +kernel
theorem dX9_covered_4 : decode cX9_covered 4 = .ok (.aload_n 0, 1) := by decide +kernel
theorem dX9_covered_5 : decode cX9_covered 5 = .ok (.iconst 0, 1) := by decide +kernel
theorem dX9_covered_6 : decode cX9_covered 6 = .ok (.putfield 40, 3) := by decide +kernel
theorem dX9_covered_9 : decode cX9_covered 9 = .ok (.iconst 0, 1) := by decide +kernel
theorem dX9_covered_10 : decode cX9_covered 10 = .ok (.istore_n 1, 1) := by decide +kernel
theorem dX9_covered_11 : decode cX9_covered 11 = .ok (.iconst 0, 1) := by decide +kernel
theorem dX9_covered_12 : decode cX9_covered 12 = .ok (.istore_n 2, 1) := by decide +kernel
theorem dX9_covered_13 : decode cX9_covered 13 = .ok (.iload_n 2, 1) := by decide +kernel
theorem dX9_covered_14 : decode cX9_covered 14 = .ok (.aload_n 0, 1) := by decide +kernel
theorem dX9_covered_15 : decode cX9_covered 15 = .ok (.getfield 7, 3) := by decide +kernel
theorem dX9_covered_18 : decode cX9_covered 18 = .ok (.iconst 4, 1) := by decide +kernel
theorem dX9_covered_19 : decode cX9_covered 19 = .ok (.iaload, 1) := by decide +kernel
theorem dX9_covered_20 : decode cX9_covered 20 = .ok (.if_icmp .ge 18, 3) := by decide +kernel
theorem dX9_covered_23 : decode cX9_covered 23 = .ok (.iload_n 1, 1) := by decide +kernel
theorem dX9_covered_24 : decode cX9_covered 24 = .ok (.aload_n 0, 1) := by decide +kernel
theorem dX9_covered_25 : decode cX9_covered 25 = .ok (.iload_n 2, 1) := by decide +kernel
theorem dX9_covered_26 : decode cX9_covered 26 = .ok (.iconst 2, 1) := by decide +kernel
theorem dX9_covered_27 : decode cX9_covered 27 = .ok (.invokevirtual 55, 3) := by decide +kernel
theorem dX9_covered_30 : decode cX9_covered 30 = .ok (.iadd, 1) := by decide +kernel
theorem dX9_covered_31 : decode cX9_covered 31 = .ok (.istore_n 1, 1) := by decide +kernel
theorem dX9_covered_32 : decode cX9_covered 32 = .ok (.iinc 2 1, 3) := by decide +kernel
theorem dX9_covered_35 : decode cX9_covered 35 = .ok (.goto (-22), 3) := by decide +kernel
theorem dX9_covered_38 : decode cX9_covered 38 = .ok (.aload_n 0, 1) := by decide +kernel
theorem dX9_covered_39 : decode cX9_covered 39 = .ok (.getfield 130, 3) := by decide +kernel
theorem dX9_covered_42 : decode cX9_covered 42 = .ok (.ifCond .ne 7, 3) := by decide +kernel
theorem dX9_covered_45 : decode cX9_covered 45 = .ok (.dconst 0, 1) := by decide +kernel
theorem dX9_covered_46 : decode cX9_covered 46 = .ok (.goto 25, 3) := by decide +kernel
theorem dX9_covered_49 : decode cX9_covered 49 = .ok (.iload_n 1, 1) := by decide +kernel
theorem dX9_covered_50 : decode cX9_covered 50 = .ok (.i2d, 1) := by decide +kernel
theorem dX9_covered_51 : decode cX9_covered 51 = .ok (.aload_n 0, 1) := by decide +kernel
theorem dX9_covered_52 : decode cX9_covered 52 = .ok (.getfield 7, 3) := by decide +kernel
theorem dX9_covered_55 : decode cX9_covered 55 = .ok (.iconst 0, 1) := by decide +kernel
theorem dX9_covered_56 : decode cX9_covered 56 = .ok (.iaload, 1) := by decide +kernel
theorem dX9_covered_57 : decode cX9_covered 57 = .ok (.aload_n 0, 1) := by decide +kernel
theorem dX9_covered_58 : decode cX9_covered 58 = .ok (.getfield 7, 3) := by decide +kernel
theorem dX9_covered_61 : decode cX9_covered 61 = .ok (.iconst 1, 1) := by decide +kernel
theorem dX9_covered_62 : decode cX9_covered 62 = .ok (.iaload, 1) := by decide +kernel
theorem dX9_covered_63 : decode cX9_covered 63 = .ok (.imul, 1) := by decide +kernel
theorem dX9_covered_64 : decode cX9_covered 64 = .ok (.aload_n 0, 1) := by decide +kernel
theorem dX9_covered_65 : decode cX9_covered 65 = .ok (.getfield 130, 3) := by decide +kernel
theorem dX9_covered_68 : decode cX9_covered 68 = .ok (.imul, 1) := by decide +kernel
theorem dX9_covered_69 : decode cX9_covered 69 = .ok (.i2d, 1) := by decide +kernel
theorem dX9_covered_70 : decode cX9_covered 70 = .ok (.ddiv, 1) := by decide +kernel
theorem dX9_covered_71 : decode cX9_covered 71 = .ok (.dreturn, 1) := by decide +kernel
theorem dX9_sheetsWith_0 : decode cX9_sheetsWith 0 = .ok (.iconst 0, 1) := by decide +kernel
theorem dX9_sheetsWith_1 : decode cX9_sheetsWith 1 = .ok (.iload_n 1, 1) := by decide +kernel
theorem dX9_sheetsWith_2 : decode cX9_sheetsWith 2 = .ok (.invokestatic 59, 3) := by decide +kernel
theorem dX9_sheetsWith_5 : decode cX9_sheetsWith 5 = .ok (.ifCond .eq 11, 3) := by decide +kernel
theorem dX9_sheetsWith_8 : decode cX9_sheetsWith 8 = .ok (.iconst 1, 1) := by decide +kernel
theorem dX9_sheetsWith_9 : decode cX9_sheetsWith 9 = .ok (.iload_n 2, 1) := by decide +kernel
theorem dX9_sheetsWith_10 : decode cX9_sheetsWith 10 = .ok (.invokestatic 59, 3) := by decide +kernel
theorem dX9_sheetsWith_13 : decode cX9_sheetsWith 13 = .ok (.ifCond .ne 9, 3) := by decide +kernel
theorem dX9_sheetsWith_16 : decode cX9_sheetsWith 16 = .ok (.aload_n 0, 1) := by decide +kernel
theorem dX9_sheetsWith_17 : decode cX9_sheetsWith 17 = .ok (.iconst 1, 1) := by decide +kernel
theorem dX9_sheetsWith_18 : decode cX9_sheetsWith 18 = .ok (.invokevirtual 63, 3) := by decide +kernel
theorem dX9_sheetsWith_21 : decode cX9_sheetsWith 21 = .ok (.ireturn, 1) := by decide +kernel
theorem dX9_sheetsWith_22 : decode cX9_sheetsWith 22 = .ok (.aload_n 0, 1) := by decide +kernel
theorem dX9_sheetsWith_23 : decode cX9_sheetsWith 23 = .ok (.iload_n 1, 1) := by decide +kernel
theorem dX9_sheetsWith_24 : decode cX9_sheetsWith 24 = .ok (.iload_n 2, 1) := by decide +kernel
theorem dX9_sheetsWith_25 : decode cX9_sheetsWith 25 = .ok (.invokevirtual 133, 3) := by decide +kernel
theorem dX9_sheetsWith_28 : decode cX9_sheetsWith 28 = .ok (.aload_n 0, 1) := by decide +kernel
theorem dX9_sheetsWith_29 : decode cX9_sheetsWith 29 = .ok (.aload_n 0, 1) := by decide +kernel
theorem dX9_sheetsWith_30 : decode cX9_sheetsWith 30 = .ok (.getfield 130, 3) := by decide +kernel
theorem dX9_sheetsWith_33 : decode cX9_sheetsWith 33 = .ok (.invokevirtual 47, 3) := by decide +kernel
theorem dX9_sheetsWith_36 : decode cX9_sheetsWith 36 = .ok (.ireturn, 1) := by decide +kernel
theorem dX9_fewestExits_0 : decode cX9_fewestExits 0 = .ok (.iconst (-1), 1) := by decide +kernel
theorem dX9_fewestExits_1 : decode cX9_fewestExits 1 = .ok (.istore_n 1, 1) := by decide +kernel
theorem dX9_fewestExits_2 : decode cX9_fewestExits 2 = .ok (.iconst 0, 1) := by decide +kernel
theorem dX9_fewestExits_3 : decode cX9_fewestExits 3 = .ok (.istore_n 2, 1) := by decide +kernel
theorem dX9_fewestExits_4 : decode cX9_fewestExits 4 = .ok (.iconst 5, 1) := by decide +kernel
theorem dX9_fewestExits_5 : decode cX9_fewestExits 5 = .ok (.istore_n 3, 1) := by decide +kernel
theorem dX9_fewestExits_6 : decode cX9_fewestExits 6 = .ok (.iload_n 3, 1) := by decide +kernel
theorem dX9_fewestExits_7 : decode cX9_fewestExits 7 = .ok (.bipush 60, 2) := by decide +kernel
theorem dX9_fewestExits_9 : decode cX9_fewestExits 9 = .ok (.if_icmp .gt 105, 3) := by decide +kernel
theorem dX9_fewestExits_12 : decode cX9_fewestExits 12 = .ok (.aload_n 0, 1) := by decide +kernel
theorem dX9_fewestExits_13 : decode cX9_fewestExits 13 = .ok (.aload_n 0, 1) := by decide +kernel
theorem dX9_fewestExits_14 : decode cX9_fewestExits 14 = .ok (.getfield 7, 3) := by decide +kernel
theorem dX9_fewestExits_17 : decode cX9_fewestExits 17 = .ok (.iconst 0, 1) := by decide +kernel
theorem dX9_fewestExits_18 : decode cX9_fewestExits 18 = .ok (.iaload, 1) := by decide +kernel
theorem dX9_fewestExits_19 : decode cX9_fewestExits 19 = .ok (.iload_n 3, 1) := by decide +kernel
theorem dX9_fewestExits_20 : decode cX9_fewestExits 20 = .ok (.invokevirtual 133, 3) := by decide +kernel
theorem dX9_fewestExits_23 : decode cX9_fewestExits 23 = .ok (.iconst 0, 1) := by decide +kernel
theorem dX9_fewestExits_24 : decode cX9_fewestExits 24 = .ok (.istore 4, 2) := by decide +kernel
theorem dX9_fewestExits_26 : decode cX9_fewestExits 26 = .ok (.iconst 0, 1) := by decide +kernel
theorem dX9_fewestExits_27 : decode cX9_fewestExits 27 = .ok (.istore 5, 2) := by decide +kernel
theorem dX9_fewestExits_29 : decode cX9_fewestExits 29 = .ok (.iload 5, 2) := by decide +kernel
theorem dX9_fewestExits_31 : decode cX9_fewestExits 31 = .ok (.aload_n 0, 1) := by decide +kernel
theorem dX9_fewestExits_32 : decode cX9_fewestExits 32 = .ok (.getfield 7, 3) := by decide +kernel
theorem dX9_fewestExits_35 : decode cX9_fewestExits 35 = .ok (.bipush 77, 2) := by decide +kernel
theorem dX9_fewestExits_37 : decode cX9_fewestExits 37 = .ok (.iaload, 1) := by decide +kernel
theorem dX9_fewestExits_38 : decode cX9_fewestExits 38 = .ok (.if_icmp .ge 29, 3) := by decide +kernel
theorem dX9_fewestExits_41 : decode cX9_fewestExits 41 = .ok (.iload 4, 2) := by decide +kernel
theorem dX9_fewestExits_43 : decode cX9_fewestExits 43 = .ok (.aload_n 0, 1) := by decide +kernel
theorem dX9_fewestExits_44 : decode cX9_fewestExits 44 = .ok (.iload 5, 2) := by decide +kernel
theorem dX9_fewestExits_46 : decode cX9_fewestExits 46 = .ok (.iload_n 3, 1) := by decide +kernel
theorem dX9_fewestExits_47 : decode cX9_fewestExits 47 = .ok (.invokevirtual 146, 3) := by decide +kernel
theorem dX9_fewestExits_50 : decode cX9_fewestExits 50 = .ok (.ifCond .eq 7, 3) := by decide +kernel
theorem dX9_fewestExits_53 : decode cX9_fewestExits 53 = .ok (.iconst 1, 1) := by decide +kernel
theorem dX9_fewestExits_54 : decode cX9_fewestExits 54 = .ok (.goto 4, 3) := by decide +kernel
theorem dX9_fewestExits_57 : decode cX9_fewestExits 57 = .ok (.iconst 0, 1) := by decide +kernel
theorem dX9_fewestExits_58 : decode cX9_fewestExits 58 = .ok (.iadd, 1) := by decide +kernel
theorem dX9_fewestExits_59 : decode cX9_fewestExits 59 = .ok (.istore 4, 2) := by decide +kernel
theorem dX9_fewestExits_61 : decode cX9_fewestExits 61 = .ok (.iinc 5 1, 3) := by decide +kernel
theorem dX9_fewestExits_64 : decode cX9_fewestExits 64 = .ok (.goto (-35), 3) := by decide +kernel
theorem dX9_fewestExits_67 : decode cX9_fewestExits 67 = .ok (.iload_n 1, 1) := by decide +kernel
theorem dX9_fewestExits_68 : decode cX9_fewestExits 68 = .ok (.iconst (-1), 1) := by decide +kernel
theorem dX9_fewestExits_69 : decode cX9_fewestExits 69 = .ok (.if_icmp .eq 9, 3) := by decide +kernel
theorem dX9_fewestExits_72 : decode cX9_fewestExits 72 = .ok (.iload 4, 2) := by decide +kernel
theorem dX9_fewestExits_74 : decode cX9_fewestExits 74 = .ok (.iload_n 2, 1) := by decide +kernel
theorem dX9_fewestExits_75 : decode cX9_fewestExits 75 = .ok (.if_icmp .ge 7, 3) := by decide +kernel
theorem dX9_fewestExits_78 : decode cX9_fewestExits 78 = .ok (.iconst 1, 1) := by decide +kernel
theorem dX9_fewestExits_79 : decode cX9_fewestExits 79 = .ok (.goto 4, 3) := by decide +kernel
theorem dX9_fewestExits_82 : decode cX9_fewestExits 82 = .ok (.iconst 0, 1) := by decide +kernel
theorem dX9_fewestExits_83 : decode cX9_fewestExits 83 = .ok (.istore 5, 2) := by decide +kernel
theorem dX9_fewestExits_85 : decode cX9_fewestExits 85 = .ok (.iload 5, 2) := by decide +kernel
theorem dX9_fewestExits_87 : decode cX9_fewestExits 87 = .ok (.ifCond .eq 7, 3) := by decide +kernel
theorem dX9_fewestExits_90 : decode cX9_fewestExits 90 = .ok (.iload_n 3, 1) := by decide +kernel
theorem dX9_fewestExits_91 : decode cX9_fewestExits 91 = .ok (.goto 4, 3) := by decide +kernel
theorem dX9_fewestExits_94 : decode cX9_fewestExits 94 = .ok (.iload_n 1, 1) := by decide +kernel
theorem dX9_fewestExits_95 : decode cX9_fewestExits 95 = .ok (.istore_n 1, 1) := by decide +kernel
theorem dX9_fewestExits_96 : decode cX9_fewestExits 96 = .ok (.iload 5, 2) := by decide +kernel
theorem dX9_fewestExits_98 : decode cX9_fewestExits 98 = .ok (.ifCond .eq 8, 3) := by decide +kernel
theorem dX9_fewestExits_101 : decode cX9_fewestExits 101 = .ok (.iload 4, 2) := by decide +kernel
theorem dX9_fewestExits_103 : decode cX9_fewestExits 103 = .ok (.goto 4, 3) := by decide +kernel
theorem dX9_fewestExits_106 : decode cX9_fewestExits 106 = .ok (.iload_n 2, 1) := by decide +kernel
theorem dX9_fewestExits_107 : decode cX9_fewestExits 107 = .ok (.istore_n 2, 1) := by decide +kernel
theorem dX9_fewestExits_108 : decode cX9_fewestExits 108 = .ok (.iinc 3 1, 3) := by decide +kernel
theorem dX9_fewestExits_111 : decode cX9_fewestExits 111 = .ok (.goto (-105), 3) := by decide +kernel
theorem dX9_fewestExits_114 : decode cX9_fewestExits 114 = .ok (.aload_n 0, 1) := by decide +kernel
theorem dX9_fewestExits_115 : decode cX9_fewestExits 115 = .ok (.iload_n 1, 1) := by decide +kernel
theorem dX9_fewestExits_116 : decode cX9_fewestExits 116 = .ok (.invokevirtual 47, 3) := by decide +kernel
theorem dX9_fewestExits_119 : decode cX9_fewestExits 119 = .ok (.ireturn, 1) := by decide +kernel
theorem dX9_delay_0 : decode cX9_delay 0 = .ok (.aload_n 0, 1) := by decide +kernel
theorem dX9_delay_1 : decode cX9_delay 1 = .ok (.iload_n 1, 1) := by decide +kernel
theorem dX9_delay_2 : decode cX9_delay 2 = .ok (.invokevirtual 82, 3) := by decide +kernel
theorem dX9_delay_5 : decode cX9_delay 5 = .ok (.ifCond .ne 9, 3) := by decide +kernel
theorem dX9_delay_8 : decode cX9_delay 8 = .ok (.aload_n 0, 1) := by decide +kernel
theorem dX9_delay_9 : decode cX9_delay 9 = .ok (.iconst 1, 1) := by decide +kernel
theorem dX9_delay_10 : decode cX9_delay 10 = .ok (.invokevirtual 63, 3) := by decide +kernel
theorem dX9_delay_13 : decode cX9_delay 13 = .ok (.ireturn, 1) := by decide +kernel
theorem dX9_delay_14 : decode cX9_delay 14 = .ok (.iconst 0, 1) := by decide +kernel
theorem dX9_delay_15 : decode cX9_delay 15 = .ok (.istore_n 2, 1) := by decide +kernel
theorem dX9_delay_16 : decode cX9_delay 16 = .ok (.iconst 0, 1) := by decide +kernel
theorem dX9_delay_17 : decode cX9_delay 17 = .ok (.istore_n 3, 1) := by decide +kernel
theorem dX9_delay_18 : decode cX9_delay 18 = .ok (.iload_n 3, 1) := by decide +kernel
theorem dX9_delay_19 : decode cX9_delay 19 = .ok (.aload_n 0, 1) := by decide +kernel
theorem dX9_delay_20 : decode cX9_delay 20 = .ok (.getfield 7, 3) := by decide +kernel
theorem dX9_delay_23 : decode cX9_delay 23 = .ok (.bipush 77, 2) := by decide +kernel
theorem dX9_delay_25 : decode cX9_delay 25 = .ok (.iaload, 1) := by decide +kernel
theorem dX9_delay_26 : decode cX9_delay 26 = .ok (.if_icmp .ge 53, 3) := by decide +kernel
theorem dX9_delay_29 : decode cX9_delay 29 = .ok (.aload_n 0, 1) := by decide +kernel
theorem dX9_delay_30 : decode cX9_delay 30 = .ok (.aload_n 0, 1) := by decide +kernel
theorem dX9_delay_31 : decode cX9_delay 31 = .ok (.iload_n 3, 1) := by decide +kernel
theorem dX9_delay_32 : decode cX9_delay 32 = .ok (.iconst 0, 1) := by decide +kernel
theorem dX9_delay_33 : decode cX9_delay 33 = .ok (.invokevirtual 86, 3) := by decide +kernel
theorem dX9_delay_36 : decode cX9_delay 36 = .ok (.invokevirtual 127, 3) := by decide +kernel
theorem dX9_delay_39 : decode cX9_delay 39 = .ok (.iconst 1, 1) := by decide +kernel
theorem dX9_delay_40 : decode cX9_delay 40 = .ok (.iadd, 1) := by decide +kernel
theorem dX9_delay_41 : decode cX9_delay 41 = .ok (.aload_n 0, 1) := by decide +kernel
theorem dX9_delay_42 : decode cX9_delay 42 = .ok (.iload_n 1, 1) := by decide +kernel
theorem dX9_delay_43 : decode cX9_delay 43 = .ok (.iconst 1, 1) := by decide +kernel
theorem dX9_delay_44 : decode cX9_delay 44 = .ok (.invokevirtual 55, 3) := by decide +kernel
theorem dX9_delay_47 : decode cX9_delay 47 = .ok (.isub, 1) := by decide +kernel
theorem dX9_delay_48 : decode cX9_delay 48 = .ok (.istore 4, 2) := by decide +kernel
theorem dX9_delay_50 : decode cX9_delay 50 = .ok (.aload_n 0, 1) := by decide +kernel
theorem dX9_delay_51 : decode cX9_delay 51 = .ok (.iload_n 3, 1) := by decide +kernel
theorem dX9_delay_52 : decode cX9_delay 52 = .ok (.iconst 1, 1) := by decide +kernel
theorem dX9_delay_53 : decode cX9_delay 53 = .ok (.invokevirtual 86, 3) := by decide +kernel
theorem dX9_delay_56 : decode cX9_delay 56 = .ok (.iload_n 1, 1) := by decide +kernel
theorem dX9_delay_57 : decode cX9_delay 57 = .ok (.if_icmp .ne 14, 3) := by decide +kernel
theorem dX9_delay_60 : decode cX9_delay 60 = .ok (.iload 4, 2) := by decide +kernel
theorem dX9_delay_62 : decode cX9_delay 62 = .ok (.iload_n 2, 1) := by decide +kernel
theorem dX9_delay_63 : decode cX9_delay 63 = .ok (.if_icmp .le 8, 3) := by decide +kernel
theorem dX9_delay_66 : decode cX9_delay 66 = .ok (.iload 4, 2) := by decide +kernel
theorem dX9_delay_68 : decode cX9_delay 68 = .ok (.goto 4, 3) := by decide +kernel
theorem dX9_delay_71 : decode cX9_delay 71 = .ok (.iload_n 2, 1) := by decide +kernel
theorem dX9_delay_72 : decode cX9_delay 72 = .ok (.istore_n 2, 1) := by decide +kernel
theorem dX9_delay_73 : decode cX9_delay 73 = .ok (.iinc 3 1, 3) := by decide +kernel
theorem dX9_delay_76 : decode cX9_delay 76 = .ok (.goto (-58), 3) := by decide +kernel
theorem dX9_delay_79 : decode cX9_delay 79 = .ok (.aload_n 0, 1) := by decide +kernel
theorem dX9_delay_80 : decode cX9_delay 80 = .ok (.iload_n 2, 1) := by decide +kernel
theorem dX9_delay_81 : decode cX9_delay 81 = .ok (.invokevirtual 47, 3) := by decide +kernel
theorem dX9_delay_84 : decode cX9_delay 84 = .ok (.ireturn, 1) := by decide +kernel
theorem dX9_longest_0 : decode cX9_longest 0 = .ok (.iconst 0, 1) := by decide +kernel
theorem dX9_longest_1 : decode cX9_longest 1 = .ok (.istore_n 1, 1) := by decide +kernel
theorem dX9_longest_2 : decode cX9_longest 2 = .ok (.iconst 0, 1) := by decide +kernel
theorem dX9_longest_3 : decode cX9_longest 3 = .ok (.istore_n 2, 1) := by decide +kernel
theorem dX9_longest_4 : decode cX9_longest 4 = .ok (.iload_n 2, 1) := by decide +kernel
theorem dX9_longest_5 : decode cX9_longest 5 = .ok (.aload_n 0, 1) := by decide +kernel
theorem dX9_longest_6 : decode cX9_longest 6 = .ok (.getfield 7, 3) := by decide +kernel
theorem dX9_longest_9 : decode cX9_longest 9 = .ok (.iconst 4, 1) := by decide +kernel
theorem dX9_longest_10 : decode cX9_longest 10 = .ok (.iaload, 1) := by decide +kernel
theorem dX9_longest_11 : decode cX9_longest 11 = .ok (.if_icmp .ge 18, 3) := by decide +kernel
theorem dX9_longest_14 : decode cX9_longest 14 = .ok (.aload_n 0, 1) := by decide +kernel
theorem dX9_longest_15 : decode cX9_longest 15 = .ok (.getfield 37, 3) := by decide +kernel
theorem dX9_longest_18 : decode cX9_longest 18 = .ok (.iload_n 2, 1) := by decide +kernel
theorem dX9_longest_19 : decode cX9_longest 19 = .ok (.iconst 1, 1) := by decide +kernel
theorem dX9_longest_20 : decode cX9_longest 20 = .ok (.iastore, 1) := by decide +kernel
theorem dX9_longest_21 : decode cX9_longest 21 = .ok (.iconst 1, 1) := by decide +kernel
theorem dX9_longest_22 : decode cX9_longest 22 = .ok (.istore_n 1, 1) := by decide +kernel
theorem dX9_longest_23 : decode cX9_longest 23 = .ok (.iinc 2 1, 3) := by decide +kernel
theorem dX9_longest_26 : decode cX9_longest 26 = .ok (.goto (-22), 3) := by decide +kernel
theorem dX9_longest_29 : decode cX9_longest 29 = .ok (.iconst 1, 1) := by decide +kernel
theorem dX9_longest_30 : decode cX9_longest 30 = .ok (.istore_n 2, 1) := by decide +kernel
theorem dX9_longest_31 : decode cX9_longest 31 = .ok (.iload_n 2, 1) := by decide +kernel
theorem dX9_longest_32 : decode cX9_longest 32 = .ok (.ifCond .eq 119, 3) := by decide +kernel
theorem dX9_longest_35 : decode cX9_longest 35 = .ok (.iconst 0, 1) := by decide +kernel
theorem dX9_longest_36 : decode cX9_longest 36 = .ok (.istore_n 2, 1) := by decide +kernel
theorem dX9_longest_37 : decode cX9_longest 37 = .ok (.iconst 0, 1) := by decide +kernel
theorem dX9_longest_38 : decode cX9_longest 38 = .ok (.istore_n 3, 1) := by decide +kernel
theorem dX9_longest_39 : decode cX9_longest 39 = .ok (.iload_n 3, 1) := by decide +kernel
theorem dX9_longest_40 : decode cX9_longest 40 = .ok (.aload_n 0, 1) := by decide +kernel
theorem dX9_longest_41 : decode cX9_longest 41 = .ok (.getfield 7, 3) := by decide +kernel
theorem dX9_longest_44 : decode cX9_longest 44 = .ok (.bipush 77, 2) := by decide +kernel
theorem dX9_longest_46 : decode cX9_longest 46 = .ok (.iaload, 1) := by decide +kernel
theorem dX9_longest_47 : decode cX9_longest 47 = .ok (.if_icmp .ge 101, 3) := by decide +kernel
theorem dX9_longest_50 : decode cX9_longest 50 = .ok (.aload_n 0, 1) := by decide +kernel
theorem dX9_longest_51 : decode cX9_longest 51 = .ok (.iload_n 3, 1) := by decide +kernel
theorem dX9_longest_52 : decode cX9_longest 52 = .ok (.invokevirtual 171, 3) := by decide +kernel
theorem dX9_longest_55 : decode cX9_longest 55 = .ok (.ifCond .ne 87, 3) := by decide +kernel
theorem dX9_longest_58 : decode cX9_longest 58 = .ok (.aload_n 0, 1) := by decide +kernel
theorem dX9_longest_59 : decode cX9_longest 59 = .ok (.getfield 37, 3) := by decide +kernel
theorem dX9_longest_62 : decode cX9_longest 62 = .ok (.aload_n 0, 1) := by decide +kernel
theorem dX9_longest_63 : decode cX9_longest 63 = .ok (.iload_n 3, 1) := by decide +kernel
theorem dX9_longest_64 : decode cX9_longest 64 = .ok (.iconst 1, 1) := by decide +kernel
theorem dX9_longest_65 : decode cX9_longest 65 = .ok (.invokevirtual 86, 3) := by decide +kernel
theorem dX9_longest_68 : decode cX9_longest 68 = .ok (.iaload, 1) := by decide +kernel
theorem dX9_longest_69 : decode cX9_longest 69 = .ok (.aload_n 0, 1) := by decide +kernel
theorem dX9_longest_70 : decode cX9_longest 70 = .ok (.getfield 37, 3) := by decide +kernel
theorem dX9_longest_73 : decode cX9_longest 73 = .ok (.aload_n 0, 1) := by decide +kernel
theorem dX9_longest_74 : decode cX9_longest 74 = .ok (.iload_n 3, 1) := by decide +kernel
theorem dX9_longest_75 : decode cX9_longest 75 = .ok (.iconst 0, 1) := by decide +kernel
theorem dX9_longest_76 : decode cX9_longest 76 = .ok (.invokevirtual 86, 3) := by decide +kernel
theorem dX9_longest_79 : decode cX9_longest 79 = .ok (.iaload, 1) := by decide +kernel
theorem dX9_longest_80 : decode cX9_longest 80 = .ok (.iconst 1, 1) := by decide +kernel
theorem dX9_longest_81 : decode cX9_longest 81 = .ok (.iadd, 1) := by decide +kernel
theorem dX9_longest_82 : decode cX9_longest 82 = .ok (.if_icmp .ge 60, 3) := by decide +kernel
theorem dX9_longest_85 : decode cX9_longest 85 = .ok (.aload_n 0, 1) := by decide +kernel
theorem dX9_longest_86 : decode cX9_longest 86 = .ok (.getfield 37, 3) := by decide +kernel
theorem dX9_longest_89 : decode cX9_longest 89 = .ok (.aload_n 0, 1) := by decide +kernel
theorem dX9_longest_90 : decode cX9_longest 90 = .ok (.iload_n 3, 1) := by decide +kernel
theorem dX9_longest_91 : decode cX9_longest 91 = .ok (.iconst 1, 1) := by decide +kernel
theorem dX9_longest_92 : decode cX9_longest 92 = .ok (.invokevirtual 86, 3) := by decide +kernel
theorem dX9_longest_95 : decode cX9_longest 95 = .ok (.aload_n 0, 1) := by decide +kernel
theorem dX9_longest_96 : decode cX9_longest 96 = .ok (.getfield 37, 3) := by decide +kernel
theorem dX9_longest_99 : decode cX9_longest 99 = .ok (.aload_n 0, 1) := by decide +kernel
theorem dX9_longest_100 : decode cX9_longest 100 = .ok (.iload_n 3, 1) := by decide +kernel
theorem dX9_longest_101 : decode cX9_longest 101 = .ok (.iconst 0, 1) := by decide +kernel
theorem dX9_longest_102 : decode cX9_longest 102 = .ok (.invokevirtual 86, 3) := by decide +kernel
theorem dX9_longest_105 : decode cX9_longest 105 = .ok (.iaload, 1) := by decide +kernel
theorem dX9_longest_106 : decode cX9_longest 106 = .ok (.iconst 1, 1) := by decide +kernel
theorem dX9_longest_107 : decode cX9_longest 107 = .ok (.iadd, 1) := by decide +kernel
theorem dX9_longest_108 : decode cX9_longest 108 = .ok (.iastore, 1) := by decide +kernel
theorem dX9_longest_109 : decode cX9_longest 109 = .ok (.aload_n 0, 1) := by decide +kernel
theorem dX9_longest_110 : decode cX9_longest 110 = .ok (.getfield 37, 3) := by decide +kernel
theorem dX9_longest_113 : decode cX9_longest 113 = .ok (.aload_n 0, 1) := by decide +kernel
theorem dX9_longest_114 : decode cX9_longest 114 = .ok (.iload_n 3, 1) := by decide +kernel
theorem dX9_longest_115 : decode cX9_longest 115 = .ok (.iconst 1, 1) := by decide +kernel
theorem dX9_longest_116 : decode cX9_longest 116 = .ok (.invokevirtual 86, 3) := by decide +kernel
theorem dX9_longest_119 : decode cX9_longest 119 = .ok (.iaload, 1) := by decide +kernel
theorem dX9_longest_120 : decode cX9_longest 120 = .ok (.iload_n 1, 1) := by decide +kernel
theorem dX9_longest_121 : decode cX9_longest 121 = .ok (.if_icmp .le 17, 3) := by decide +kernel
theorem dX9_longest_124 : decode cX9_longest 124 = .ok (.aload_n 0, 1) := by decide +kernel
theorem dX9_longest_125 : decode cX9_longest 125 = .ok (.getfield 37, 3) := by decide +kernel
theorem dX9_longest_128 : decode cX9_longest 128 = .ok (.aload_n 0, 1) := by decide +kernel
theorem dX9_longest_129 : decode cX9_longest 129 = .ok (.iload_n 3, 1) := by decide +kernel
theorem dX9_longest_130 : decode cX9_longest 130 = .ok (.iconst 1, 1) := by decide +kernel
theorem dX9_longest_131 : decode cX9_longest 131 = .ok (.invokevirtual 86, 3) := by decide +kernel
theorem dX9_longest_134 : decode cX9_longest 134 = .ok (.iaload, 1) := by decide +kernel
theorem dX9_longest_135 : decode cX9_longest 135 = .ok (.goto 4, 3) := by decide +kernel
theorem dX9_longest_138 : decode cX9_longest 138 = .ok (.iload_n 1, 1) := by decide +kernel
theorem dX9_longest_139 : decode cX9_longest 139 = .ok (.istore_n 1, 1) := by decide +kernel
theorem dX9_longest_140 : decode cX9_longest 140 = .ok (.iconst 1, 1) := by decide +kernel
theorem dX9_longest_141 : decode cX9_longest 141 = .ok (.istore_n 2, 1) := by decide +kernel
theorem dX9_longest_142 : decode cX9_longest 142 = .ok (.iinc 3 1, 3) := by decide +kernel
theorem dX9_longest_145 : decode cX9_longest 145 = .ok (.goto (-106), 3) := by decide +kernel
theorem dX9_longest_148 : decode cX9_longest 148 = .ok (.goto (-117), 3) := by decide +kernel
theorem dX9_longest_151 : decode cX9_longest 151 = .ok (.iload_n 1, 1) := by decide +kernel
theorem dX9_longest_152 : decode cX9_longest 152 = .ok (.ireturn, 1) := by decide +kernel
theorem dX9_longestChain_0 : decode cX9_longestChain 0 = .ok (.aload_n 0, 1) := by decide +kernel
theorem dX9_longestChain_1 : decode cX9_longestChain 1 = .ok (.aload_n 0, 1) := by decide +kernel
theorem dX9_longestChain_2 : decode cX9_longestChain 2 = .ok (.invokevirtual 177, 3) := by decide +kernel
theorem dX9_longestChain_5 : decode cX9_longestChain 5 = .ok (.invokevirtual 47, 3) := by decide +kernel
theorem dX9_longestChain_8 : decode cX9_longestChain 8 = .ok (.ireturn, 1) := by decide +kernel
theorem dX9_append_0 : decode cX9_append 0 = .ok (.iload_n 1, 1) := by decide +kernel
theorem dX9_append_1 : decode cX9_append 1 = .ok (.iconst 0, 1) := by decide +kernel
theorem dX9_append_2 : decode cX9_append 2 = .ok (.bipush 127, 2) := by decide +kernel
theorem dX9_append_4 : decode cX9_append 4 = .ok (.invokestatic 51, 3) := by decide +kernel
theorem dX9_append_7 : decode cX9_append 7 = .ok (.ifCond .ne 9, 3) := by decide +kernel
theorem dX9_append_10 : decode cX9_append 10 = .ok (.aload_n 0, 1) := by decide +kernel
theorem dX9_append_11 : decode cX9_append 11 = .ok (.iconst 1, 1) := by decide +kernel
theorem dX9_append_12 : decode cX9_append 12 = .ok (.invokevirtual 63, 3) := by decide +kernel
theorem dX9_append_15 : decode cX9_append 15 = .ok (.ireturn, 1) := by decide +kernel
theorem dX9_append_16 : decode cX9_append 16 = .ok (.aload_n 0, 1) := by decide +kernel
theorem dX9_append_17 : decode cX9_append 17 = .ok (.getfield 181, 3) := by decide +kernel
theorem dX9_append_20 : decode cX9_append 20 = .ok (.sipush 150, 3) := by decide +kernel
theorem dX9_append_23 : decode cX9_append 23 = .ok (.if_icmp .ne 9, 3) := by decide +kernel
theorem dX9_append_26 : decode cX9_append 26 = .ok (.aload_n 0, 1) := by decide +kernel
theorem dX9_append_27 : decode cX9_append 27 = .ok (.iconst 2, 1) := by decide +kernel
theorem dX9_append_28 : decode cX9_append 28 = .ok (.invokevirtual 63, 3) := by decide +kernel
theorem dX9_append_31 : decode cX9_append 31 = .ok (.ireturn, 1) := by decide +kernel
theorem dX9_append_32 : decode cX9_append 32 = .ok (.aload_n 0, 1) := by decide +kernel
theorem dX9_append_33 : decode cX9_append 33 = .ok (.getfield 19, 3) := by decide +kernel
theorem dX9_append_36 : decode cX9_append 36 = .ok (.aload_n 0, 1) := by decide +kernel
theorem dX9_append_37 : decode cX9_append 37 = .ok (.getfield 181, 3) := by decide +kernel
theorem dX9_append_40 : decode cX9_append 40 = .ok (.iload_n 1, 1) := by decide +kernel
theorem dX9_append_41 : decode cX9_append 41 = .ok (.iastore, 1) := by decide +kernel
theorem dX9_append_42 : decode cX9_append 42 = .ok (.aload_n 0, 1) := by decide +kernel
theorem dX9_append_43 : decode cX9_append 43 = .ok (.dup, 1) := by decide +kernel
theorem dX9_append_44 : decode cX9_append 44 = .ok (.getfield 181, 3) := by decide +kernel
theorem dX9_append_47 : decode cX9_append 47 = .ok (.iconst 1, 1) := by decide +kernel
theorem dX9_append_48 : decode cX9_append 48 = .ok (.iadd, 1) := by decide +kernel
theorem dX9_append_49 : decode cX9_append 49 = .ok (.putfield 181, 3) := by decide +kernel
theorem dX9_append_52 : decode cX9_append 52 = .ok (.aload_n 0, 1) := by decide +kernel
theorem dX9_append_53 : decode cX9_append 53 = .ok (.aload_n 0, 1) := by decide +kernel
theorem dX9_append_54 : decode cX9_append 54 = .ok (.getfield 181, 3) := by decide +kernel
theorem dX9_append_57 : decode cX9_append 57 = .ok (.invokevirtual 47, 3) := by decide +kernel
theorem dX9_append_60 : decode cX9_append 60 = .ok (.ireturn, 1) := by decide +kernel
theorem dX9_clearText_0 : decode cX9_clearText 0 = .ok (.aload_n 0, 1) := by decide +kernel
theorem dX9_clearText_1 : decode cX9_clearText 1 = .ok (.getfield 181, 3) := by decide +kernel
theorem dX9_clearText_4 : decode cX9_clearText 4 = .ok (.istore_n 1, 1) := by decide +kernel
theorem dX9_clearText_5 : decode cX9_clearText 5 = .ok (.aload_n 0, 1) := by decide +kernel
theorem dX9_clearText_6 : decode cX9_clearText 6 = .ok (.iconst 0, 1) := by decide +kernel
theorem dX9_clearText_7 : decode cX9_clearText 7 = .ok (.putfield 181, 3) := by decide +kernel
theorem dX9_clearText_10 : decode cX9_clearText 10 = .ok (.aload_n 0, 1) := by decide +kernel
theorem dX9_clearText_11 : decode cX9_clearText 11 = .ok (.iload_n 1, 1) := by decide +kernel
theorem dX9_clearText_12 : decode cX9_clearText 12 = .ok (.invokevirtual 47, 3) := by decide +kernel
theorem dX9_clearText_15 : decode cX9_clearText 15 = .ok (.ireturn, 1) := by decide +kernel
theorem dX9_isAt_0 : decode cX9_isAt 0 = .ok (.aload_n 0, 1) := by decide +kernel
theorem dX9_isAt_1 : decode cX9_isAt 1 = .ok (.getfield 184, 3) := by decide +kernel
theorem dX9_isAt_4 : decode cX9_isAt 4 = .ok (.aload_n 0, 1) := by decide +kernel
theorem dX9_isAt_5 : decode cX9_isAt 5 = .ok (.getfield 181, 3) := by decide +kernel
theorem dX9_isAt_8 : decode cX9_isAt 8 = .ok (.if_icmp .ge 24, 3) := by decide +kernel
theorem dX9_isAt_11 : decode cX9_isAt 11 = .ok (.aload_n 0, 1) := by decide +kernel
theorem dX9_isAt_12 : decode cX9_isAt 12 = .ok (.getfield 19, 3) := by decide +kernel
theorem dX9_isAt_15 : decode cX9_isAt 15 = .ok (.aload_n 0, 1) := by decide +kernel
theorem dX9_isAt_16 : decode cX9_isAt 16 = .ok (.getfield 184, 3) := by decide +kernel
theorem dX9_isAt_19 : decode cX9_isAt 19 = .ok (.iaload, 1) := by decide +kernel
theorem dX9_isAt_20 : decode cX9_isAt 20 = .ok (.iload_n 1, 1) := by decide +kernel
theorem dX9_isAt_21 : decode cX9_isAt 21 = .ok (.iload_n 2, 1) := by decide +kernel
theorem dX9_isAt_22 : decode cX9_isAt 22 = .ok (.invokestatic 51, 3) := by decide +kernel
theorem dX9_isAt_25 : decode cX9_isAt 25 = .ok (.ifCond .eq 7, 3) := by decide +kernel
theorem dX9_isAt_28 : decode cX9_isAt 28 = .ok (.iconst 1, 1) := by decide +kernel
theorem dX9_isAt_29 : decode cX9_isAt 29 = .ok (.goto 4, 3) := by decide +kernel
theorem dX9_isAt_32 : decode cX9_isAt 32 = .ok (.iconst 0, 1) := by decide +kernel
theorem dX9_isAt_33 : decode cX9_isAt 33 = .ok (.ireturn, 1) := by decide +kernel
theorem dX9_takes_0 : decode cX9_takes 0 = .ok (.aload_n 0, 1) := by decide +kernel
theorem dX9_takes_1 : decode cX9_takes 1 = .ok (.iload_n 1, 1) := by decide +kernel
theorem dX9_takes_2 : decode cX9_takes 2 = .ok (.iload_n 1, 1) := by decide +kernel
theorem dX9_takes_3 : decode cX9_takes 3 = .ok (.invokevirtual 187, 3) := by decide +kernel
theorem dX9_takes_6 : decode cX9_takes 6 = .ok (.istore_n 2, 1) := by decide +kernel
theorem dX9_takes_7 : decode cX9_takes 7 = .ok (.aload_n 0, 1) := by decide +kernel
theorem dX9_takes_8 : decode cX9_takes 8 = .ok (.dup, 1) := by decide +kernel
theorem dX9_takes_9 : decode cX9_takes 9 = .ok (.getfield 184, 3) := by decide +kernel
theorem dX9_takes_12 : decode cX9_takes 12 = .ok (.iload_n 2, 1) := by decide +kernel
theorem dX9_takes_13 : decode cX9_takes 13 = .ok (.ifCond .eq 7, 3) := by decide +kernel
theorem dX9_takes_16 : decode cX9_takes 16 = .ok (.iconst 1, 1) := by decide +kernel
theorem dX9_takes_17 : decode cX9_takes 17 = .ok (.goto 4, 3) := by decide +kernel
theorem dX9_takes_20 : decode cX9_takes 20 = .ok (.iconst 0, 1) := by decide +kernel
theorem dX9_takes_21 : decode cX9_takes 21 = .ok (.iadd, 1) := by decide +kernel
theorem dX9_takes_22 : decode cX9_takes 22 = .ok (.putfield 184, 3) := by decide +kernel
theorem dX9_takes_25 : decode cX9_takes 25 = .ok (.iload_n 2, 1) := by decide +kernel
theorem dX9_takes_26 : decode cX9_takes 26 = .ok (.ireturn, 1) := by decide +kernel
theorem dX9_isNumber_0 : decode cX9_isNumber 0 = .ok (.aload_n 0, 1) := by decide +kernel
theorem dX9_isNumber_1 : decode cX9_isNumber 1 = .ok (.getfield 184, 3) := by decide +kernel
theorem dX9_isNumber_4 : decode cX9_isNumber 4 = .ok (.istore_n 2, 1) := by decide +kernel
theorem dX9_isNumber_5 : decode cX9_isNumber 5 = .ok (.aload_n 0, 1) := by decide +kernel
theorem dX9_isNumber_6 : decode cX9_isNumber 6 = .ok (.iconst 0, 1) := by decide +kernel
theorem dX9_isNumber_7 : decode cX9_isNumber 7 = .ok (.putfield 190, 3) := by decide +kernel
theorem dX9_isNumber_10 : decode cX9_isNumber 10 = .ok (.aload_n 0, 1) := by decide +kernel
theorem dX9_isNumber_11 : decode cX9_isNumber 11 = .ok (.getfield 184, 3) := by decide +kernel
theorem dX9_isNumber_14 : decode cX9_isNumber 14 = .ok (.iload_n 2, 1) := by decide +kernel
theorem dX9_isNumber_15 : decode cX9_isNumber 15 = .ok (.isub, 1) := by decide +kernel
theorem dX9_isNumber_16 : decode cX9_isNumber 16 = .ok (.iload_n 1, 1) := by decide +kernel
theorem dX9_isNumber_17 : decode cX9_isNumber 17 = .ok (.if_icmp .ge 51, 3) := by decide +kernel
theorem dX9_isNumber_20 : decode cX9_isNumber 20 = .ok (.aload_n 0, 1) := by decide +kernel
theorem dX9_isNumber_21 : decode cX9_isNumber 21 = .ok (.bipush 48, 2) := by decide +kernel
theorem dX9_isNumber_23 : decode cX9_isNumber 23 = .ok (.bipush 57, 2) := by decide +kernel
theorem dX9_isNumber_25 : decode cX9_isNumber 25 = .ok (.invokevirtual 187, 3) := by decide +kernel
theorem dX9_isNumber_28 : decode cX9_isNumber 28 = .ok (.ifCond .eq 40, 3) := by decide +kernel
theorem dX9_isNumber_31 : decode cX9_isNumber 31 = .ok (.aload_n 0, 1) := by decide +kernel
theorem dX9_isNumber_32 : decode cX9_isNumber 32 = .ok (.bipush 10, 2) := by decide +kernel
theorem dX9_isNumber_34 : decode cX9_isNumber 34 = .ok (.aload_n 0, 1) := by decide +kernel
theorem dX9_isNumber_35 : decode cX9_isNumber 35 = .ok (.getfield 190, 3) := by decide +kernel
theorem dX9_isNumber_38 : decode cX9_isNumber 38 = .ok (.imul, 1) := by decide +kernel
theorem dX9_isNumber_39 : decode cX9_isNumber 39 = .ok (.aload_n 0, 1) := by decide +kernel
theorem dX9_isNumber_40 : decode cX9_isNumber 40 = .ok (.getfield 19, 3) := by decide +kernel
theorem dX9_isNumber_43 : decode cX9_isNumber 43 = .ok (.aload_n 0, 1) := by decide +kernel
theorem dX9_isNumber_44 : decode cX9_isNumber 44 = .ok (.getfield 184, 3) := by decide +kernel
theorem dX9_isNumber_47 : decode cX9_isNumber 47 = .ok (.iaload, 1) := by decide +kernel
theorem dX9_isNumber_48 : decode cX9_isNumber 48 = .ok (.iadd, 1) := by decide +kernel
theorem dX9_isNumber_49 : decode cX9_isNumber 49 = .ok (.bipush 48, 2) := by decide +kernel
theorem dX9_isNumber_51 : decode cX9_isNumber 51 = .ok (.isub, 1) := by decide +kernel
theorem dX9_isNumber_52 : decode cX9_isNumber 52 = .ok (.putfield 190, 3) := by decide +kernel
theorem dX9_isNumber_55 : decode cX9_isNumber 55 = .ok (.aload_n 0, 1) := by decide +kernel
theorem dX9_isNumber_56 : decode cX9_isNumber 56 = .ok (.dup, 1) := by decide +kernel
theorem dX9_isNumber_57 : decode cX9_isNumber 57 = .ok (.getfield 184, 3) := by decide +kernel
theorem dX9_isNumber_60 : decode cX9_isNumber 60 = .ok (.iconst 1, 1) := by decide +kernel
theorem dX9_isNumber_61 : decode cX9_isNumber 61 = .ok (.iadd, 1) := by decide +kernel
theorem dX9_isNumber_62 : decode cX9_isNumber 62 = .ok (.putfield 184, 3) := by decide +kernel
theorem dX9_isNumber_65 : decode cX9_isNumber 65 = .ok (.goto (-55), 3) := by decide +kernel
theorem dX9_isNumber_68 : decode cX9_isNumber 68 = .ok (.aload_n 0, 1) := by decide +kernel
theorem dX9_isNumber_69 : decode cX9_isNumber 69 = .ok (.getfield 184, 3) := by decide +kernel
theorem dX9_isNumber_72 : decode cX9_isNumber 72 = .ok (.iload_n 2, 1) := by decide +kernel
theorem dX9_isNumber_73 : decode cX9_isNumber 73 = .ok (.if_icmp .le 18, 3) := by decide +kernel
theorem dX9_isNumber_76 : decode cX9_isNumber 76 = .ok (.aload_n 0, 1) := by decide +kernel
theorem dX9_isNumber_77 : decode cX9_isNumber 77 = .ok (.bipush 48, 2) := by decide +kernel
theorem dX9_isNumber_79 : decode cX9_isNumber 79 = .ok (.bipush 57, 2) := by decide +kernel
theorem dX9_isNumber_81 : decode cX9_isNumber 81 = .ok (.invokevirtual 187, 3) := by decide +kernel
theorem dX9_isNumber_84 : decode cX9_isNumber 84 = .ok (.ifCond .ne 7, 3) := by decide +kernel
theorem dX9_isNumber_87 : decode cX9_isNumber 87 = .ok (.iconst 1, 1) := by decide +kernel
theorem dX9_isNumber_88 : decode cX9_isNumber 88 = .ok (.goto 4, 3) := by decide +kernel
theorem dX9_isNumber_91 : decode cX9_isNumber 91 = .ok (.iconst 0, 1) := by decide +kernel
theorem dX9_isNumber_92 : decode cX9_isNumber 92 = .ok (.ireturn, 1) := by decide +kernel
theorem dX9_isWithin_0 : decode cX9_isWithin 0 = .ok (.aload_n 0, 1) := by decide +kernel
theorem dX9_isWithin_1 : decode cX9_isWithin 1 = .ok (.getfield 184, 3) := by decide +kernel
theorem dX9_isWithin_4 : decode cX9_isWithin 4 = .ok (.istore 5, 2) := by decide +kernel
theorem dX9_isWithin_6 : decode cX9_isWithin 6 = .ok (.aload_n 0, 1) := by decide +kernel
theorem dX9_isWithin_7 : decode cX9_isWithin 7 = .ok (.iload_n 1, 1) := by decide +kernel
theorem dX9_isWithin_8 : decode cX9_isWithin 8 = .ok (.invokevirtual 193, 3) := by decide +kernel
theorem dX9_isWithin_11 : decode cX9_isWithin 11 = .ok (.ifCond .ne 5, 3) := by decide +kernel
theorem dX9_isWithin_14 : decode cX9_isWithin 14 = .ok (.iconst 0, 1) := by decide +kernel
theorem dX9_isWithin_15 : decode cX9_isWithin 15 = .ok (.ireturn, 1) := by decide +kernel
theorem dX9_isWithin_16 : decode cX9_isWithin 16 = .ok (.aload_n 0, 1) := by decide +kernel
theorem dX9_isWithin_17 : decode cX9_isWithin 17 = .ok (.getfield 190, 3) := by decide +kernel
theorem dX9_isWithin_20 : decode cX9_isWithin 20 = .ok (.iload_n 2, 1) := by decide +kernel
theorem dX9_isWithin_21 : decode cX9_isWithin 21 = .ok (.iload_n 3, 1) := by decide +kernel
theorem dX9_isWithin_22 : decode cX9_isWithin 22 = .ok (.invokestatic 51, 3) := by decide +kernel
theorem dX9_isWithin_25 : decode cX9_isWithin 25 = .ok (.ifCond .eq 16, 3) := by decide +kernel
theorem dX9_isWithin_28 : decode cX9_isWithin 28 = .ok (.aload_n 0, 1) := by decide +kernel
theorem dX9_isWithin_29 : decode cX9_isWithin 29 = .ok (.getfield 190, 3) := by decide +kernel
theorem dX9_isWithin_32 : decode cX9_isWithin 32 = .ok (.iload 4, 2) := by decide +kernel
theorem dX9_isWithin_34 : decode cX9_isWithin 34 = .ok (.if_icmp .eq 7, 3) := by decide +kernel
theorem dX9_isWithin_37 : decode cX9_isWithin 37 = .ok (.iconst 1, 1) := by decide +kernel
theorem dX9_isWithin_38 : decode cX9_isWithin 38 = .ok (.goto 4, 3) := by decide +kernel
theorem dX9_isWithin_41 : decode cX9_isWithin 41 = .ok (.iconst 0, 1) := by decide +kernel
theorem dX9_isWithin_42 : decode cX9_isWithin 42 = .ok (.istore 6, 2) := by decide +kernel
theorem dX9_isWithin_44 : decode cX9_isWithin 44 = .ok (.aload_n 0, 1) := by decide +kernel
theorem dX9_isWithin_45 : decode cX9_isWithin 45 = .ok (.iload 6, 2) := by decide +kernel
theorem dX9_isWithin_47 : decode cX9_isWithin 47 = .ok (.ifCond .eq 10, 3) := by decide +kernel
theorem dX9_isWithin_50 : decode cX9_isWithin 50 = .ok (.aload_n 0, 1) := by decide +kernel
theorem dX9_isWithin_51 : decode cX9_isWithin 51 = .ok (.getfield 184, 3) := by decide +kernel
theorem dX9_isWithin_54 : decode cX9_isWithin 54 = .ok (.goto 5, 3) := by decide +kernel
theorem dX9_isWithin_57 : decode cX9_isWithin 57 = .ok (.iload 5, 2) := by decide +kernel
theorem dX9_isWithin_59 : decode cX9_isWithin 59 = .ok (.putfield 184, 3) := by decide +kernel
theorem dX9_isWithin_62 : decode cX9_isWithin 62 = .ok (.iload 6, 2) := by decide +kernel
theorem dX9_isWithin_64 : decode cX9_isWithin 64 = .ok (.ireturn, 1) := by decide +kernel
theorem dX9_isItem_0 : decode cX9_isItem 0 = .ok (.aload_n 0, 1) := by decide +kernel
theorem dX9_isItem_1 : decode cX9_isItem 1 = .ok (.bipush 116, 2) := by decide +kernel
theorem dX9_isItem_3 : decode cX9_isItem 3 = .ok (.bipush 116, 2) := by decide +kernel
theorem dX9_isItem_5 : decode cX9_isItem 5 = .ok (.invokevirtual 187, 3) := by decide +kernel
theorem dX9_isItem_8 : decode cX9_isItem 8 = .ok (.ifCond .eq 133, 3) := by decide +kernel
theorem dX9_isItem_11 : decode cX9_isItem 11 = .ok (.aload_n 0, 1) := by decide +kernel
theorem dX9_isItem_12 : decode cX9_isItem 12 = .ok (.getfield 7, 3) := by decide +kernel
theorem dX9_isItem_15 : decode cX9_isItem 15 = .ok (.iconst 4, 1) := by decide +kernel
theorem dX9_isItem_16 : decode cX9_isItem 16 = .ok (.iaload, 1) := by decide +kernel
theorem dX9_isItem_17 : decode cX9_isItem 17 = .ok (.bipush 24, 2) := by decide +kernel
theorem dX9_isItem_19 : decode cX9_isItem 19 = .ok (.if_icmp .ge 122, 3) := by decide +kernel
theorem dX9_isItem_22 : decode cX9_isItem 22 = .ok (.aload_n 0, 1) := by decide +kernel
theorem dX9_isItem_23 : decode cX9_isItem 23 = .ok (.dup, 1) := by decide +kernel
theorem dX9_isItem_24 : decode cX9_isItem 24 = .ok (.getfield 184, 3) := by decide +kernel
theorem dX9_isItem_27 : decode cX9_isItem 27 = .ok (.iconst 1, 1) := by decide +kernel
theorem dX9_isItem_28 : decode cX9_isItem 28 = .ok (.iadd, 1) := by decide +kernel
theorem dX9_isItem_29 : decode cX9_isItem 29 = .ok (.putfield 184, 3) := by decide +kernel
theorem dX9_isItem_32 : decode cX9_isItem 32 = .ok (.aload_n 0, 1) := by decide +kernel
theorem dX9_isItem_33 : decode cX9_isItem 33 = .ok (.bipush 48, 2) := by decide +kernel
theorem dX9_isItem_35 : decode cX9_isItem 35 = .ok (.bipush 53, 2) := by decide +kernel
theorem dX9_isItem_37 : decode cX9_isItem 37 = .ok (.invokevirtual 187, 3) := by decide +kernel
theorem dX9_isItem_40 : decode cX9_isItem 40 = .ok (.ifCond .ne 5, 3) := by decide +kernel
theorem dX9_isItem_43 : decode cX9_isItem 43 = .ok (.iconst 0, 1) := by decide +kernel
theorem dX9_isItem_44 : decode cX9_isItem 44 = .ok (.ireturn, 1) := by decide +kernel
theorem dX9_isItem_45 : decode cX9_isItem 45 = .ok (.aload_n 0, 1) := by decide +kernel
theorem dX9_isItem_46 : decode cX9_isItem 46 = .ok (.getfield 19, 3) := by decide +kernel
theorem dX9_isItem_49 : decode cX9_isItem 49 = .ok (.aload_n 0, 1) := by decide +kernel
theorem dX9_isItem_50 : decode cX9_isItem 50 = .ok (.getfield 184, 3) := by decide +kernel
theorem dX9_isItem_53 : decode cX9_isItem 53 = .ok (.iaload, 1) := by decide +kernel
theorem dX9_isItem_54 : decode cX9_isItem 54 = .ok (.bipush 48, 2) := by decide +kernel
theorem dX9_isItem_56 : decode cX9_isItem 56 = .ok (.isub, 1) := by decide +kernel
theorem dX9_isItem_57 : decode cX9_isItem 57 = .ok (.istore_n 1, 1) := by decide +kernel
theorem dX9_isItem_58 : decode cX9_isItem 58 = .ok (.aload_n 0, 1) := by decide +kernel
theorem dX9_isItem_59 : decode cX9_isItem 59 = .ok (.dup, 1) := by decide +kernel
theorem dX9_isItem_60 : decode cX9_isItem 60 = .ok (.getfield 184, 3) := by decide +kernel
theorem dX9_isItem_63 : decode cX9_isItem 63 = .ok (.iconst 1, 1) := by decide +kernel
theorem dX9_isItem_64 : decode cX9_isItem 64 = .ok (.iadd, 1) := by decide +kernel
theorem dX9_isItem_65 : decode cX9_isItem 65 = .ok (.putfield 184, 3) := by decide +kernel
theorem dX9_isItem_68 : decode cX9_isItem 68 = .ok (.aload_n 0, 1) := by decide +kernel
theorem dX9_isItem_69 : decode cX9_isItem 69 = .ok (.bipush 44, 2) := by decide +kernel
theorem dX9_isItem_71 : decode cX9_isItem 71 = .ok (.invokevirtual 196, 3) := by decide +kernel
theorem dX9_isItem_74 : decode cX9_isItem 74 = .ok (.ifCond .eq 16, 3) := by decide +kernel
theorem dX9_isItem_77 : decode cX9_isItem 77 = .ok (.aload_n 0, 1) := by decide +kernel
theorem dX9_isItem_78 : decode cX9_isItem 78 = .ok (.iconst 3, 1) := by decide +kernel
theorem dX9_isItem_79 : decode cX9_isItem 79 = .ok (.iconst 0, 1) := by decide +kernel
theorem dX9_isItem_80 : decode cX9_isItem 80 = .ok (.sipush 199, 3) := by decide +kernel
theorem dX9_isItem_83 : decode cX9_isItem 83 = .ok (.iconst (-1), 1) := by decide +kernel
theorem dX9_isItem_84 : decode cX9_isItem 84 = .ok (.invokevirtual 199, 3) := by decide +kernel
theorem dX9_isItem_87 : decode cX9_isItem 87 = .ok (.ifCond .ne 5, 3) := by decide +kernel
theorem dX9_isItem_90 : decode cX9_isItem 90 = .ok (.iconst 0, 1) := by decide +kernel
theorem dX9_isItem_91 : decode cX9_isItem 91 = .ok (.ireturn, 1) := by decide +kernel
theorem dX9_isItem_92 : decode cX9_isItem 92 = .ok (.aload_n 0, 1) := by decide +kernel
theorem dX9_isItem_93 : decode cX9_isItem 93 = .ok (.getfield 190, 3) := by decide +kernel
theorem dX9_isItem_96 : decode cX9_isItem 96 = .ok (.istore_n 2, 1) := by decide +kernel
theorem dX9_isItem_97 : decode cX9_isItem 97 = .ok (.aload_n 0, 1) := by decide +kernel
theorem dX9_isItem_98 : decode cX9_isItem 98 = .ok (.bipush 44, 2) := by decide +kernel
theorem dX9_isItem_100 : decode cX9_isItem 100 = .ok (.invokevirtual 196, 3) := by decide +kernel
theorem dX9_isItem_103 : decode cX9_isItem 103 = .ok (.ifCond .eq 24, 3) := by decide +kernel
theorem dX9_isItem_106 : decode cX9_isItem 106 = .ok (.aload_n 0, 1) := by decide +kernel
theorem dX9_isItem_107 : decode cX9_isItem 107 = .ok (.iconst 2, 1) := by decide +kernel
theorem dX9_isItem_108 : decode cX9_isItem 108 = .ok (.iconst 1, 1) := by decide +kernel
theorem dX9_isItem_109 : decode cX9_isItem 109 = .ok (.bipush 60, 2) := by decide +kernel
theorem dX9_isItem_111 : decode cX9_isItem 111 = .ok (.iconst (-1), 1) := by decide +kernel
theorem dX9_isItem_112 : decode cX9_isItem 112 = .ok (.invokevirtual 199, 3) := by decide +kernel
theorem dX9_isItem_115 : decode cX9_isItem 115 = .ok (.ifCond .eq 12, 3) := by decide +kernel
theorem dX9_isItem_118 : decode cX9_isItem 118 = .ok (.aload_n 0, 1) := by decide +kernel
theorem dX9_isItem_119 : decode cX9_isItem 119 = .ok (.bipush 59, 2) := by decide +kernel
theorem dX9_isItem_121 : decode cX9_isItem 121 = .ok (.invokevirtual 196, 3) := by decide +kernel
theorem dX9_isItem_124 : decode cX9_isItem 124 = .ok (.ifCond .ne 5, 3) := by decide +kernel
theorem dX9_isItem_127 : decode cX9_isItem 127 = .ok (.iconst 0, 1) := by decide +kernel
theorem dX9_isItem_128 : decode cX9_isItem 128 = .ok (.ireturn, 1) := by decide +kernel
theorem dX9_isItem_129 : decode cX9_isItem 129 = .ok (.aload_n 0, 1) := by decide +kernel
theorem dX9_isItem_130 : decode cX9_isItem 130 = .ok (.iload_n 1, 1) := by decide +kernel
theorem dX9_isItem_131 : decode cX9_isItem 131 = .ok (.iload_n 2, 1) := by decide +kernel
theorem dX9_isItem_132 : decode cX9_isItem 132 = .ok (.aload_n 0, 1) := by decide +kernel
theorem dX9_isItem_133 : decode cX9_isItem 133 = .ok (.getfield 190, 3) := by decide +kernel
theorem dX9_isItem_136 : decode cX9_isItem 136 = .ok (.invokevirtual 78, 3) := by decide +kernel
theorem dX9_isItem_139 : decode cX9_isItem 139 = .ok (.iconst 1, 1) := by decide +kernel
theorem dX9_isItem_140 : decode cX9_isItem 140 = .ok (.ireturn, 1) := by decide +kernel
theorem dX9_isItem_141 : decode cX9_isItem 141 = .ok (.aload_n 0, 1) := by decide +kernel
theorem dX9_isItem_142 : decode cX9_isItem 142 = .ok (.bipush 97, 2) := by decide +kernel
theorem dX9_isItem_144 : decode cX9_isItem 144 = .ok (.bipush 97, 2) := by decide +kernel
theorem dX9_isItem_146 : decode cX9_isItem 146 = .ok (.invokevirtual 187, 3) := by decide +kernel
theorem dX9_isItem_149 : decode cX9_isItem 149 = .ok (.ifCond .eq 15, 3) := by decide +kernel
theorem dX9_isItem_152 : decode cX9_isItem 152 = .ok (.aload_n 0, 1) := by decide +kernel
theorem dX9_isItem_153 : decode cX9_isItem 153 = .ok (.getfield 7, 3) := by decide +kernel
theorem dX9_isItem_156 : decode cX9_isItem 156 = .ok (.bipush 77, 2) := by decide +kernel
theorem dX9_isItem_158 : decode cX9_isItem 158 = .ok (.iaload, 1) := by decide +kernel
theorem dX9_isItem_159 : decode cX9_isItem 159 = .ok (.bipush 30, 2) := by decide +kernel
theorem dX9_isItem_161 : decode cX9_isItem 161 = .ok (.if_icmp .ne 5, 3) := by decide +kernel
theorem dX9_isItem_164 : decode cX9_isItem 164 = .ok (.iconst 0, 1) := by decide +kernel
theorem dX9_isItem_165 : decode cX9_isItem 165 = .ok (.ireturn, 1) := by decide +kernel
theorem dX9_isItem_166 : decode cX9_isItem 166 = .ok (.aload_n 0, 1) := by decide +kernel
theorem dX9_isItem_167 : decode cX9_isItem 167 = .ok (.dup, 1) := by decide +kernel
theorem dX9_isItem_168 : decode cX9_isItem 168 = .ok (.getfield 184, 3) := by decide +kernel
theorem dX9_isItem_171 : decode cX9_isItem 171 = .ok (.iconst 1, 1) := by decide +kernel
theorem dX9_isItem_172 : decode cX9_isItem 172 = .ok (.iadd, 1) := by decide +kernel
theorem dX9_isItem_173 : decode cX9_isItem 173 = .ok (.putfield 184, 3) := by decide +kernel
theorem dX9_isItem_176 : decode cX9_isItem 176 = .ok (.aload_n 0, 1) := by decide +kernel
theorem dX9_isItem_177 : decode cX9_isItem 177 = .ok (.iconst 2, 1) := by decide +kernel
theorem dX9_isItem_178 : decode cX9_isItem 178 = .ok (.iconst 0, 1) := by decide +kernel
theorem dX9_isItem_179 : decode cX9_isItem 179 = .ok (.aload_n 0, 1) := by decide +kernel
theorem dX9_isItem_180 : decode cX9_isItem 180 = .ok (.getfield 7, 3) := by decide +kernel
theorem dX9_isItem_183 : decode cX9_isItem 183 = .ok (.iconst 4, 1) := by decide +kernel
theorem dX9_isItem_184 : decode cX9_isItem 184 = .ok (.iaload, 1) := by decide +kernel
theorem dX9_isItem_185 : decode cX9_isItem 185 = .ok (.iconst 1, 1) := by decide +kernel
theorem dX9_isItem_186 : decode cX9_isItem 186 = .ok (.isub, 1) := by decide +kernel
theorem dX9_isItem_187 : decode cX9_isItem 187 = .ok (.iconst (-1), 1) := by decide +kernel
theorem dX9_isItem_188 : decode cX9_isItem 188 = .ok (.invokevirtual 199, 3) := by decide +kernel
theorem dX9_isItem_191 : decode cX9_isItem 191 = .ok (.ifCond .ne 5, 3) := by decide +kernel
theorem dX9_isItem_194 : decode cX9_isItem 194 = .ok (.iconst 0, 1) := by decide +kernel
theorem dX9_isItem_195 : decode cX9_isItem 195 = .ok (.ireturn, 1) := by decide +kernel
theorem dX9_isItem_196 : decode cX9_isItem 196 = .ok (.aload_n 0, 1) := by decide +kernel
theorem dX9_isItem_197 : decode cX9_isItem 197 = .ok (.getfield 190, 3) := by decide +kernel
theorem dX9_isItem_200 : decode cX9_isItem 200 = .ok (.istore_n 1, 1) := by decide +kernel
theorem dX9_isItem_201 : decode cX9_isItem 201 = .ok (.aload_n 0, 1) := by decide +kernel
theorem dX9_isItem_202 : decode cX9_isItem 202 = .ok (.bipush 44, 2) := by decide +kernel
theorem dX9_isItem_204 : decode cX9_isItem 204 = .ok (.invokevirtual 196, 3) := by decide +kernel
theorem dX9_isItem_207 : decode cX9_isItem 207 = .ok (.ifCond .eq 30, 3) := by decide +kernel
theorem dX9_isItem_210 : decode cX9_isItem 210 = .ok (.aload_n 0, 1) := by decide +kernel
theorem dX9_isItem_211 : decode cX9_isItem 211 = .ok (.iconst 2, 1) := by decide +kernel
theorem dX9_isItem_212 : decode cX9_isItem 212 = .ok (.iconst 0, 1) := by decide +kernel
theorem dX9_isItem_213 : decode cX9_isItem 213 = .ok (.aload_n 0, 1) := by decide +kernel
theorem dX9_isItem_214 : decode cX9_isItem 214 = .ok (.getfield 7, 3) := by decide +kernel
theorem dX9_isItem_217 : decode cX9_isItem 217 = .ok (.iconst 4, 1) := by decide +kernel
theorem dX9_isItem_218 : decode cX9_isItem 218 = .ok (.iaload, 1) := by decide +kernel
theorem dX9_isItem_219 : decode cX9_isItem 219 = .ok (.iconst 1, 1) := by decide +kernel
theorem dX9_isItem_220 : decode cX9_isItem 220 = .ok (.isub, 1) := by decide +kernel
theorem dX9_isItem_221 : decode cX9_isItem 221 = .ok (.iload_n 1, 1) := by decide +kernel
theorem dX9_isItem_222 : decode cX9_isItem 222 = .ok (.invokevirtual 199, 3) := by decide +kernel
theorem dX9_isItem_225 : decode cX9_isItem 225 = .ok (.ifCond .eq 12, 3) := by decide +kernel
theorem dX9_isItem_228 : decode cX9_isItem 228 = .ok (.aload_n 0, 1) := by decide +kernel
theorem dX9_isItem_229 : decode cX9_isItem 229 = .ok (.bipush 59, 2) := by decide +kernel
theorem dX9_isItem_231 : decode cX9_isItem 231 = .ok (.invokevirtual 196, 3) := by decide +kernel
theorem dX9_isItem_234 : decode cX9_isItem 234 = .ok (.ifCond .ne 5, 3) := by decide +kernel
theorem dX9_isItem_237 : decode cX9_isItem 237 = .ok (.iconst 0, 1) := by decide +kernel
theorem dX9_isItem_238 : decode cX9_isItem 238 = .ok (.ireturn, 1) := by decide +kernel
theorem dX9_isItem_239 : decode cX9_isItem 239 = .ok (.aload_n 0, 1) := by decide +kernel
theorem dX9_isItem_240 : decode cX9_isItem 240 = .ok (.iload_n 1, 1) := by decide +kernel
theorem dX9_isItem_241 : decode cX9_isItem 241 = .ok (.aload_n 0, 1) := by decide +kernel
theorem dX9_isItem_242 : decode cX9_isItem 242 = .ok (.getfield 190, 3) := by decide +kernel
theorem dX9_isItem_245 : decode cX9_isItem 245 = .ok (.invokevirtual 93, 3) := by decide +kernel
theorem dX9_isItem_248 : decode cX9_isItem 248 = .ok (.ifCond .ne 12, 3) := by decide +kernel
theorem dX9_isItem_251 : decode cX9_isItem 251 = .ok (.aload_n 0, 1) := by decide +kernel
theorem dX9_isItem_252 : decode cX9_isItem 252 = .ok (.iload_n 1, 1) := by decide +kernel
theorem dX9_isItem_253 : decode cX9_isItem 253 = .ok (.aload_n 0, 1) := by decide +kernel
theorem dX9_isItem_254 : decode cX9_isItem 254 = .ok (.getfield 190, 3) := by decide +kernel
theorem dX9_isItem_257 : decode cX9_isItem 257 = .ok (.invokevirtual 96, 3) := by decide +kernel
theorem dX9_isItem_260 : decode cX9_isItem 260 = .ok (.iconst 1, 1) := by decide +kernel
theorem dX9_isItem_261 : decode cX9_isItem 261 = .ok (.ireturn, 1) := by decide +kernel
theorem dX9_parse_0 : decode cX9_parse 0 = .ok (.aload_n 0, 1) := by decide +kernel
theorem dX9_parse_1 : decode cX9_parse 1 = .ok (.iconst 0, 1) := by decide +kernel
theorem dX9_parse_2 : decode cX9_parse 2 = .ok (.putfield 40, 3) := by decide +kernel
theorem dX9_parse_5 : decode cX9_parse 5 = .ok (.aload_n 0, 1) := by decide +kernel
theorem dX9_parse_6 : decode cX9_parse 6 = .ok (.invokevirtual 66, 3) := by decide +kernel
theorem dX9_parse_9 : decode cX9_parse 9 = .ok (.aload_n 0, 1) := by decide +kernel
theorem dX9_parse_10 : decode cX9_parse 10 = .ok (.getfield 7, 3) := by decide +kernel
theorem dX9_parse_13 : decode cX9_parse 13 = .ok (.iconst 4, 1) := by decide +kernel
theorem dX9_parse_14 : decode cX9_parse 14 = .ok (.iconst 0, 1) := by decide +kernel
theorem dX9_parse_15 : decode cX9_parse 15 = .ok (.iastore, 1) := by decide +kernel
theorem dX9_parse_16 : decode cX9_parse 16 = .ok (.aload_n 0, 1) := by decide +kernel
theorem dX9_parse_17 : decode cX9_parse 17 = .ok (.getfield 7, 3) := by decide +kernel
theorem dX9_parse_20 : decode cX9_parse 20 = .ok (.bipush 77, 2) := by decide +kernel
theorem dX9_parse_22 : decode cX9_parse 22 = .ok (.iconst 0, 1) := by decide +kernel
theorem dX9_parse_23 : decode cX9_parse 23 = .ok (.iastore, 1) := by decide +kernel
theorem dX9_parse_24 : decode cX9_parse 24 = .ok (.aload_n 0, 1) := by decide +kernel
theorem dX9_parse_25 : decode cX9_parse 25 = .ok (.iconst 0, 1) := by decide +kernel
theorem dX9_parse_26 : decode cX9_parse 26 = .ok (.putfield 184, 3) := by decide +kernel
theorem dX9_parse_29 : decode cX9_parse 29 = .ok (.aload_n 0, 1) := by decide +kernel
theorem dX9_parse_30 : decode cX9_parse 30 = .ok (.getfield 184, 3) := by decide +kernel
theorem dX9_parse_33 : decode cX9_parse 33 = .ok (.aload_n 0, 1) := by decide +kernel
theorem dX9_parse_34 : decode cX9_parse 34 = .ok (.getfield 181, 3) := by decide +kernel
theorem dX9_parse_37 : decode cX9_parse 37 = .ok (.if_icmp .ge 45, 3) := by decide +kernel
theorem dX9_parse_40 : decode cX9_parse 40 = .ok (.aload_n 0, 1) := by decide +kernel
theorem dX9_parse_41 : decode cX9_parse 41 = .ok (.invokevirtual 203, 3) := by decide +kernel
theorem dX9_parse_44 : decode cX9_parse 44 = .ok (.ifCond .ne (-15), 3) := by decide +kernel
theorem dX9_parse_47 : decode cX9_parse 47 = .ok (.iconst 0, 1) := by decide +kernel
theorem dX9_parse_48 : decode cX9_parse 48 = .ok (.istore_n 1, 1) := by decide +kernel
theorem dX9_parse_49 : decode cX9_parse 49 = .ok (.iload_n 1, 1) := by decide +kernel
theorem dX9_parse_50 : decode cX9_parse 50 = .ok (.sipush 138, 3) := by decide +kernel
theorem dX9_parse_53 : decode cX9_parse 53 = .ok (.if_icmp .ge 21, 3) := by decide +kernel
theorem dX9_parse_56 : decode cX9_parse 56 = .ok (.aload_n 0, 1) := by decide +kernel
theorem dX9_parse_57 : decode cX9_parse 57 = .ok (.getfield 7, 3) := by decide +kernel
theorem dX9_parse_60 : decode cX9_parse 60 = .ok (.iload_n 1, 1) := by decide +kernel
theorem dX9_parse_61 : decode cX9_parse 61 = .ok (.aload_n 0, 1) := by decide +kernel
theorem dX9_parse_62 : decode cX9_parse 62 = .ok (.getfield 16, 3) := by decide +kernel
theorem dX9_parse_65 : decode cX9_parse 65 = .ok (.iload_n 1, 1) := by decide +kernel
theorem dX9_parse_66 : decode cX9_parse 66 = .ok (.iaload, 1) := by decide +kernel
theorem dX9_parse_67 : decode cX9_parse 67 = .ok (.iastore, 1) := by decide +kernel
theorem dX9_parse_68 : decode cX9_parse 68 = .ok (.iinc 1 1, 3) := by decide +kernel
theorem dX9_parse_71 : decode cX9_parse 71 = .ok (.goto (-22), 3) := by decide +kernel
theorem dX9_parse_74 : decode cX9_parse 74 = .ok (.bipush (-10), 2) := by decide +kernel
theorem dX9_parse_76 : decode cX9_parse 76 = .ok (.aload_n 0, 1) := by decide +kernel
theorem dX9_parse_77 : decode cX9_parse 77 = .ok (.getfield 184, 3) := by decide +kernel
theorem dX9_parse_80 : decode cX9_parse 80 = .ok (.isub, 1) := by decide +kernel
theorem dX9_parse_81 : decode cX9_parse 81 = .ok (.ireturn, 1) := by decide +kernel
theorem dX9_parse_82 : decode cX9_parse 82 = .ok (.aload_n 0, 1) := by decide +kernel
theorem dX9_parse_83 : decode cX9_parse 83 = .ok (.aload_n 0, 1) := by decide +kernel
theorem dX9_parse_84 : decode cX9_parse 84 = .ok (.getfield 7, 3) := by decide +kernel
theorem dX9_parse_87 : decode cX9_parse 87 = .ok (.iconst 4, 1) := by decide +kernel
theorem dX9_parse_88 : decode cX9_parse 88 = .ok (.iaload, 1) := by decide +kernel
theorem dX9_parse_89 : decode cX9_parse 89 = .ok (.invokevirtual 69, 3) := by decide +kernel
theorem dX9_parse_92 : decode cX9_parse 92 = .ok (.ireturn, 1) := by decide +kernel
theorem dX9_undo_0 : decode cX9_undo 0 = .ok (.aload_n 0, 1) := by decide +kernel
theorem dX9_undo_1 : decode cX9_undo 1 = .ok (.getfield 44, 3) := by decide +kernel
theorem dX9_undo_4 : decode cX9_undo 4 = .ok (.ifCond .ne 9, 3) := by decide +kernel
theorem dX9_undo_7 : decode cX9_undo 7 = .ok (.aload_n 0, 1) := by decide +kernel
theorem dX9_undo_8 : decode cX9_undo 8 = .ok (.iconst 1, 1) := by decide +kernel
theorem dX9_undo_9 : decode cX9_undo 9 = .ok (.invokevirtual 63, 3) := by decide +kernel
theorem dX9_undo_12 : decode cX9_undo 12 = .ok (.ireturn, 1) := by decide +kernel
theorem dX9_undo_13 : decode cX9_undo 13 = .ok (.aload_n 0, 1) := by decide +kernel
theorem dX9_undo_14 : decode cX9_undo 14 = .ok (.dup, 1) := by decide +kernel
theorem dX9_undo_15 : decode cX9_undo 15 = .ok (.getfield 44, 3) := by decide +kernel
theorem dX9_undo_18 : decode cX9_undo 18 = .ok (.iconst 1, 1) := by decide +kernel
theorem dX9_undo_19 : decode cX9_undo 19 = .ok (.isub, 1) := by decide +kernel
theorem dX9_undo_20 : decode cX9_undo 20 = .ok (.putfield 44, 3) := by decide +kernel
theorem dX9_undo_23 : decode cX9_undo 23 = .ok (.iconst 0, 1) := by decide +kernel
theorem dX9_undo_24 : decode cX9_undo 24 = .ok (.istore_n 1, 1) := by decide +kernel
theorem dX9_undo_25 : decode cX9_undo 25 = .ok (.iload_n 1, 1) := by decide +kernel
theorem dX9_undo_26 : decode cX9_undo 26 = .ok (.sipush 138, 3) := by decide +kernel
theorem dX9_undo_29 : decode cX9_undo 29 = .ok (.if_icmp .ge 30, 3) := by decide +kernel
theorem dX9_undo_32 : decode cX9_undo 32 = .ok (.aload_n 0, 1) := by decide +kernel
theorem dX9_undo_33 : decode cX9_undo 33 = .ok (.getfield 7, 3) := by decide +kernel
theorem dX9_undo_36 : decode cX9_undo 36 = .ok (.iload_n 1, 1) := by decide +kernel
theorem dX9_undo_37 : decode cX9_undo 37 = .ok (.aload_n 0, 1) := by decide +kernel
theorem dX9_undo_38 : decode cX9_undo 38 = .ok (.getfield 13, 3) := by decide +kernel
theorem dX9_undo_41 : decode cX9_undo 41 = .ok (.sipush 138, 3) := by decide +kernel
theorem dX9_undo_44 : decode cX9_undo 44 = .ok (.aload_n 0, 1) := by decide +kernel
theorem dX9_undo_45 : decode cX9_undo 45 = .ok (.getfield 44, 3) := by decide +kernel
theorem dX9_undo_48 : decode cX9_undo 48 = .ok (.imul, 1) := by decide +kernel
theorem dX9_undo_49 : decode cX9_undo 49 = .ok (.iload_n 1, 1) := by decide +kernel
theorem dX9_undo_50 : decode cX9_undo 50 = .ok (.iadd, 1) := by decide +kernel
theorem dX9_undo_51 : decode cX9_undo 51 = .ok (.iaload, 1) := by decide +kernel
theorem dX9_undo_52 : decode cX9_undo 52 = .ok (.iastore, 1) := by decide +kernel
theorem dX9_undo_53 : decode cX9_undo 53 = .ok (.iinc 1 1, 3) := by decide +kernel
theorem dX9_undo_56 : decode cX9_undo 56 = .ok (.goto (-31), 3) := by decide +kernel
theorem dX9_undo_59 : decode cX9_undo 59 = .ok (.aload_n 0, 1) := by decide +kernel
theorem dX9_undo_60 : decode cX9_undo 60 = .ok (.aload_n 0, 1) := by decide +kernel
theorem dX9_undo_61 : decode cX9_undo 61 = .ok (.getfield 44, 3) := by decide +kernel
theorem dX9_undo_64 : decode cX9_undo 64 = .ok (.invokevirtual 47, 3) := by decide +kernel
theorem dX9_undo_67 : decode cX9_undo 67 = .ok (.ireturn, 1) := by decide +kernel
theorem dX9_mix_0 : decode cX9_mix 0 = .ok (.aload_n 0, 1) := by decide +kernel
theorem dX9_mix_1 : decode cX9_mix 1 = .ok (.ldc2_w 207, 3) := by decide +kernel
theorem dX9_mix_4 : decode cX9_mix 4 = .ok (.aload_n 0, 1) := by decide +kernel
theorem dX9_mix_5 : decode cX9_mix 5 = .ok (.getfield 209, 3) := by decide +kernel
theorem dX9_mix_8 : decode cX9_mix 8 = .ok (.lmul, 1) := by decide +kernel
theorem dX9_mix_9 : decode cX9_mix 9 = .ok (.iload_n 1, 1) := by decide +kernel
theorem dX9_mix_10 : decode cX9_mix 10 = .ok (.i2l, 1) := by decide +kernel
theorem dX9_mix_11 : decode cX9_mix 11 = .ok (.ladd, 1) := by decide +kernel
theorem dX9_mix_12 : decode cX9_mix 12 = .ok (.putfield 209, 3) := by decide +kernel
theorem dX9_mix_15 : decode cX9_mix 15 = .ok (.return_, 1) := by decide +kernel
theorem dX9_digest_0 : decode cX9_digest 0 = .ok (.aload_n 0, 1) := by decide +kernel
theorem dX9_digest_1 : decode cX9_digest 1 = .ok (.iconst 0, 1) := by decide +kernel
theorem dX9_digest_2 : decode cX9_digest 2 = .ok (.putfield 40, 3) := by decide +kernel
theorem dX9_digest_5 : decode cX9_digest 5 = .ok (.aload_n 0, 1) := by decide +kernel
theorem dX9_digest_6 : decode cX9_digest 6 = .ok (.invokevirtual 155, 3) := by decide +kernel
theorem dX9_digest_9 : decode cX9_digest 9 = .ok (.aload_n 0, 1) := by decide +kernel
theorem dX9_digest_10 : decode cX9_digest 10 = .ok (.ldc2_w 213, 3) := by decide +kernel
theorem dX9_digest_13 : decode cX9_digest 13 = .ok (.putfield 209, 3) := by decide +kernel
theorem dX9_digest_16 : decode cX9_digest 16 = .ok (.aload_n 0, 1) := by decide +kernel
theorem dX9_digest_17 : decode cX9_digest 17 = .ok (.aload_n 0, 1) := by decide +kernel
theorem dX9_digest_18 : decode cX9_digest 18 = .ok (.getfield 181, 3) := by decide +kernel
theorem dX9_digest_21 : decode cX9_digest 21 = .ok (.invokevirtual 215, 3) := by decide +kernel
theorem dX9_digest_24 : decode cX9_digest 24 = .ok (.iconst 0, 1) := by decide +kernel
theorem dX9_digest_25 : decode cX9_digest 25 = .ok (.istore_n 1, 1) := by decide +kernel
theorem dX9_digest_26 : decode cX9_digest 26 = .ok (.iload_n 1, 1) := by decide +kernel
theorem dX9_digest_27 : decode cX9_digest 27 = .ok (.bipush 6, 2) := by decide +kernel
theorem dX9_digest_29 : decode cX9_digest 29 = .ok (.if_icmp .ge 18, 3) := by decide +kernel
theorem dX9_digest_32 : decode cX9_digest 32 = .ok (.aload_n 0, 1) := by decide +kernel
theorem dX9_digest_33 : decode cX9_digest 33 = .ok (.aload_n 0, 1) := by decide +kernel
theorem dX9_digest_34 : decode cX9_digest 34 = .ok (.iload_n 1, 1) := by decide +kernel
theorem dX9_digest_35 : decode cX9_digest 35 = .ok (.invokevirtual 72, 3) := by decide +kernel
theorem dX9_digest_38 : decode cX9_digest 38 = .ok (.invokevirtual 215, 3) := by decide +kernel
theorem dX9_digest_41 : decode cX9_digest 41 = .ok (.iinc 1 1, 3) := by decide +kernel
theorem dX9_digest_44 : decode cX9_digest 44 = .ok (.goto (-18), 3) := by decide +kernel
theorem dX9_digest_47 : decode cX9_digest 47 = .ok (.iconst 0, 1) := by decide +kernel
theorem dX9_digest_48 : decode cX9_digest 48 = .ok (.istore_n 1, 1) := by decide +kernel
theorem dX9_digest_49 : decode cX9_digest 49 = .ok (.iload_n 1, 1) := by decide +kernel
theorem dX9_digest_50 : decode cX9_digest 50 = .ok (.aload_n 0, 1) := by decide +kernel
theorem dX9_digest_51 : decode cX9_digest 51 = .ok (.getfield 7, 3) := by decide +kernel
theorem dX9_digest_54 : decode cX9_digest 54 = .ok (.iconst 4, 1) := by decide +kernel
theorem dX9_digest_55 : decode cX9_digest 55 = .ok (.iaload, 1) := by decide +kernel
theorem dX9_digest_56 : decode cX9_digest 56 = .ok (.if_icmp .ge 33, 3) := by decide +kernel
theorem dX9_digest_59 : decode cX9_digest 59 = .ok (.iconst 0, 1) := by decide +kernel
theorem dX9_digest_60 : decode cX9_digest 60 = .ok (.istore_n 2, 1) := by decide +kernel
theorem dX9_digest_61 : decode cX9_digest 61 = .ok (.iload_n 2, 1) := by decide +kernel
theorem dX9_digest_62 : decode cX9_digest 62 = .ok (.bipush 7, 2) := by decide +kernel
theorem dX9_digest_64 : decode cX9_digest 64 = .ok (.if_icmp .ge 19, 3) := by decide +kernel
theorem dX9_digest_67 : decode cX9_digest 67 = .ok (.aload_n 0, 1) := by decide +kernel
theorem dX9_digest_68 : decode cX9_digest 68 = .ok (.aload_n 0, 1) := by decide +kernel
theorem dX9_digest_69 : decode cX9_digest 69 = .ok (.iload_n 1, 1) := by decide +kernel
theorem dX9_digest_70 : decode cX9_digest 70 = .ok (.iload_n 2, 1) := by decide +kernel
theorem dX9_digest_71 : decode cX9_digest 71 = .ok (.invokevirtual 152, 3) := by decide +kernel
theorem dX9_digest_74 : decode cX9_digest 74 = .ok (.invokevirtual 215, 3) := by decide +kernel
theorem dX9_digest_77 : decode cX9_digest 77 = .ok (.iinc 2 1, 3) := by decide +kernel
theorem dX9_digest_80 : decode cX9_digest 80 = .ok (.goto (-19), 3) := by decide +kernel
theorem dX9_digest_83 : decode cX9_digest 83 = .ok (.iinc 1 1, 3) := by decide +kernel
theorem dX9_digest_86 : decode cX9_digest 86 = .ok (.goto (-37), 3) := by decide +kernel
theorem dX9_digest_89 : decode cX9_digest 89 = .ok (.aload_n 0, 1) := by decide +kernel
theorem dX9_digest_90 : decode cX9_digest 90 = .ok (.aload_n 0, 1) := by decide +kernel
theorem dX9_digest_91 : decode cX9_digest 91 = .ok (.getfield 103, 3) := by decide +kernel
theorem dX9_digest_94 : decode cX9_digest 94 = .ok (.invokevirtual 215, 3) := by decide +kernel
theorem dX9_digest_97 : decode cX9_digest 97 = .ok (.iconst 0, 1) := by decide +kernel
theorem dX9_digest_98 : decode cX9_digest 98 = .ok (.istore_n 1, 1) := by decide +kernel
theorem dX9_digest_99 : decode cX9_digest 99 = .ok (.iload_n 1, 1) := by decide +kernel
theorem dX9_digest_100 : decode cX9_digest 100 = .ok (.aload_n 0, 1) := by decide +kernel
theorem dX9_digest_101 : decode cX9_digest 101 = .ok (.getfield 103, 3) := by decide +kernel
theorem dX9_digest_104 : decode cX9_digest 104 = .ok (.aload_n 0, 1) := by decide +kernel
theorem dX9_digest_105 : decode cX9_digest 105 = .ok (.getfield 7, 3) := by decide +kernel
theorem dX9_digest_108 : decode cX9_digest 108 = .ok (.iconst 0, 1) := by decide +kernel
theorem dX9_digest_109 : decode cX9_digest 109 = .ok (.iaload, 1) := by decide +kernel
theorem dX9_digest_110 : decode cX9_digest 110 = .ok (.imul, 1) := by decide +kernel
theorem dX9_digest_111 : decode cX9_digest 111 = .ok (.if_icmp .ge 38, 3) := by decide +kernel
theorem dX9_digest_114 : decode cX9_digest 114 = .ok (.aload_n 0, 1) := by decide +kernel
theorem dX9_digest_115 : decode cX9_digest 115 = .ok (.aload_n 0, 1) := by decide +kernel
theorem dX9_digest_116 : decode cX9_digest 116 = .ok (.getfield 22, 3) := by decide +kernel
theorem dX9_digest_119 : decode cX9_digest 119 = .ok (.bipush 20, 2) := by decide +kernel
theorem dX9_digest_121 : decode cX9_digest 121 = .ok (.iload_n 1, 1) := by decide +kernel
theorem dX9_digest_122 : decode cX9_digest 122 = .ok (.aload_n 0, 1) := by decide +kernel
theorem dX9_digest_123 : decode cX9_digest 123 = .ok (.getfield 7, 3) := by decide +kernel
theorem dX9_digest_126 : decode cX9_digest 126 = .ok (.iconst 0, 1) := by decide +kernel
theorem dX9_digest_127 : decode cX9_digest 127 = .ok (.iaload, 1) := by decide +kernel
theorem dX9_digest_128 : decode cX9_digest 128 = .ok (.idiv, 1) := by decide +kernel
theorem dX9_digest_129 : decode cX9_digest 129 = .ok (.imul, 1) := by decide +kernel
theorem dX9_digest_130 : decode cX9_digest 130 = .ok (.iload_n 1, 1) := by decide +kernel
theorem dX9_digest_131 : decode cX9_digest 131 = .ok (.aload_n 0, 1) := by decide +kernel
theorem dX9_digest_132 : decode cX9_digest 132 = .ok (.getfield 7, 3) := by decide +kernel
theorem dX9_digest_135 : decode cX9_digest 135 = .ok (.iconst 0, 1) := by decide +kernel
theorem dX9_digest_136 : decode cX9_digest 136 = .ok (.iaload, 1) := by decide +kernel
theorem dX9_digest_137 : decode cX9_digest 137 = .ok (.irem, 1) := by decide +kernel
theorem dX9_digest_138 : decode cX9_digest 138 = .ok (.iadd, 1) := by decide +kernel
theorem dX9_digest_139 : decode cX9_digest 139 = .ok (.iaload, 1) := by decide +kernel
theorem dX9_digest_140 : decode cX9_digest 140 = .ok (.invokevirtual 215, 3) := by decide +kernel
theorem dX9_digest_143 : decode cX9_digest 143 = .ok (.iinc 1 1, 3) := by decide +kernel
theorem dX9_digest_146 : decode cX9_digest 146 = .ok (.goto (-47), 3) := by decide +kernel
theorem dX9_digest_149 : decode cX9_digest 149 = .ok (.aload_n 0, 1) := by decide +kernel
theorem dX9_digest_150 : decode cX9_digest 150 = .ok (.aload_n 0, 1) := by decide +kernel
theorem dX9_digest_151 : decode cX9_digest 151 = .ok (.getfield 130, 3) := by decide +kernel
theorem dX9_digest_154 : decode cX9_digest 154 = .ok (.invokevirtual 215, 3) := by decide +kernel
theorem dX9_digest_157 : decode cX9_digest 157 = .ok (.iconst 0, 1) := by decide +kernel
theorem dX9_digest_158 : decode cX9_digest 158 = .ok (.istore_n 1, 1) := by decide +kernel
theorem dX9_digest_159 : decode cX9_digest 159 = .ok (.iload_n 1, 1) := by decide +kernel
theorem dX9_digest_160 : decode cX9_digest 160 = .ok (.aload_n 0, 1) := by decide +kernel
theorem dX9_digest_161 : decode cX9_digest 161 = .ok (.getfield 130, 3) := by decide +kernel
theorem dX9_digest_164 : decode cX9_digest 164 = .ok (.if_icmp .ge 32, 3) := by decide +kernel
theorem dX9_digest_167 : decode cX9_digest 167 = .ok (.iconst 0, 1) := by decide +kernel
theorem dX9_digest_168 : decode cX9_digest 168 = .ok (.istore_n 2, 1) := by decide +kernel
theorem dX9_digest_169 : decode cX9_digest 169 = .ok (.iload_n 2, 1) := by decide +kernel
theorem dX9_digest_170 : decode cX9_digest 170 = .ok (.iconst 5, 1) := by decide +kernel
theorem dX9_digest_171 : decode cX9_digest 171 = .ok (.if_icmp .ge 19, 3) := by decide +kernel
theorem dX9_digest_174 : decode cX9_digest 174 = .ok (.aload_n 0, 1) := by decide +kernel
theorem dX9_digest_175 : decode cX9_digest 175 = .ok (.aload_n 0, 1) := by decide +kernel
theorem dX9_digest_176 : decode cX9_digest 176 = .ok (.iload_n 1, 1) := by decide +kernel
theorem dX9_digest_177 : decode cX9_digest 177 = .ok (.iload_n 2, 1) := by decide +kernel
theorem dX9_digest_178 : decode cX9_digest 178 = .ok (.invokevirtual 165, 3) := by decide +kernel
theorem dX9_digest_181 : decode cX9_digest 181 = .ok (.invokevirtual 215, 3) := by decide +kernel
theorem dX9_digest_184 : decode cX9_digest 184 = .ok (.iinc 2 1, 3) := by decide +kernel
theorem dX9_digest_187 : decode cX9_digest 187 = .ok (.goto (-18), 3) := by decide +kernel
theorem dX9_digest_190 : decode cX9_digest 190 = .ok (.iinc 1 1, 3) := by decide +kernel
theorem dX9_digest_193 : decode cX9_digest 193 = .ok (.goto (-34), 3) := by decide +kernel
theorem dX9_digest_196 : decode cX9_digest 196 = .ok (.iconst 0, 1) := by decide +kernel
theorem dX9_digest_197 : decode cX9_digest 197 = .ok (.istore_n 1, 1) := by decide +kernel
theorem dX9_digest_198 : decode cX9_digest 198 = .ok (.iload_n 1, 1) := by decide +kernel
theorem dX9_digest_199 : decode cX9_digest 199 = .ok (.aload_n 0, 1) := by decide +kernel
theorem dX9_digest_200 : decode cX9_digest 200 = .ok (.getfield 7, 3) := by decide +kernel
theorem dX9_digest_203 : decode cX9_digest 203 = .ok (.bipush 77, 2) := by decide +kernel
theorem dX9_digest_205 : decode cX9_digest 205 = .ok (.iaload, 1) := by decide +kernel
theorem dX9_digest_206 : decode cX9_digest 206 = .ok (.if_icmp .ge 33, 3) := by decide +kernel
theorem dX9_digest_209 : decode cX9_digest 209 = .ok (.iconst 0, 1) := by decide +kernel
theorem dX9_digest_210 : decode cX9_digest 210 = .ok (.istore_n 2, 1) := by decide +kernel
theorem dX9_digest_211 : decode cX9_digest 211 = .ok (.iload_n 2, 1) := by decide +kernel
theorem dX9_digest_212 : decode cX9_digest 212 = .ok (.bipush 6, 2) := by decide +kernel
theorem dX9_digest_214 : decode cX9_digest 214 = .ok (.if_icmp .ge 19, 3) := by decide +kernel
theorem dX9_digest_217 : decode cX9_digest 217 = .ok (.aload_n 0, 1) := by decide +kernel
theorem dX9_digest_218 : decode cX9_digest 218 = .ok (.aload_n 0, 1) := by decide +kernel
theorem dX9_digest_219 : decode cX9_digest 219 = .ok (.iload_n 1, 1) := by decide +kernel
theorem dX9_digest_220 : decode cX9_digest 220 = .ok (.iload_n 2, 1) := by decide +kernel
theorem dX9_digest_221 : decode cX9_digest 221 = .ok (.invokevirtual 174, 3) := by decide +kernel
theorem dX9_digest_224 : decode cX9_digest 224 = .ok (.invokevirtual 215, 3) := by decide +kernel
theorem dX9_digest_227 : decode cX9_digest 227 = .ok (.iinc 2 1, 3) := by decide +kernel
theorem dX9_digest_230 : decode cX9_digest 230 = .ok (.goto (-19), 3) := by decide +kernel
theorem dX9_digest_233 : decode cX9_digest 233 = .ok (.iinc 1 1, 3) := by decide +kernel
theorem dX9_digest_236 : decode cX9_digest 236 = .ok (.goto (-38), 3) := by decide +kernel
theorem dX9_digest_239 : decode cX9_digest 239 = .ok (.aload_n 0, 1) := by decide +kernel
theorem dX9_digest_240 : decode cX9_digest 240 = .ok (.aload_n 0, 1) := by decide +kernel
theorem dX9_digest_241 : decode cX9_digest 241 = .ok (.invokevirtual 177, 3) := by decide +kernel
theorem dX9_digest_244 : decode cX9_digest 244 = .ok (.invokevirtual 215, 3) := by decide +kernel
theorem dX9_digest_247 : decode cX9_digest 247 = .ok (.aload_n 0, 1) := by decide +kernel
theorem dX9_digest_248 : decode cX9_digest 248 = .ok (.aload_n 0, 1) := by decide +kernel
theorem dX9_digest_249 : decode cX9_digest 249 = .ok (.getfield 44, 3) := by decide +kernel
theorem dX9_digest_252 : decode cX9_digest 252 = .ok (.invokevirtual 215, 3) := by decide +kernel
theorem dX9_digest_255 : decode cX9_digest 255 = .ok (.aload_n 0, 1) := by decide +kernel
theorem dX9_digest_256 : decode cX9_digest 256 = .ok (.getfield 209, 3) := by decide +kernel
theorem dX9_digest_259 : decode cX9_digest 259 = .ok (.lreturn, 1) := by decide +kernel
theorem dJ9_max_7cf53_0 : decode cJ9_max_7cf53 0 = .ok (.iload_n 0, 1) := by decide +kernel
theorem dJ9_max_7cf53_1 : decode cJ9_max_7cf53 1 = .ok (.iload_n 1, 1) := by decide +kernel
theorem dJ9_max_7cf53_2 : decode cJ9_max_7cf53 2 = .ok (.if_icmp .lt 7, 3) := by decide +kernel
theorem dJ9_max_7cf53_5 : decode cJ9_max_7cf53 5 = .ok (.iload_n 0, 1) := by decide +kernel
theorem dJ9_max_7cf53_6 : decode cJ9_max_7cf53 6 = .ok (.goto 4, 3) := by decide +kernel
theorem dJ9_max_7cf53_9 : decode cJ9_max_7cf53 9 = .ok (.iload_n 1, 1) := by decide +kernel
theorem dJ9_max_7cf53_10 : decode cJ9_max_7cf53 10 = .ok (.ireturn, 1) := by decide +kernel
theorem dJ9_min_7cf53_0 : decode cJ9_min_7cf53 0 = .ok (.iload_n 0, 1) := by decide +kernel
theorem dJ9_min_7cf53_1 : decode cJ9_min_7cf53 1 = .ok (.iload_n 1, 1) := by decide +kernel
theorem dJ9_min_7cf53_2 : decode cJ9_min_7cf53 2 = .ok (.if_icmp .gt 7, 3) := by decide +kernel
theorem dJ9_min_7cf53_5 : decode cJ9_min_7cf53 5 = .ok (.iload_n 0, 1) := by decide +kernel
theorem dJ9_min_7cf53_6 : decode cJ9_min_7cf53 6 = .ok (.goto 4, 3) := by decide +kernel
theorem dJ9_min_7cf53_9 : decode cJ9_min_7cf53 9 = .ok (.iload_n 1, 1) := by decide +kernel
theorem dJ9_min_7cf53_10 : decode cJ9_min_7cf53 10 = .ok (.ireturn, 1) := by decide +kernel
theorem dL_set_0 : decode cL_set 0 = .ok (.aload_n 3, 1) := by decide +kernel
theorem dL_set_1 : decode cL_set 1 = .ok (.iconst 0, 1) := by decide +kernel
theorem dL_set_2 : decode cL_set 2 = .ok (.aload_n 0, 1) := by decide +kernel
theorem dL_set_3 : decode cL_set 3 = .ok (.iload_n 1, 1) := by decide +kernel
theorem dL_set_4 : decode cL_set 4 = .ok (.iload_n 2, 1) := by decide +kernel
theorem dL_set_5 : decode cL_set 5 = .ok (.invokevirtual 7, 3) := by decide +kernel
theorem dL_set_8 : decode cL_set 8 = .ok (.i2l, 1) := by decide +kernel
theorem dL_set_9 : decode cL_set 9 = .ok (.lastore, 1) := by decide +kernel
theorem dL_set_10 : decode cL_set 10 = .ok (.goto 7, 3) := by decide +kernel
theorem dL_set_13 : decode cL_set 13 = .ok (.astore 4, 2) := by decide +kernel
theorem dL_set_15 : decode cL_set 15 = .ok (.iconst 1, 1) := by decide +kernel
theorem dL_set_16 : decode cL_set 16 = .ok (.ireturn, 1) := by decide +kernel
theorem dL_set_17 : decode cL_set 17 = .ok (.iconst 0, 1) := by decide +kernel
theorem dL_set_18 : decode cL_set 18 = .ok (.ireturn, 1) := by decide +kernel
theorem dL_value_0 : decode cL_value 0 = .ok (.aload_n 2, 1) := by decide +kernel
theorem dL_value_1 : decode cL_value 1 = .ok (.iconst 0, 1) := by decide +kernel
theorem dL_value_2 : decode cL_value 2 = .ok (.aload_n 0, 1) := by decide +kernel
theorem dL_value_3 : decode cL_value 3 = .ok (.iload_n 1, 1) := by decide +kernel
theorem dL_value_4 : decode cL_value 4 = .ok (.invokevirtual 15, 3) := by decide +kernel
theorem dL_value_7 : decode cL_value 7 = .ok (.i2l, 1) := by decide +kernel
theorem dL_value_8 : decode cL_value 8 = .ok (.lastore, 1) := by decide +kernel
theorem dL_value_9 : decode cL_value 9 = .ok (.goto 6, 3) := by decide +kernel
theorem dL_value_12 : decode cL_value 12 = .ok (.astore_n 3, 1) := by decide +kernel
theorem dL_value_13 : decode cL_value 13 = .ok (.iconst 1, 1) := by decide +kernel
theorem dL_value_14 : decode cL_value 14 = .ok (.ireturn, 1) := by decide +kernel
theorem dL_value_15 : decode cL_value 15 = .ok (.iconst 0, 1) := by decide +kernel
theorem dL_value_16 : decode cL_value 16 = .ok (.ireturn, 1) := by decide +kernel
theorem dL_addTask_0 : decode cL_addTask 0 = .ok (.aload 4, 2) := by decide +kernel
theorem dL_addTask_2 : decode cL_addTask 2 = .ok (.iconst 0, 1) := by decide +kernel
theorem dL_addTask_3 : decode cL_addTask 3 = .ok (.aload_n 0, 1) := by decide +kernel
theorem dL_addTask_4 : decode cL_addTask 4 = .ok (.iload_n 1, 1) := by decide +kernel
theorem dL_addTask_5 : decode cL_addTask 5 = .ok (.iload_n 2, 1) := by decide +kernel
theorem dL_addTask_6 : decode cL_addTask 6 = .ok (.iload_n 3, 1) := by decide +kernel
theorem dL_addTask_7 : decode cL_addTask 7 = .ok (.invokevirtual 19, 3) := by decide +kernel
theorem dL_addTask_10 : decode cL_addTask 10 = .ok (.i2l, 1) := by decide +kernel
theorem dL_addTask_11 : decode cL_addTask 11 = .ok (.lastore, 1) := by decide +kernel
theorem dL_addTask_12 : decode cL_addTask 12 = .ok (.goto 11, 3) := by decide +kernel
theorem dL_addTask_15 : decode cL_addTask 15 = .ok (.astore 5, 2) := by decide +kernel
theorem dL_addTask_17 : decode cL_addTask 17 = .ok (.iconst 1, 1) := by decide +kernel
theorem dL_addTask_18 : decode cL_addTask 18 = .ok (.ireturn, 1) := by decide +kernel
theorem dL_addTask_19 : decode cL_addTask 19 = .ok (.astore 5, 2) := by decide +kernel
theorem dL_addTask_21 : decode cL_addTask 21 = .ok (.iconst 2, 1) := by decide +kernel
theorem dL_addTask_22 : decode cL_addTask 22 = .ok (.ireturn, 1) := by decide +kernel
theorem dL_addTask_23 : decode cL_addTask 23 = .ok (.iconst 0, 1) := by decide +kernel
theorem dL_addTask_24 : decode cL_addTask 24 = .ok (.ireturn, 1) := by decide +kernel
theorem dL_move_0 : decode cL_move 0 = .ok (.aload 4, 2) := by decide +kernel
theorem dL_move_2 : decode cL_move 2 = .ok (.iconst 0, 1) := by decide +kernel
theorem dL_move_3 : decode cL_move 3 = .ok (.aload_n 0, 1) := by decide +kernel
theorem dL_move_4 : decode cL_move 4 = .ok (.iload_n 1, 1) := by decide +kernel
theorem dL_move_5 : decode cL_move 5 = .ok (.iload_n 2, 1) := by decide +kernel
theorem dL_move_6 : decode cL_move 6 = .ok (.iload_n 3, 1) := by decide +kernel
theorem dL_move_7 : decode cL_move 7 = .ok (.invokevirtual 25, 3) := by decide +kernel
theorem dL_move_10 : decode cL_move 10 = .ok (.i2l, 1) := by decide +kernel
theorem dL_move_11 : decode cL_move 11 = .ok (.lastore, 1) := by decide +kernel
theorem dL_move_12 : decode cL_move 12 = .ok (.goto 11, 3) := by decide +kernel
theorem dL_move_15 : decode cL_move 15 = .ok (.astore 5, 2) := by decide +kernel
theorem dL_move_17 : decode cL_move 17 = .ok (.iconst 1, 1) := by decide +kernel
theorem dL_move_18 : decode cL_move 18 = .ok (.ireturn, 1) := by decide +kernel
theorem dL_move_19 : decode cL_move 19 = .ok (.astore 5, 2) := by decide +kernel
theorem dL_move_21 : decode cL_move 21 = .ok (.iconst 2, 1) := by decide +kernel
theorem dL_move_22 : decode cL_move 22 = .ok (.ireturn, 1) := by decide +kernel
theorem dL_move_23 : decode cL_move 23 = .ok (.iconst 0, 1) := by decide +kernel
theorem dL_move_24 : decode cL_move 24 = .ok (.ireturn, 1) := by decide +kernel
theorem dL_removeTask_0 : decode cL_removeTask 0 = .ok (.aload_n 2, 1) := by decide +kernel
theorem dL_removeTask_1 : decode cL_removeTask 1 = .ok (.iconst 0, 1) := by decide +kernel
theorem dL_removeTask_2 : decode cL_removeTask 2 = .ok (.aload_n 0, 1) := by decide +kernel
theorem dL_removeTask_3 : decode cL_removeTask 3 = .ok (.iload_n 1, 1) := by decide +kernel
theorem dL_removeTask_4 : decode cL_removeTask 4 = .ok (.invokevirtual 30, 3) := by decide +kernel
theorem dL_removeTask_7 : decode cL_removeTask 7 = .ok (.i2l, 1) := by decide +kernel
theorem dL_removeTask_8 : decode cL_removeTask 8 = .ok (.lastore, 1) := by decide +kernel
theorem dL_removeTask_9 : decode cL_removeTask 9 = .ok (.goto 6, 3) := by decide +kernel
theorem dL_removeTask_12 : decode cL_removeTask 12 = .ok (.astore_n 3, 1) := by decide +kernel
theorem dL_removeTask_13 : decode cL_removeTask 13 = .ok (.iconst 1, 1) := by decide +kernel
theorem dL_removeTask_14 : decode cL_removeTask 14 = .ok (.ireturn, 1) := by decide +kernel
theorem dL_removeTask_15 : decode cL_removeTask 15 = .ok (.iconst 0, 1) := by decide +kernel
theorem dL_removeTask_16 : decode cL_removeTask 16 = .ok (.ireturn, 1) := by decide +kernel
theorem dL_addArrow_0 : decode cL_addArrow 0 = .ok (.aload_n 3, 1) := by decide +kernel
theorem dL_addArrow_1 : decode cL_addArrow 1 = .ok (.iconst 0, 1) := by decide +kernel
theorem dL_addArrow_2 : decode cL_addArrow 2 = .ok (.aload_n 0, 1) := by decide +kernel
theorem dL_addArrow_3 : decode cL_addArrow 3 = .ok (.iload_n 1, 1) := by decide +kernel
theorem dL_addArrow_4 : decode cL_addArrow 4 = .ok (.iload_n 2, 1) := by decide +kernel
theorem dL_addArrow_5 : decode cL_addArrow 5 = .ok (.invokevirtual 33, 3) := by decide +kernel
theorem dL_addArrow_8 : decode cL_addArrow 8 = .ok (.i2l, 1) := by decide +kernel
theorem dL_addArrow_9 : decode cL_addArrow 9 = .ok (.lastore, 1) := by decide +kernel
theorem dL_addArrow_10 : decode cL_addArrow 10 = .ok (.goto 15, 3) := by decide +kernel
theorem dL_addArrow_13 : decode cL_addArrow 13 = .ok (.astore 4, 2) := by decide +kernel
theorem dL_addArrow_15 : decode cL_addArrow 15 = .ok (.iconst 1, 1) := by decide +kernel
theorem dL_addArrow_16 : decode cL_addArrow 16 = .ok (.ireturn, 1) := by decide +kernel
theorem dL_addArrow_17 : decode cL_addArrow 17 = .ok (.astore 4, 2) := by decide +kernel
theorem dL_addArrow_19 : decode cL_addArrow 19 = .ok (.iconst 2, 1) := by decide +kernel
theorem dL_addArrow_20 : decode cL_addArrow 20 = .ok (.ireturn, 1) := by decide +kernel
theorem dL_addArrow_21 : decode cL_addArrow 21 = .ok (.astore 4, 2) := by decide +kernel
theorem dL_addArrow_23 : decode cL_addArrow 23 = .ok (.iconst 3, 1) := by decide +kernel
theorem dL_addArrow_24 : decode cL_addArrow 24 = .ok (.ireturn, 1) := by decide +kernel
theorem dL_addArrow_25 : decode cL_addArrow 25 = .ok (.iconst 0, 1) := by decide +kernel
theorem dL_addArrow_26 : decode cL_addArrow 26 = .ok (.ireturn, 1) := by decide +kernel
theorem dL_removeArrow_0 : decode cL_removeArrow 0 = .ok (.aload_n 2, 1) := by decide +kernel
theorem dL_removeArrow_1 : decode cL_removeArrow 1 = .ok (.iconst 0, 1) := by decide +kernel
theorem dL_removeArrow_2 : decode cL_removeArrow 2 = .ok (.aload_n 0, 1) := by decide +kernel
theorem dL_removeArrow_3 : decode cL_removeArrow 3 = .ok (.iload_n 1, 1) := by decide +kernel
theorem dL_removeArrow_4 : decode cL_removeArrow 4 = .ok (.invokevirtual 36, 3) := by decide +kernel
theorem dL_removeArrow_7 : decode cL_removeArrow 7 = .ok (.i2l, 1) := by decide +kernel
theorem dL_removeArrow_8 : decode cL_removeArrow 8 = .ok (.lastore, 1) := by decide +kernel
theorem dL_removeArrow_9 : decode cL_removeArrow 9 = .ok (.goto 6, 3) := by decide +kernel
theorem dL_removeArrow_12 : decode cL_removeArrow 12 = .ok (.astore_n 3, 1) := by decide +kernel
theorem dL_removeArrow_13 : decode cL_removeArrow 13 = .ok (.iconst 1, 1) := by decide +kernel
theorem dL_removeArrow_14 : decode cL_removeArrow 14 = .ok (.ireturn, 1) := by decide +kernel
theorem dL_removeArrow_15 : decode cL_removeArrow 15 = .ok (.iconst 0, 1) := by decide +kernel
theorem dL_removeArrow_16 : decode cL_removeArrow 16 = .ok (.ireturn, 1) := by decide +kernel
theorem dL_task_0 : decode cL_task 0 = .ok (.aload_n 3, 1) := by decide +kernel
theorem dL_task_1 : decode cL_task 1 = .ok (.iconst 0, 1) := by decide +kernel
theorem dL_task_2 : decode cL_task 2 = .ok (.aload_n 0, 1) := by decide +kernel
theorem dL_task_3 : decode cL_task 3 = .ok (.iload_n 1, 1) := by decide +kernel
theorem dL_task_4 : decode cL_task 4 = .ok (.iload_n 2, 1) := by decide +kernel
theorem dL_task_5 : decode cL_task 5 = .ok (.invokevirtual 39, 3) := by decide +kernel
theorem dL_task_8 : decode cL_task 8 = .ok (.i2l, 1) := by decide +kernel
theorem dL_task_9 : decode cL_task 9 = .ok (.lastore, 1) := by decide +kernel
theorem dL_task_10 : decode cL_task 10 = .ok (.goto 11, 3) := by decide +kernel
theorem dL_task_13 : decode cL_task 13 = .ok (.astore 4, 2) := by decide +kernel
theorem dL_task_15 : decode cL_task 15 = .ok (.iconst 1, 1) := by decide +kernel
theorem dL_task_16 : decode cL_task 16 = .ok (.ireturn, 1) := by decide +kernel
theorem dL_task_17 : decode cL_task 17 = .ok (.astore 4, 2) := by decide +kernel
theorem dL_task_19 : decode cL_task 19 = .ok (.iconst 2, 1) := by decide +kernel
theorem dL_task_20 : decode cL_task 20 = .ok (.ireturn, 1) := by decide +kernel
theorem dL_task_21 : decode cL_task 21 = .ok (.iconst 0, 1) := by decide +kernel
theorem dL_task_22 : decode cL_task 22 = .ok (.ireturn, 1) := by decide +kernel
theorem dL_row_0 : decode cL_row 0 = .ok (.aload_n 3, 1) := by decide +kernel
theorem dL_row_1 : decode cL_row 1 = .ok (.iconst 0, 1) := by decide +kernel
theorem dL_row_2 : decode cL_row 2 = .ok (.aload_n 0, 1) := by decide +kernel
theorem dL_row_3 : decode cL_row 3 = .ok (.iload_n 1, 1) := by decide +kernel
theorem dL_row_4 : decode cL_row 4 = .ok (.iload_n 2, 1) := by decide +kernel
theorem dL_row_5 : decode cL_row 5 = .ok (.invokevirtual 42, 3) := by decide +kernel
theorem dL_row_8 : decode cL_row 8 = .ok (.i2l, 1) := by decide +kernel
theorem dL_row_9 : decode cL_row 9 = .ok (.lastore, 1) := by decide +kernel
theorem dL_row_10 : decode cL_row 10 = .ok (.goto 7, 3) := by decide +kernel
theorem dL_row_13 : decode cL_row 13 = .ok (.astore 4, 2) := by decide +kernel
theorem dL_row_15 : decode cL_row 15 = .ok (.iconst 1, 1) := by decide +kernel
theorem dL_row_16 : decode cL_row 16 = .ok (.ireturn, 1) := by decide +kernel
theorem dL_row_17 : decode cL_row 17 = .ok (.iconst 0, 1) := by decide +kernel
theorem dL_row_18 : decode cL_row 18 = .ok (.ireturn, 1) := by decide +kernel
theorem dL_sheet_0 : decode cL_sheet 0 = .ok (.aload_n 3, 1) := by decide +kernel
theorem dL_sheet_1 : decode cL_sheet 1 = .ok (.iconst 0, 1) := by decide +kernel
theorem dL_sheet_2 : decode cL_sheet 2 = .ok (.aload_n 0, 1) := by decide +kernel
theorem dL_sheet_3 : decode cL_sheet 3 = .ok (.iload_n 1, 1) := by decide +kernel
theorem dL_sheet_4 : decode cL_sheet 4 = .ok (.iload_n 2, 1) := by decide +kernel
theorem dL_sheet_5 : decode cL_sheet 5 = .ok (.invokevirtual 45, 3) := by decide +kernel
theorem dL_sheet_8 : decode cL_sheet 8 = .ok (.i2l, 1) := by decide +kernel
theorem dL_sheet_9 : decode cL_sheet 9 = .ok (.lastore, 1) := by decide +kernel
theorem dL_sheet_10 : decode cL_sheet 10 = .ok (.goto 11, 3) := by decide +kernel
theorem dL_sheet_13 : decode cL_sheet 13 = .ok (.astore 4, 2) := by decide +kernel
theorem dL_sheet_15 : decode cL_sheet 15 = .ok (.iconst 1, 1) := by decide +kernel
theorem dL_sheet_16 : decode cL_sheet 16 = .ok (.ireturn, 1) := by decide +kernel
theorem dL_sheet_17 : decode cL_sheet 17 = .ok (.astore 4, 2) := by decide +kernel
theorem dL_sheet_19 : decode cL_sheet 19 = .ok (.iconst 2, 1) := by decide +kernel
theorem dL_sheet_20 : decode cL_sheet 20 = .ok (.ireturn, 1) := by decide +kernel
theorem dL_sheet_21 : decode cL_sheet 21 = .ok (.iconst 0, 1) := by decide +kernel
theorem dL_sheet_22 : decode cL_sheet 22 = .ok (.ireturn, 1) := by decide +kernel
theorem dL_sheetAt_0 : decode cL_sheetAt 0 = .ok (.aload_n 3, 1) := by decide +kernel
theorem dL_sheetAt_1 : decode cL_sheetAt 1 = .ok (.iconst 0, 1) := by decide +kernel
theorem dL_sheetAt_2 : decode cL_sheetAt 2 = .ok (.aload_n 0, 1) := by decide +kernel
theorem dL_sheetAt_3 : decode cL_sheetAt 3 = .ok (.iload_n 1, 1) := by decide +kernel
theorem dL_sheetAt_4 : decode cL_sheetAt 4 = .ok (.iload_n 2, 1) := by decide +kernel
theorem dL_sheetAt_5 : decode cL_sheetAt 5 = .ok (.invokevirtual 48, 3) := by decide +kernel
theorem dL_sheetAt_8 : decode cL_sheetAt 8 = .ok (.i2l, 1) := by decide +kernel
theorem dL_sheetAt_9 : decode cL_sheetAt 9 = .ok (.lastore, 1) := by decide +kernel
theorem dL_sheetAt_10 : decode cL_sheetAt 10 = .ok (.goto 11, 3) := by decide +kernel
theorem dL_sheetAt_13 : decode cL_sheetAt 13 = .ok (.astore 4, 2) := by decide +kernel
theorem dL_sheetAt_15 : decode cL_sheetAt 15 = .ok (.iconst 1, 1) := by decide +kernel
theorem dL_sheetAt_16 : decode cL_sheetAt 16 = .ok (.ireturn, 1) := by decide +kernel
theorem dL_sheetAt_17 : decode cL_sheetAt 17 = .ok (.astore 4, 2) := by decide +kernel
theorem dL_sheetAt_19 : decode cL_sheetAt 19 = .ok (.iconst 2, 1) := by decide +kernel
theorem dL_sheetAt_20 : decode cL_sheetAt 20 = .ok (.ireturn, 1) := by decide +kernel
theorem dL_sheetAt_21 : decode cL_sheetAt 21 = .ok (.iconst 0, 1) := by decide +kernel
theorem dL_sheetAt_22 : decode cL_sheetAt 22 = .ok (.ireturn, 1) := by decide +kernel
theorem dL_part_0 : decode cL_part 0 = .ok (.aload 4, 2) := by decide +kernel
theorem dL_part_2 : decode cL_part 2 = .ok (.iconst 0, 1) := by decide +kernel
theorem dL_part_3 : decode cL_part 3 = .ok (.aload_n 0, 1) := by decide +kernel
theorem dL_part_4 : decode cL_part 4 = .ok (.iload_n 1, 1) := by decide +kernel
theorem dL_part_5 : decode cL_part 5 = .ok (.iload_n 2, 1) := by decide +kernel
theorem dL_part_6 : decode cL_part 6 = .ok (.iload_n 3, 1) := by decide +kernel
theorem dL_part_7 : decode cL_part 7 = .ok (.invokevirtual 51, 3) := by decide +kernel
theorem dL_part_10 : decode cL_part 10 = .ok (.i2l, 1) := by decide +kernel
theorem dL_part_11 : decode cL_part 11 = .ok (.lastore, 1) := by decide +kernel
theorem dL_part_12 : decode cL_part 12 = .ok (.goto 11, 3) := by decide +kernel
theorem dL_part_15 : decode cL_part 15 = .ok (.astore 5, 2) := by decide +kernel
theorem dL_part_17 : decode cL_part 17 = .ok (.iconst 1, 1) := by decide +kernel
theorem dL_part_18 : decode cL_part 18 = .ok (.ireturn, 1) := by decide +kernel
theorem dL_part_19 : decode cL_part 19 = .ok (.astore 5, 2) := by decide +kernel
theorem dL_part_21 : decode cL_part 21 = .ok (.iconst 2, 1) := by decide +kernel
theorem dL_part_22 : decode cL_part 22 = .ok (.ireturn, 1) := by decide +kernel
theorem dL_part_23 : decode cL_part 23 = .ok (.iconst 0, 1) := by decide +kernel
theorem dL_part_24 : decode cL_part 24 = .ok (.ireturn, 1) := by decide +kernel
theorem dL_arrow_0 : decode cL_arrow 0 = .ok (.aload_n 3, 1) := by decide +kernel
theorem dL_arrow_1 : decode cL_arrow 1 = .ok (.iconst 0, 1) := by decide +kernel
theorem dL_arrow_2 : decode cL_arrow 2 = .ok (.aload_n 0, 1) := by decide +kernel
theorem dL_arrow_3 : decode cL_arrow 3 = .ok (.iload_n 1, 1) := by decide +kernel
theorem dL_arrow_4 : decode cL_arrow 4 = .ok (.iload_n 2, 1) := by decide +kernel
theorem dL_arrow_5 : decode cL_arrow 5 = .ok (.invokevirtual 54, 3) := by decide +kernel
theorem dL_arrow_8 : decode cL_arrow 8 = .ok (.i2l, 1) := by decide +kernel
theorem dL_arrow_9 : decode cL_arrow 9 = .ok (.lastore, 1) := by decide +kernel
theorem dL_arrow_10 : decode cL_arrow 10 = .ok (.goto 11, 3) := by decide +kernel
theorem dL_arrow_13 : decode cL_arrow 13 = .ok (.astore 4, 2) := by decide +kernel
theorem dL_arrow_15 : decode cL_arrow 15 = .ok (.iconst 1, 1) := by decide +kernel
theorem dL_arrow_16 : decode cL_arrow 16 = .ok (.ireturn, 1) := by decide +kernel
theorem dL_arrow_17 : decode cL_arrow 17 = .ok (.astore 4, 2) := by decide +kernel
theorem dL_arrow_19 : decode cL_arrow 19 = .ok (.iconst 2, 1) := by decide +kernel
theorem dL_arrow_20 : decode cL_arrow 20 = .ok (.ireturn, 1) := by decide +kernel
theorem dL_arrow_21 : decode cL_arrow 21 = .ok (.iconst 0, 1) := by decide +kernel
theorem dL_arrow_22 : decode cL_arrow 22 = .ok (.ireturn, 1) := by decide +kernel
theorem dL_arrowOf_0 : decode cL_arrowOf 0 = .ok (.aload_n 2, 1) := by decide +kernel
theorem dL_arrowOf_1 : decode cL_arrowOf 1 = .ok (.iconst 0, 1) := by decide +kernel
theorem dL_arrowOf_2 : decode cL_arrowOf 2 = .ok (.aload_n 0, 1) := by decide +kernel
theorem dL_arrowOf_3 : decode cL_arrowOf 3 = .ok (.iload_n 1, 1) := by decide +kernel
theorem dL_arrowOf_4 : decode cL_arrowOf 4 = .ok (.invokevirtual 57, 3) := by decide +kernel
theorem dL_arrowOf_7 : decode cL_arrowOf 7 = .ok (.i2l, 1) := by decide +kernel
theorem dL_arrowOf_8 : decode cL_arrowOf 8 = .ok (.lastore, 1) := by decide +kernel
theorem dL_arrowOf_9 : decode cL_arrowOf 9 = .ok (.goto 6, 3) := by decide +kernel
theorem dL_arrowOf_12 : decode cL_arrowOf 12 = .ok (.astore_n 3, 1) := by decide +kernel
theorem dL_arrowOf_13 : decode cL_arrowOf 13 = .ok (.iconst 1, 1) := by decide +kernel
theorem dL_arrowOf_14 : decode cL_arrowOf 14 = .ok (.ireturn, 1) := by decide +kernel
theorem dL_arrowOf_15 : decode cL_arrowOf 15 = .ok (.iconst 0, 1) := by decide +kernel
theorem dL_arrowOf_16 : decode cL_arrowOf 16 = .ok (.ireturn, 1) := by decide +kernel
theorem dL_taskAt_0 : decode cL_taskAt 0 = .ok (.aload 4, 2) := by decide +kernel
theorem dL_taskAt_2 : decode cL_taskAt 2 = .ok (.iconst 0, 1) := by decide +kernel
theorem dL_taskAt_3 : decode cL_taskAt 3 = .ok (.aload_n 0, 1) := by decide +kernel
theorem dL_taskAt_4 : decode cL_taskAt 4 = .ok (.iload_n 1, 1) := by decide +kernel
theorem dL_taskAt_5 : decode cL_taskAt 5 = .ok (.iload_n 2, 1) := by decide +kernel
theorem dL_taskAt_6 : decode cL_taskAt 6 = .ok (.iload_n 3, 1) := by decide +kernel
theorem dL_taskAt_7 : decode cL_taskAt 7 = .ok (.invokevirtual 60, 3) := by decide +kernel
theorem dL_taskAt_10 : decode cL_taskAt 10 = .ok (.i2l, 1) := by decide +kernel
theorem dL_taskAt_11 : decode cL_taskAt 11 = .ok (.lastore, 1) := by decide +kernel
theorem dL_taskAt_12 : decode cL_taskAt 12 = .ok (.goto 7, 3) := by decide +kernel
theorem dL_taskAt_15 : decode cL_taskAt 15 = .ok (.astore 5, 2) := by decide +kernel
theorem dL_taskAt_17 : decode cL_taskAt 17 = .ok (.iconst 1, 1) := by decide +kernel
theorem dL_taskAt_18 : decode cL_taskAt 18 = .ok (.ireturn, 1) := by decide +kernel
theorem dL_taskAt_19 : decode cL_taskAt 19 = .ok (.iconst 0, 1) := by decide +kernel
theorem dL_taskAt_20 : decode cL_taskAt 20 = .ok (.ireturn, 1) := by decide +kernel
theorem dL_sheetsWith_0 : decode cL_sheetsWith 0 = .ok (.aload_n 3, 1) := by decide +kernel
theorem dL_sheetsWith_1 : decode cL_sheetsWith 1 = .ok (.iconst 0, 1) := by decide +kernel
theorem dL_sheetsWith_2 : decode cL_sheetsWith 2 = .ok (.aload_n 0, 1) := by decide +kernel
theorem dL_sheetsWith_3 : decode cL_sheetsWith 3 = .ok (.iload_n 1, 1) := by decide +kernel
theorem dL_sheetsWith_4 : decode cL_sheetsWith 4 = .ok (.iload_n 2, 1) := by decide +kernel
theorem dL_sheetsWith_5 : decode cL_sheetsWith 5 = .ok (.invokevirtual 63, 3) := by decide +kernel
theorem dL_sheetsWith_8 : decode cL_sheetsWith 8 = .ok (.i2l, 1) := by decide +kernel
theorem dL_sheetsWith_9 : decode cL_sheetsWith 9 = .ok (.lastore, 1) := by decide +kernel
theorem dL_sheetsWith_10 : decode cL_sheetsWith 10 = .ok (.goto 7, 3) := by decide +kernel
theorem dL_sheetsWith_13 : decode cL_sheetsWith 13 = .ok (.astore 4, 2) := by decide +kernel
theorem dL_sheetsWith_15 : decode cL_sheetsWith 15 = .ok (.iconst 1, 1) := by decide +kernel
theorem dL_sheetsWith_16 : decode cL_sheetsWith 16 = .ok (.ireturn, 1) := by decide +kernel
theorem dL_sheetsWith_17 : decode cL_sheetsWith 17 = .ok (.iconst 0, 1) := by decide +kernel
theorem dL_sheetsWith_18 : decode cL_sheetsWith 18 = .ok (.ireturn, 1) := by decide +kernel
theorem dL_delay_0 : decode cL_delay 0 = .ok (.aload_n 2, 1) := by decide +kernel
theorem dL_delay_1 : decode cL_delay 1 = .ok (.iconst 0, 1) := by decide +kernel
theorem dL_delay_2 : decode cL_delay 2 = .ok (.aload_n 0, 1) := by decide +kernel
theorem dL_delay_3 : decode cL_delay 3 = .ok (.iload_n 1, 1) := by decide +kernel
theorem dL_delay_4 : decode cL_delay 4 = .ok (.invokevirtual 66, 3) := by decide +kernel
theorem dL_delay_7 : decode cL_delay 7 = .ok (.i2l, 1) := by decide +kernel
theorem dL_delay_8 : decode cL_delay 8 = .ok (.lastore, 1) := by decide +kernel
theorem dL_delay_9 : decode cL_delay 9 = .ok (.goto 6, 3) := by decide +kernel
theorem dL_delay_12 : decode cL_delay 12 = .ok (.astore_n 3, 1) := by decide +kernel
theorem dL_delay_13 : decode cL_delay 13 = .ok (.iconst 1, 1) := by decide +kernel
theorem dL_delay_14 : decode cL_delay 14 = .ok (.ireturn, 1) := by decide +kernel
theorem dL_delay_15 : decode cL_delay 15 = .ok (.iconst 0, 1) := by decide +kernel
theorem dL_delay_16 : decode cL_delay 16 = .ok (.ireturn, 1) := by decide +kernel
theorem dL_append_0 : decode cL_append 0 = .ok (.aload_n 2, 1) := by decide +kernel
theorem dL_append_1 : decode cL_append 1 = .ok (.iconst 0, 1) := by decide +kernel
theorem dL_append_2 : decode cL_append 2 = .ok (.aload_n 0, 1) := by decide +kernel
theorem dL_append_3 : decode cL_append 3 = .ok (.iload_n 1, 1) := by decide +kernel
theorem dL_append_4 : decode cL_append 4 = .ok (.invokevirtual 69, 3) := by decide +kernel
theorem dL_append_7 : decode cL_append 7 = .ok (.i2l, 1) := by decide +kernel
theorem dL_append_8 : decode cL_append 8 = .ok (.lastore, 1) := by decide +kernel
theorem dL_append_9 : decode cL_append 9 = .ok (.goto 9, 3) := by decide +kernel
theorem dL_append_12 : decode cL_append 12 = .ok (.astore_n 3, 1) := by decide +kernel
theorem dL_append_13 : decode cL_append 13 = .ok (.iconst 1, 1) := by decide +kernel
theorem dL_append_14 : decode cL_append 14 = .ok (.ireturn, 1) := by decide +kernel
theorem dL_append_15 : decode cL_append 15 = .ok (.astore_n 3, 1) := by decide +kernel
theorem dL_append_16 : decode cL_append 16 = .ok (.iconst 2, 1) := by decide +kernel
theorem dL_append_17 : decode cL_append 17 = .ok (.ireturn, 1) := by decide +kernel
theorem dL_append_18 : decode cL_append 18 = .ok (.iconst 0, 1) := by decide +kernel
theorem dL_append_19 : decode cL_append 19 = .ok (.ireturn, 1) := by decide +kernel
theorem dL_undo_0 : decode cL_undo 0 = .ok (.aload_n 1, 1) := by decide +kernel
theorem dL_undo_1 : decode cL_undo 1 = .ok (.iconst 0, 1) := by decide +kernel
theorem dL_undo_2 : decode cL_undo 2 = .ok (.aload_n 0, 1) := by decide +kernel
theorem dL_undo_3 : decode cL_undo 3 = .ok (.invokevirtual 72, 3) := by decide +kernel
theorem dL_undo_6 : decode cL_undo 6 = .ok (.i2l, 1) := by decide +kernel
theorem dL_undo_7 : decode cL_undo 7 = .ok (.lastore, 1) := by decide +kernel
theorem dL_undo_8 : decode cL_undo 8 = .ok (.goto 6, 3) := by decide +kernel
theorem dL_undo_11 : decode cL_undo 11 = .ok (.astore_n 2, 1) := by decide +kernel
theorem dL_undo_12 : decode cL_undo 12 = .ok (.iconst 1, 1) := by decide +kernel
theorem dL_undo_13 : decode cL_undo 13 = .ok (.ireturn, 1) := by decide +kernel
theorem dL_undo_14 : decode cL_undo 14 = .ok (.iconst 0, 1) := by decide +kernel
theorem dL_undo_15 : decode cL_undo 15 = .ok (.ireturn, 1) := by decide +kernel
theorem dL_law_0 : decode cL_law 0 = .ok (.new 8, 3) := by decide +kernel
theorem dL_law_3 : decode cL_law 3 = .ok (.dup, 1) := by decide +kernel
theorem dL_law_4 : decode cL_law 4 = .ok (.invokespecial 76, 3) := by decide +kernel
theorem dL_law_7 : decode cL_law 7 = .ok (.astore_n 1, 1) := by decide +kernel
theorem dL_law_8 : decode cL_law 8 = .ok (.new 77, 3) := by decide +kernel
theorem dL_law_11 : decode cL_law 11 = .ok (.dup, 1) := by decide +kernel
theorem dL_law_12 : decode cL_law 12 = .ok (.invokespecial 79, 3) := by decide +kernel
theorem dL_law_15 : decode cL_law 15 = .ok (.astore_n 2, 1) := by decide +kernel
theorem dL_law_16 : decode cL_law 16 = .ok (.iconst 1, 1) := by decide +kernel
theorem dL_law_17 : decode cL_law 17 = .ok (.newarray .long, 2) := by decide +kernel
theorem dL_law_19 : decode cL_law 19 = .ok (.astore_n 3, 1) := by decide +kernel
theorem dL_law_20 : decode cL_law 20 = .ok (.iconst 0, 1) := by decide +kernel
theorem dL_law_21 : decode cL_law 21 = .ok (.istore 4, 2) := by decide +kernel
theorem dL_law_23 : decode cL_law 23 = .ok (.iload 4, 2) := by decide +kernel
theorem dL_law_25 : decode cL_law 25 = .ok (.aload_n 0, 1) := by decide +kernel
theorem dL_law_26 : decode cL_law 26 = .ok (.arraylength, 1) := by decide +kernel
theorem dL_law_27 : decode cL_law 27 = .ok (.iconst 4, 1) := by decide +kernel
theorem dL_law_28 : decode cL_law 28 = .ok (.isub, 1) := by decide +kernel
theorem dL_law_29 : decode cL_law 29 = .ok (.if_icmp .gt 1514, 3) := by decide +kernel
theorem dL_law_32 : decode cL_law 32 = .ok (.aload_n 0, 1) := by decide +kernel
theorem dL_law_33 : decode cL_law 33 = .ok (.iload 4, 2) := by decide +kernel
theorem dL_law_35 : decode cL_law 35 = .ok (.iaload, 1) := by decide +kernel
theorem dL_law_36 : decode cL_law 36 = .ok (.bipush 31, 2) := by decide +kernel
theorem dL_law_38 : decode cL_law 38 = .ok (.iand, 1) := by decide +kernel
theorem dL_law_39 : decode cL_law 39 = .ok (.tableswitch 1498 0 26 #[121, 189, 245, 325, 405, 461, 529, 585, 653, 666, 734, 747, 815, 883, 963, 1031, 1087, 1167, 1208, 1276, 1289, 1345, 1358, 1414, 1427, 1440, 1484], 121) := by decide +kernel
theorem dL_law_160 : decode cL_law 160 = .ok (.aload_n 1, 1) := by decide +kernel
theorem dL_law_161 : decode cL_law 161 = .ok (.aload_n 0, 1) := by decide +kernel
theorem dL_law_162 : decode cL_law 162 = .ok (.iload 4, 2) := by decide +kernel
theorem dL_law_164 : decode cL_law 164 = .ok (.iconst 1, 1) := by decide +kernel
theorem dL_law_165 : decode cL_law 165 = .ok (.iadd, 1) := by decide +kernel
theorem dL_law_166 : decode cL_law 166 = .ok (.iaload, 1) := by decide +kernel
theorem dL_law_167 : decode cL_law 167 = .ok (.aload_n 0, 1) := by decide +kernel
theorem dL_law_168 : decode cL_law 168 = .ok (.iload 4, 2) := by decide +kernel
theorem dL_law_170 : decode cL_law 170 = .ok (.iconst 2, 1) := by decide +kernel
theorem dL_law_171 : decode cL_law 171 = .ok (.iadd, 1) := by decide +kernel
theorem dL_law_172 : decode cL_law 172 = .ok (.iaload, 1) := by decide +kernel
theorem dL_law_173 : decode cL_law 173 = .ok (.aload_n 3, 1) := by decide +kernel
theorem dL_law_174 : decode cL_law 174 = .ok (.invokestatic 80, 3) := by decide +kernel
theorem dL_law_177 : decode cL_law 177 = .ok (.istore 5, 2) := by decide +kernel
theorem dL_law_179 : decode cL_law 179 = .ok (.aload_n 2, 1) := by decide +kernel
theorem dL_law_180 : decode cL_law 180 = .ok (.aload_n 0, 1) := by decide +kernel
theorem dL_law_181 : decode cL_law 181 = .ok (.iload 4, 2) := by decide +kernel
theorem dL_law_183 : decode cL_law 183 = .ok (.iconst 1, 1) := by decide +kernel
theorem dL_law_184 : decode cL_law 184 = .ok (.iadd, 1) := by decide +kernel
theorem dL_law_185 : decode cL_law 185 = .ok (.iaload, 1) := by decide +kernel
theorem dL_law_186 : decode cL_law 186 = .ok (.aload_n 0, 1) := by decide +kernel
theorem dL_law_187 : decode cL_law 187 = .ok (.iload 4, 2) := by decide +kernel
theorem dL_law_189 : decode cL_law 189 = .ok (.iconst 2, 1) := by decide +kernel
theorem dL_law_190 : decode cL_law 190 = .ok (.iadd, 1) := by decide +kernel
theorem dL_law_191 : decode cL_law 191 = .ok (.iaload, 1) := by decide +kernel
theorem dL_law_192 : decode cL_law 192 = .ok (.invokevirtual 85, 3) := by decide +kernel
theorem dL_law_195 : decode cL_law 195 = .ok (.istore 6, 2) := by decide +kernel
theorem dL_law_197 : decode cL_law 197 = .ok (.aload_n 2, 1) := by decide +kernel
theorem dL_law_198 : decode cL_law 198 = .ok (.invokevirtual 86, 3) := by decide +kernel
theorem dL_law_201 : decode cL_law 201 = .ok (.iload 5, 2) := by decide +kernel
theorem dL_law_203 : decode cL_law 203 = .ok (.if_icmp .eq 5, 3) := by decide +kernel
theorem dL_law_206 : decode cL_law 206 = .ok (.iconst 0, 1) := by decide +kernel
theorem dL_law_207 : decode cL_law 207 = .ok (.ireturn, 1) := by decide +kernel
theorem dL_law_208 : decode cL_law 208 = .ok (.iload 5, 2) := by decide +kernel
theorem dL_law_210 : decode cL_law 210 = .ok (.ifCond .ne 15, 3) := by decide +kernel
theorem dL_law_213 : decode cL_law 213 = .ok (.aload_n 3, 1) := by decide +kernel
theorem dL_law_214 : decode cL_law 214 = .ok (.iconst 0, 1) := by decide +kernel
theorem dL_law_215 : decode cL_law 215 = .ok (.laload, 1) := by decide +kernel
theorem dL_law_216 : decode cL_law 216 = .ok (.iload 6, 2) := by decide +kernel
theorem dL_law_218 : decode cL_law 218 = .ok (.i2l, 1) := by decide +kernel
theorem dL_law_219 : decode cL_law 219 = .ok (.lcmp, 1) := by decide +kernel
theorem dL_law_220 : decode cL_law 220 = .ok (.ifCond .eq 5, 3) := by decide +kernel
theorem dL_law_223 : decode cL_law 223 = .ok (.iconst 0, 1) := by decide +kernel
theorem dL_law_224 : decode cL_law 224 = .ok (.ireturn, 1) := by decide +kernel
theorem dL_law_225 : decode cL_law 225 = .ok (.goto 1312, 3) := by decide +kernel
theorem dL_law_228 : decode cL_law 228 = .ok (.aload_n 1, 1) := by decide +kernel
theorem dL_law_229 : decode cL_law 229 = .ok (.aload_n 0, 1) := by decide +kernel
theorem dL_law_230 : decode cL_law 230 = .ok (.iload 4, 2) := by decide +kernel
theorem dL_law_232 : decode cL_law 232 = .ok (.iconst 1, 1) := by decide +kernel
theorem dL_law_233 : decode cL_law 233 = .ok (.iadd, 1) := by decide +kernel
theorem dL_law_234 : decode cL_law 234 = .ok (.iaload, 1) := by decide +kernel
theorem dL_law_235 : decode cL_law 235 = .ok (.aload_n 3, 1) := by decide +kernel
theorem dL_law_236 : decode cL_law 236 = .ok (.invokestatic 89, 3) := by decide +kernel
theorem dL_law_239 : decode cL_law 239 = .ok (.istore 5, 2) := by decide +kernel
theorem dL_law_241 : decode cL_law 241 = .ok (.aload_n 2, 1) := by decide +kernel
theorem dL_law_242 : decode cL_law 242 = .ok (.aload_n 0, 1) := by decide +kernel
theorem dL_law_243 : decode cL_law 243 = .ok (.iload 4, 2) := by decide +kernel
theorem dL_law_245 : decode cL_law 245 = .ok (.iconst 1, 1) := by decide +kernel
theorem dL_law_246 : decode cL_law 246 = .ok (.iadd, 1) := by decide +kernel
theorem dL_law_247 : decode cL_law 247 = .ok (.iaload, 1) := by decide +kernel
theorem dL_law_248 : decode cL_law 248 = .ok (.invokevirtual 92, 3) := by decide +kernel
theorem dL_law_251 : decode cL_law 251 = .ok (.istore 6, 2) := by decide +kernel
theorem dL_law_253 : decode cL_law 253 = .ok (.aload_n 2, 1) := by decide +kernel
theorem dL_law_254 : decode cL_law 254 = .ok (.invokevirtual 86, 3) := by decide +kernel
theorem dL_law_257 : decode cL_law 257 = .ok (.iload 5, 2) := by decide +kernel
theorem dL_law_259 : decode cL_law 259 = .ok (.if_icmp .eq 5, 3) := by decide +kernel
theorem dL_law_262 : decode cL_law 262 = .ok (.iconst 0, 1) := by decide +kernel
theorem dL_law_263 : decode cL_law 263 = .ok (.ireturn, 1) := by decide +kernel
theorem dL_law_264 : decode cL_law 264 = .ok (.iload 5, 2) := by decide +kernel
theorem dL_law_266 : decode cL_law 266 = .ok (.ifCond .ne 15, 3) := by decide +kernel
theorem dL_law_269 : decode cL_law 269 = .ok (.aload_n 3, 1) := by decide +kernel
theorem dL_law_270 : decode cL_law 270 = .ok (.iconst 0, 1) := by decide +kernel
theorem dL_law_271 : decode cL_law 271 = .ok (.laload, 1) := by decide +kernel
theorem dL_law_272 : decode cL_law 272 = .ok (.iload 6, 2) := by decide +kernel
theorem dL_law_274 : decode cL_law 274 = .ok (.i2l, 1) := by decide +kernel
theorem dL_law_275 : decode cL_law 275 = .ok (.lcmp, 1) := by decide +kernel
theorem dL_law_276 : decode cL_law 276 = .ok (.ifCond .eq 5, 3) := by decide +kernel
theorem dL_law_279 : decode cL_law 279 = .ok (.iconst 0, 1) := by decide +kernel
theorem dL_law_280 : decode cL_law 280 = .ok (.ireturn, 1) := by decide +kernel
theorem dL_law_281 : decode cL_law 281 = .ok (.goto 1256, 3) := by decide +kernel
theorem dL_law_284 : decode cL_law 284 = .ok (.aload_n 1, 1) := by decide +kernel
theorem dL_law_285 : decode cL_law 285 = .ok (.aload_n 0, 1) := by decide +kernel
theorem dL_law_286 : decode cL_law 286 = .ok (.iload 4, 2) := by decide +kernel
theorem dL_law_288 : decode cL_law 288 = .ok (.iconst 1, 1) := by decide +kernel
theorem dL_law_289 : decode cL_law 289 = .ok (.iadd, 1) := by decide +kernel
theorem dL_law_290 : decode cL_law 290 = .ok (.iaload, 1) := by decide +kernel
theorem dL_law_291 : decode cL_law 291 = .ok (.aload_n 0, 1) := by decide +kernel
theorem dL_law_292 : decode cL_law 292 = .ok (.iload 4, 2) := by decide +kernel
theorem dL_law_294 : decode cL_law 294 = .ok (.iconst 2, 1) := by decide +kernel
theorem dL_law_295 : decode cL_law 295 = .ok (.iadd, 1) := by decide +kernel
theorem dL_law_296 : decode cL_law 296 = .ok (.iaload, 1) := by decide +kernel
theorem dL_law_297 : decode cL_law 297 = .ok (.aload_n 0, 1) := by decide +kernel
theorem dL_law_298 : decode cL_law 298 = .ok (.iload 4, 2) := by decide +kernel
theorem dL_law_300 : decode cL_law 300 = .ok (.iconst 3, 1) := by decide +kernel
theorem dL_law_301 : decode cL_law 301 = .ok (.iadd, 1) := by decide +kernel
theorem dL_law_302 : decode cL_law 302 = .ok (.iaload, 1) := by decide +kernel
theorem dL_law_303 : decode cL_law 303 = .ok (.aload_n 3, 1) := by decide +kernel
theorem dL_law_304 : decode cL_law 304 = .ok (.invokestatic 93, 3) := by decide +kernel
theorem dL_law_307 : decode cL_law 307 = .ok (.istore 5, 2) := by decide +kernel
theorem dL_law_309 : decode cL_law 309 = .ok (.aload_n 2, 1) := by decide +kernel
theorem dL_law_310 : decode cL_law 310 = .ok (.aload_n 0, 1) := by decide +kernel
theorem dL_law_311 : decode cL_law 311 = .ok (.iload 4, 2) := by decide +kernel
theorem dL_law_313 : decode cL_law 313 = .ok (.iconst 1, 1) := by decide +kernel
theorem dL_law_314 : decode cL_law 314 = .ok (.iadd, 1) := by decide +kernel
theorem dL_law_315 : decode cL_law 315 = .ok (.iaload, 1) := by decide +kernel
theorem dL_law_316 : decode cL_law 316 = .ok (.aload_n 0, 1) := by decide +kernel
theorem dL_law_317 : decode cL_law 317 = .ok (.iload 4, 2) := by decide +kernel
theorem dL_law_319 : decode cL_law 319 = .ok (.iconst 2, 1) := by decide +kernel
theorem dL_law_320 : decode cL_law 320 = .ok (.iadd, 1) := by decide +kernel
theorem dL_law_321 : decode cL_law 321 = .ok (.iaload, 1) := by decide +kernel
theorem dL_law_322 : decode cL_law 322 = .ok (.aload_n 0, 1) := by decide +kernel
theorem dL_law_323 : decode cL_law 323 = .ok (.iload 4, 2) := by decide +kernel
theorem dL_law_325 : decode cL_law 325 = .ok (.iconst 3, 1) := by decide +kernel
theorem dL_law_326 : decode cL_law 326 = .ok (.iadd, 1) := by decide +kernel
theorem dL_law_327 : decode cL_law 327 = .ok (.iaload, 1) := by decide +kernel
theorem dL_law_328 : decode cL_law 328 = .ok (.invokevirtual 96, 3) := by decide +kernel
theorem dL_law_331 : decode cL_law 331 = .ok (.istore 6, 2) := by decide +kernel
theorem dL_law_333 : decode cL_law 333 = .ok (.aload_n 2, 1) := by decide +kernel
theorem dL_law_334 : decode cL_law 334 = .ok (.invokevirtual 86, 3) := by decide +kernel
theorem dL_law_337 : decode cL_law 337 = .ok (.iload 5, 2) := by decide +kernel
theorem dL_law_339 : decode cL_law 339 = .ok (.if_icmp .eq 5, 3) := by decide +kernel
theorem dL_law_342 : decode cL_law 342 = .ok (.iconst 0, 1) := by decide +kernel
theorem dL_law_343 : decode cL_law 343 = .ok (.ireturn, 1) := by decide +kernel
theorem dL_law_344 : decode cL_law 344 = .ok (.iload 5, 2) := by decide +kernel
theorem dL_law_346 : decode cL_law 346 = .ok (.ifCond .ne 15, 3) := by decide +kernel
theorem dL_law_349 : decode cL_law 349 = .ok (.aload_n 3, 1) := by decide +kernel
theorem dL_law_350 : decode cL_law 350 = .ok (.iconst 0, 1) := by decide +kernel
theorem dL_law_351 : decode cL_law 351 = .ok (.laload, 1) := by decide +kernel
theorem dL_law_352 : decode cL_law 352 = .ok (.iload 6, 2) := by decide +kernel
theorem dL_law_354 : decode cL_law 354 = .ok (.i2l, 1) := by decide +kernel
theorem dL_law_355 : decode cL_law 355 = .ok (.lcmp, 1) := by decide +kernel
theorem dL_law_356 : decode cL_law 356 = .ok (.ifCond .eq 5, 3) := by decide +kernel
theorem dL_law_359 : decode cL_law 359 = .ok (.iconst 0, 1) := by decide +kernel
theorem dL_law_360 : decode cL_law 360 = .ok (.ireturn, 1) := by decide +kernel
theorem dL_law_361 : decode cL_law 361 = .ok (.goto 1176, 3) := by decide +kernel
theorem dL_law_364 : decode cL_law 364 = .ok (.aload_n 1, 1) := by decide +kernel
theorem dL_law_365 : decode cL_law 365 = .ok (.aload_n 0, 1) := by decide +kernel
theorem dL_law_366 : decode cL_law 366 = .ok (.iload 4, 2) := by decide +kernel
theorem dL_law_368 : decode cL_law 368 = .ok (.iconst 1, 1) := by decide +kernel
theorem dL_law_369 : decode cL_law 369 = .ok (.iadd, 1) := by decide +kernel
theorem dL_law_370 : decode cL_law 370 = .ok (.iaload, 1) := by decide +kernel
theorem dL_law_371 : decode cL_law 371 = .ok (.aload_n 0, 1) := by decide +kernel
theorem dL_law_372 : decode cL_law 372 = .ok (.iload 4, 2) := by decide +kernel
theorem dL_law_374 : decode cL_law 374 = .ok (.iconst 2, 1) := by decide +kernel
theorem dL_law_375 : decode cL_law 375 = .ok (.iadd, 1) := by decide +kernel
theorem dL_law_376 : decode cL_law 376 = .ok (.iaload, 1) := by decide +kernel
theorem dL_law_377 : decode cL_law 377 = .ok (.aload_n 0, 1) := by decide +kernel
theorem dL_law_378 : decode cL_law 378 = .ok (.iload 4, 2) := by decide +kernel
theorem dL_law_380 : decode cL_law 380 = .ok (.iconst 3, 1) := by decide +kernel
theorem dL_law_381 : decode cL_law 381 = .ok (.iadd, 1) := by decide +kernel
theorem dL_law_382 : decode cL_law 382 = .ok (.iaload, 1) := by decide +kernel
theorem dL_law_383 : decode cL_law 383 = .ok (.aload_n 3, 1) := by decide +kernel
theorem dL_law_384 : decode cL_law 384 = .ok (.invokestatic 97, 3) := by decide +kernel
theorem dL_law_387 : decode cL_law 387 = .ok (.istore 5, 2) := by decide +kernel
theorem dL_law_389 : decode cL_law 389 = .ok (.aload_n 2, 1) := by decide +kernel
theorem dL_law_390 : decode cL_law 390 = .ok (.aload_n 0, 1) := by decide +kernel
theorem dL_law_391 : decode cL_law 391 = .ok (.iload 4, 2) := by decide +kernel
theorem dL_law_393 : decode cL_law 393 = .ok (.iconst 1, 1) := by decide +kernel
theorem dL_law_394 : decode cL_law 394 = .ok (.iadd, 1) := by decide +kernel
theorem dL_law_395 : decode cL_law 395 = .ok (.iaload, 1) := by decide +kernel
theorem dL_law_396 : decode cL_law 396 = .ok (.aload_n 0, 1) := by decide +kernel
theorem dL_law_397 : decode cL_law 397 = .ok (.iload 4, 2) := by decide +kernel
theorem dL_law_399 : decode cL_law 399 = .ok (.iconst 2, 1) := by decide +kernel
theorem dL_law_400 : decode cL_law 400 = .ok (.iadd, 1) := by decide +kernel
theorem dL_law_401 : decode cL_law 401 = .ok (.iaload, 1) := by decide +kernel
theorem dL_law_402 : decode cL_law 402 = .ok (.aload_n 0, 1) := by decide +kernel
theorem dL_law_403 : decode cL_law 403 = .ok (.iload 4, 2) := by decide +kernel
theorem dL_law_405 : decode cL_law 405 = .ok (.iconst 3, 1) := by decide +kernel
theorem dL_law_406 : decode cL_law 406 = .ok (.iadd, 1) := by decide +kernel
theorem dL_law_407 : decode cL_law 407 = .ok (.iaload, 1) := by decide +kernel
theorem dL_law_408 : decode cL_law 408 = .ok (.invokevirtual 99, 3) := by decide +kernel
theorem dL_law_411 : decode cL_law 411 = .ok (.istore 6, 2) := by decide +kernel
theorem dL_law_413 : decode cL_law 413 = .ok (.aload_n 2, 1) := by decide +kernel
theorem dL_law_414 : decode cL_law 414 = .ok (.invokevirtual 86, 3) := by decide +kernel
theorem dL_law_417 : decode cL_law 417 = .ok (.iload 5, 2) := by decide +kernel
theorem dL_law_419 : decode cL_law 419 = .ok (.if_icmp .eq 5, 3) := by decide +kernel
theorem dL_law_422 : decode cL_law 422 = .ok (.iconst 0, 1) := by decide +kernel
theorem dL_law_423 : decode cL_law 423 = .ok (.ireturn, 1) := by decide +kernel
theorem dL_law_424 : decode cL_law 424 = .ok (.iload 5, 2) := by decide +kernel
theorem dL_law_426 : decode cL_law 426 = .ok (.ifCond .ne 15, 3) := by decide +kernel
theorem dL_law_429 : decode cL_law 429 = .ok (.aload_n 3, 1) := by decide +kernel
theorem dL_law_430 : decode cL_law 430 = .ok (.iconst 0, 1) := by decide +kernel
theorem dL_law_431 : decode cL_law 431 = .ok (.laload, 1) := by decide +kernel
theorem dL_law_432 : decode cL_law 432 = .ok (.iload 6, 2) := by decide +kernel
theorem dL_law_434 : decode cL_law 434 = .ok (.i2l, 1) := by decide +kernel
theorem dL_law_435 : decode cL_law 435 = .ok (.lcmp, 1) := by decide +kernel
theorem dL_law_436 : decode cL_law 436 = .ok (.ifCond .eq 5, 3) := by decide +kernel
theorem dL_law_439 : decode cL_law 439 = .ok (.iconst 0, 1) := by decide +kernel
theorem dL_law_440 : decode cL_law 440 = .ok (.ireturn, 1) := by decide +kernel
theorem dL_law_441 : decode cL_law 441 = .ok (.goto 1096, 3) := by decide +kernel
theorem dL_law_444 : decode cL_law 444 = .ok (.aload_n 1, 1) := by decide +kernel
theorem dL_law_445 : decode cL_law 445 = .ok (.aload_n 0, 1) := by decide +kernel
theorem dL_law_446 : decode cL_law 446 = .ok (.iload 4, 2) := by decide +kernel
theorem dL_law_448 : decode cL_law 448 = .ok (.iconst 1, 1) := by decide +kernel
theorem dL_law_449 : decode cL_law 449 = .ok (.iadd, 1) := by decide +kernel
theorem dL_law_450 : decode cL_law 450 = .ok (.iaload, 1) := by decide +kernel
theorem dL_law_451 : decode cL_law 451 = .ok (.aload_n 3, 1) := by decide +kernel
theorem dL_law_452 : decode cL_law 452 = .ok (.invokestatic 100, 3) := by decide +kernel
theorem dL_law_455 : decode cL_law 455 = .ok (.istore 5, 2) := by decide +kernel
theorem dL_law_457 : decode cL_law 457 = .ok (.aload_n 2, 1) := by decide +kernel
theorem dL_law_458 : decode cL_law 458 = .ok (.aload_n 0, 1) := by decide +kernel
theorem dL_law_459 : decode cL_law 459 = .ok (.iload 4, 2) := by decide +kernel
theorem dL_law_461 : decode cL_law 461 = .ok (.iconst 1, 1) := by decide +kernel
theorem dL_law_462 : decode cL_law 462 = .ok (.iadd, 1) := by decide +kernel
theorem dL_law_463 : decode cL_law 463 = .ok (.iaload, 1) := by decide +kernel
theorem dL_law_464 : decode cL_law 464 = .ok (.invokevirtual 102, 3) := by decide +kernel
theorem dL_law_467 : decode cL_law 467 = .ok (.istore 6, 2) := by decide +kernel
theorem dL_law_469 : decode cL_law 469 = .ok (.aload_n 2, 1) := by decide +kernel
theorem dL_law_470 : decode cL_law 470 = .ok (.invokevirtual 86, 3) := by decide +kernel
theorem dL_law_473 : decode cL_law 473 = .ok (.iload 5, 2) := by decide +kernel
theorem dL_law_475 : decode cL_law 475 = .ok (.if_icmp .eq 5, 3) := by decide +kernel
theorem dL_law_478 : decode cL_law 478 = .ok (.iconst 0, 1) := by decide +kernel
theorem dL_law_479 : decode cL_law 479 = .ok (.ireturn, 1) := by decide +kernel
theorem dL_law_480 : decode cL_law 480 = .ok (.iload 5, 2) := by decide +kernel
theorem dL_law_482 : decode cL_law 482 = .ok (.ifCond .ne 15, 3) := by decide +kernel
theorem dL_law_485 : decode cL_law 485 = .ok (.aload_n 3, 1) := by decide +kernel
theorem dL_law_486 : decode cL_law 486 = .ok (.iconst 0, 1) := by decide +kernel
theorem dL_law_487 : decode cL_law 487 = .ok (.laload, 1) := by decide +kernel
theorem dL_law_488 : decode cL_law 488 = .ok (.iload 6, 2) := by decide +kernel
theorem dL_law_490 : decode cL_law 490 = .ok (.i2l, 1) := by decide +kernel
theorem dL_law_491 : decode cL_law 491 = .ok (.lcmp, 1) := by decide +kernel
theorem dL_law_492 : decode cL_law 492 = .ok (.ifCond .eq 5, 3) := by decide +kernel
theorem dL_law_495 : decode cL_law 495 = .ok (.iconst 0, 1) := by decide +kernel
theorem dL_law_496 : decode cL_law 496 = .ok (.ireturn, 1) := by decide +kernel
theorem dL_law_497 : decode cL_law 497 = .ok (.goto 1040, 3) := by decide +kernel
theorem dL_law_500 : decode cL_law 500 = .ok (.aload_n 1, 1) := by decide +kernel
theorem dL_law_501 : decode cL_law 501 = .ok (.aload_n 0, 1) := by decide +kernel
theorem dL_law_502 : decode cL_law 502 = .ok (.iload 4, 2) := by decide +kernel
theorem dL_law_504 : decode cL_law 504 = .ok (.iconst 1, 1) := by decide +kernel
theorem dL_law_505 : decode cL_law 505 = .ok (.iadd, 1) := by decide +kernel
theorem dL_law_506 : decode cL_law 506 = .ok (.iaload, 1) := by decide +kernel
theorem dL_law_507 : decode cL_law 507 = .ok (.aload_n 0, 1) := by decide +kernel
theorem dL_law_508 : decode cL_law 508 = .ok (.iload 4, 2) := by decide +kernel
theorem dL_law_510 : decode cL_law 510 = .ok (.iconst 2, 1) := by decide +kernel
theorem dL_law_511 : decode cL_law 511 = .ok (.iadd, 1) := by decide +kernel
theorem dL_law_512 : decode cL_law 512 = .ok (.iaload, 1) := by decide +kernel
theorem dL_law_513 : decode cL_law 513 = .ok (.aload_n 3, 1) := by decide +kernel
theorem dL_law_514 : decode cL_law 514 = .ok (.invokestatic 103, 3) := by decide +kernel
theorem dL_law_517 : decode cL_law 517 = .ok (.istore 5, 2) := by decide +kernel
theorem dL_law_519 : decode cL_law 519 = .ok (.aload_n 2, 1) := by decide +kernel
theorem dL_law_520 : decode cL_law 520 = .ok (.aload_n 0, 1) := by decide +kernel
theorem dL_law_521 : decode cL_law 521 = .ok (.iload 4, 2) := by decide +kernel
theorem dL_law_523 : decode cL_law 523 = .ok (.iconst 1, 1) := by decide +kernel
theorem dL_law_524 : decode cL_law 524 = .ok (.iadd, 1) := by decide +kernel
theorem dL_law_525 : decode cL_law 525 = .ok (.iaload, 1) := by decide +kernel
theorem dL_law_526 : decode cL_law 526 = .ok (.aload_n 0, 1) := by decide +kernel
theorem dL_law_527 : decode cL_law 527 = .ok (.iload 4, 2) := by decide +kernel
theorem dL_law_529 : decode cL_law 529 = .ok (.iconst 2, 1) := by decide +kernel
theorem dL_law_530 : decode cL_law 530 = .ok (.iadd, 1) := by decide +kernel
theorem dL_law_531 : decode cL_law 531 = .ok (.iaload, 1) := by decide +kernel
theorem dL_law_532 : decode cL_law 532 = .ok (.invokevirtual 105, 3) := by decide +kernel
theorem dL_law_535 : decode cL_law 535 = .ok (.istore 6, 2) := by decide +kernel
theorem dL_law_537 : decode cL_law 537 = .ok (.aload_n 2, 1) := by decide +kernel
theorem dL_law_538 : decode cL_law 538 = .ok (.invokevirtual 86, 3) := by decide +kernel
theorem dL_law_541 : decode cL_law 541 = .ok (.iload 5, 2) := by decide +kernel
theorem dL_law_543 : decode cL_law 543 = .ok (.if_icmp .eq 5, 3) := by decide +kernel
theorem dL_law_546 : decode cL_law 546 = .ok (.iconst 0, 1) := by decide +kernel
theorem dL_law_547 : decode cL_law 547 = .ok (.ireturn, 1) := by decide +kernel
theorem dL_law_548 : decode cL_law 548 = .ok (.iload 5, 2) := by decide +kernel
theorem dL_law_550 : decode cL_law 550 = .ok (.ifCond .ne 15, 3) := by decide +kernel
theorem dL_law_553 : decode cL_law 553 = .ok (.aload_n 3, 1) := by decide +kernel
theorem dL_law_554 : decode cL_law 554 = .ok (.iconst 0, 1) := by decide +kernel
theorem dL_law_555 : decode cL_law 555 = .ok (.laload, 1) := by decide +kernel
theorem dL_law_556 : decode cL_law 556 = .ok (.iload 6, 2) := by decide +kernel
theorem dL_law_558 : decode cL_law 558 = .ok (.i2l, 1) := by decide +kernel
theorem dL_law_559 : decode cL_law 559 = .ok (.lcmp, 1) := by decide +kernel
theorem dL_law_560 : decode cL_law 560 = .ok (.ifCond .eq 5, 3) := by decide +kernel
theorem dL_law_563 : decode cL_law 563 = .ok (.iconst 0, 1) := by decide +kernel
theorem dL_law_564 : decode cL_law 564 = .ok (.ireturn, 1) := by decide +kernel
theorem dL_law_565 : decode cL_law 565 = .ok (.goto 972, 3) := by decide +kernel
theorem dL_law_568 : decode cL_law 568 = .ok (.aload_n 1, 1) := by decide +kernel
theorem dL_law_569 : decode cL_law 569 = .ok (.aload_n 0, 1) := by decide +kernel
theorem dL_law_570 : decode cL_law 570 = .ok (.iload 4, 2) := by decide +kernel
theorem dL_law_572 : decode cL_law 572 = .ok (.iconst 1, 1) := by decide +kernel
theorem dL_law_573 : decode cL_law 573 = .ok (.iadd, 1) := by decide +kernel
theorem dL_law_574 : decode cL_law 574 = .ok (.iaload, 1) := by decide +kernel
theorem dL_law_575 : decode cL_law 575 = .ok (.aload_n 3, 1) := by decide +kernel
theorem dL_law_576 : decode cL_law 576 = .ok (.invokestatic 106, 3) := by decide +kernel
theorem dL_law_579 : decode cL_law 579 = .ok (.istore 5, 2) := by decide +kernel
theorem dL_law_581 : decode cL_law 581 = .ok (.aload_n 2, 1) := by decide +kernel
theorem dL_law_582 : decode cL_law 582 = .ok (.aload_n 0, 1) := by decide +kernel
theorem dL_law_583 : decode cL_law 583 = .ok (.iload 4, 2) := by decide +kernel
theorem dL_law_585 : decode cL_law 585 = .ok (.iconst 1, 1) := by decide +kernel
theorem dL_law_586 : decode cL_law 586 = .ok (.iadd, 1) := by decide +kernel
theorem dL_law_587 : decode cL_law 587 = .ok (.iaload, 1) := by decide +kernel
theorem dL_law_588 : decode cL_law 588 = .ok (.invokevirtual 108, 3) := by decide +kernel
theorem dL_law_591 : decode cL_law 591 = .ok (.istore 6, 2) := by decide +kernel
theorem dL_law_593 : decode cL_law 593 = .ok (.aload_n 2, 1) := by decide +kernel
theorem dL_law_594 : decode cL_law 594 = .ok (.invokevirtual 86, 3) := by decide +kernel
theorem dL_law_597 : decode cL_law 597 = .ok (.iload 5, 2) := by decide +kernel
theorem dL_law_599 : decode cL_law 599 = .ok (.if_icmp .eq 5, 3) := by decide +kernel
theorem dL_law_602 : decode cL_law 602 = .ok (.iconst 0, 1) := by decide +kernel
theorem dL_law_603 : decode cL_law 603 = .ok (.ireturn, 1) := by decide +kernel
theorem dL_law_604 : decode cL_law 604 = .ok (.iload 5, 2) := by decide +kernel
theorem dL_law_606 : decode cL_law 606 = .ok (.ifCond .ne 15, 3) := by decide +kernel
theorem dL_law_609 : decode cL_law 609 = .ok (.aload_n 3, 1) := by decide +kernel
theorem dL_law_610 : decode cL_law 610 = .ok (.iconst 0, 1) := by decide +kernel
theorem dL_law_611 : decode cL_law 611 = .ok (.laload, 1) := by decide +kernel
theorem dL_law_612 : decode cL_law 612 = .ok (.iload 6, 2) := by decide +kernel
theorem dL_law_614 : decode cL_law 614 = .ok (.i2l, 1) := by decide +kernel
theorem dL_law_615 : decode cL_law 615 = .ok (.lcmp, 1) := by decide +kernel
theorem dL_law_616 : decode cL_law 616 = .ok (.ifCond .eq 5, 3) := by decide +kernel
theorem dL_law_619 : decode cL_law 619 = .ok (.iconst 0, 1) := by decide +kernel
theorem dL_law_620 : decode cL_law 620 = .ok (.ireturn, 1) := by decide +kernel
theorem dL_law_621 : decode cL_law 621 = .ok (.goto 916, 3) := by decide +kernel
theorem dL_law_624 : decode cL_law 624 = .ok (.aload_n 1, 1) := by decide +kernel
theorem dL_law_625 : decode cL_law 625 = .ok (.aload_n 0, 1) := by decide +kernel
theorem dL_law_626 : decode cL_law 626 = .ok (.iload 4, 2) := by decide +kernel
theorem dL_law_628 : decode cL_law 628 = .ok (.iconst 1, 1) := by decide +kernel
theorem dL_law_629 : decode cL_law 629 = .ok (.iadd, 1) := by decide +kernel
theorem dL_law_630 : decode cL_law 630 = .ok (.iaload, 1) := by decide +kernel
theorem dL_law_631 : decode cL_law 631 = .ok (.aload_n 0, 1) := by decide +kernel
theorem dL_law_632 : decode cL_law 632 = .ok (.iload 4, 2) := by decide +kernel
theorem dL_law_634 : decode cL_law 634 = .ok (.iconst 2, 1) := by decide +kernel
theorem dL_law_635 : decode cL_law 635 = .ok (.iadd, 1) := by decide +kernel
theorem dL_law_636 : decode cL_law 636 = .ok (.iaload, 1) := by decide +kernel
theorem dL_law_637 : decode cL_law 637 = .ok (.aload_n 3, 1) := by decide +kernel
theorem dL_law_638 : decode cL_law 638 = .ok (.invokestatic 109, 3) := by decide +kernel
theorem dL_law_641 : decode cL_law 641 = .ok (.istore 5, 2) := by decide +kernel
theorem dL_law_643 : decode cL_law 643 = .ok (.aload_n 2, 1) := by decide +kernel
theorem dL_law_644 : decode cL_law 644 = .ok (.aload_n 0, 1) := by decide +kernel
theorem dL_law_645 : decode cL_law 645 = .ok (.iload 4, 2) := by decide +kernel
theorem dL_law_647 : decode cL_law 647 = .ok (.iconst 1, 1) := by decide +kernel
theorem dL_law_648 : decode cL_law 648 = .ok (.iadd, 1) := by decide +kernel
theorem dL_law_649 : decode cL_law 649 = .ok (.iaload, 1) := by decide +kernel
theorem dL_law_650 : decode cL_law 650 = .ok (.aload_n 0, 1) := by decide +kernel
theorem dL_law_651 : decode cL_law 651 = .ok (.iload 4, 2) := by decide +kernel
theorem dL_law_653 : decode cL_law 653 = .ok (.iconst 2, 1) := by decide +kernel
theorem dL_law_654 : decode cL_law 654 = .ok (.iadd, 1) := by decide +kernel
theorem dL_law_655 : decode cL_law 655 = .ok (.iaload, 1) := by decide +kernel
theorem dL_law_656 : decode cL_law 656 = .ok (.invokevirtual 111, 3) := by decide +kernel
theorem dL_law_659 : decode cL_law 659 = .ok (.istore 6, 2) := by decide +kernel
theorem dL_law_661 : decode cL_law 661 = .ok (.aload_n 2, 1) := by decide +kernel
theorem dL_law_662 : decode cL_law 662 = .ok (.invokevirtual 86, 3) := by decide +kernel
theorem dL_law_665 : decode cL_law 665 = .ok (.iload 5, 2) := by decide +kernel
theorem dL_law_667 : decode cL_law 667 = .ok (.if_icmp .eq 5, 3) := by decide +kernel
theorem dL_law_670 : decode cL_law 670 = .ok (.iconst 0, 1) := by decide +kernel
theorem dL_law_671 : decode cL_law 671 = .ok (.ireturn, 1) := by decide +kernel
theorem dL_law_672 : decode cL_law 672 = .ok (.iload 5, 2) := by decide +kernel
theorem dL_law_674 : decode cL_law 674 = .ok (.ifCond .ne 15, 3) := by decide +kernel
theorem dL_law_677 : decode cL_law 677 = .ok (.aload_n 3, 1) := by decide +kernel
theorem dL_law_678 : decode cL_law 678 = .ok (.iconst 0, 1) := by decide +kernel
theorem dL_law_679 : decode cL_law 679 = .ok (.laload, 1) := by decide +kernel
theorem dL_law_680 : decode cL_law 680 = .ok (.iload 6, 2) := by decide +kernel
theorem dL_law_682 : decode cL_law 682 = .ok (.i2l, 1) := by decide +kernel
theorem dL_law_683 : decode cL_law 683 = .ok (.lcmp, 1) := by decide +kernel
theorem dL_law_684 : decode cL_law 684 = .ok (.ifCond .eq 5, 3) := by decide +kernel
theorem dL_law_687 : decode cL_law 687 = .ok (.iconst 0, 1) := by decide +kernel
theorem dL_law_688 : decode cL_law 688 = .ok (.ireturn, 1) := by decide +kernel
theorem dL_law_689 : decode cL_law 689 = .ok (.goto 848, 3) := by decide +kernel
theorem dL_law_692 : decode cL_law 692 = .ok (.aload_n 1, 1) := by decide +kernel
theorem dL_law_693 : decode cL_law 693 = .ok (.invokevirtual 112, 3) := by decide +kernel
theorem dL_law_696 : decode cL_law 696 = .ok (.aload_n 2, 1) := by decide +kernel
theorem dL_law_697 : decode cL_law 697 = .ok (.invokevirtual 115, 3) := by decide +kernel
theorem dL_law_700 : decode cL_law 700 = .ok (.if_icmp .eq 837, 3) := by decide +kernel
theorem dL_law_703 : decode cL_law 703 = .ok (.iconst 0, 1) := by decide +kernel
theorem dL_law_704 : decode cL_law 704 = .ok (.ireturn, 1) := by decide +kernel
theorem dL_law_705 : decode cL_law 705 = .ok (.aload_n 1, 1) := by decide +kernel
theorem dL_law_706 : decode cL_law 706 = .ok (.aload_n 0, 1) := by decide +kernel
theorem dL_law_707 : decode cL_law 707 = .ok (.iload 4, 2) := by decide +kernel
theorem dL_law_709 : decode cL_law 709 = .ok (.iconst 1, 1) := by decide +kernel
theorem dL_law_710 : decode cL_law 710 = .ok (.iadd, 1) := by decide +kernel
theorem dL_law_711 : decode cL_law 711 = .ok (.iaload, 1) := by decide +kernel
theorem dL_law_712 : decode cL_law 712 = .ok (.aload_n 0, 1) := by decide +kernel
theorem dL_law_713 : decode cL_law 713 = .ok (.iload 4, 2) := by decide +kernel
theorem dL_law_715 : decode cL_law 715 = .ok (.iconst 2, 1) := by decide +kernel
theorem dL_law_716 : decode cL_law 716 = .ok (.iadd, 1) := by decide +kernel
theorem dL_law_717 : decode cL_law 717 = .ok (.iaload, 1) := by decide +kernel
theorem dL_law_718 : decode cL_law 718 = .ok (.aload_n 3, 1) := by decide +kernel
theorem dL_law_719 : decode cL_law 719 = .ok (.invokestatic 116, 3) := by decide +kernel
theorem dL_law_722 : decode cL_law 722 = .ok (.istore 5, 2) := by decide +kernel
theorem dL_law_724 : decode cL_law 724 = .ok (.aload_n 2, 1) := by decide +kernel
theorem dL_law_725 : decode cL_law 725 = .ok (.aload_n 0, 1) := by decide +kernel
theorem dL_law_726 : decode cL_law 726 = .ok (.iload 4, 2) := by decide +kernel
theorem dL_law_728 : decode cL_law 728 = .ok (.iconst 1, 1) := by decide +kernel
theorem dL_law_729 : decode cL_law 729 = .ok (.iadd, 1) := by decide +kernel
theorem dL_law_730 : decode cL_law 730 = .ok (.iaload, 1) := by decide +kernel
theorem dL_law_731 : decode cL_law 731 = .ok (.aload_n 0, 1) := by decide +kernel
theorem dL_law_732 : decode cL_law 732 = .ok (.iload 4, 2) := by decide +kernel
theorem dL_law_734 : decode cL_law 734 = .ok (.iconst 2, 1) := by decide +kernel
theorem dL_law_735 : decode cL_law 735 = .ok (.iadd, 1) := by decide +kernel
theorem dL_law_736 : decode cL_law 736 = .ok (.iaload, 1) := by decide +kernel
theorem dL_law_737 : decode cL_law 737 = .ok (.invokevirtual 118, 3) := by decide +kernel
theorem dL_law_740 : decode cL_law 740 = .ok (.istore 6, 2) := by decide +kernel
theorem dL_law_742 : decode cL_law 742 = .ok (.aload_n 2, 1) := by decide +kernel
theorem dL_law_743 : decode cL_law 743 = .ok (.invokevirtual 86, 3) := by decide +kernel
theorem dL_law_746 : decode cL_law 746 = .ok (.iload 5, 2) := by decide +kernel
theorem dL_law_748 : decode cL_law 748 = .ok (.if_icmp .eq 5, 3) := by decide +kernel
theorem dL_law_751 : decode cL_law 751 = .ok (.iconst 0, 1) := by decide +kernel
theorem dL_law_752 : decode cL_law 752 = .ok (.ireturn, 1) := by decide +kernel
theorem dL_law_753 : decode cL_law 753 = .ok (.iload 5, 2) := by decide +kernel
theorem dL_law_755 : decode cL_law 755 = .ok (.ifCond .ne 15, 3) := by decide +kernel
theorem dL_law_758 : decode cL_law 758 = .ok (.aload_n 3, 1) := by decide +kernel
theorem dL_law_759 : decode cL_law 759 = .ok (.iconst 0, 1) := by decide +kernel
theorem dL_law_760 : decode cL_law 760 = .ok (.laload, 1) := by decide +kernel
theorem dL_law_761 : decode cL_law 761 = .ok (.iload 6, 2) := by decide +kernel
theorem dL_law_763 : decode cL_law 763 = .ok (.i2l, 1) := by decide +kernel
theorem dL_law_764 : decode cL_law 764 = .ok (.lcmp, 1) := by decide +kernel
theorem dL_law_765 : decode cL_law 765 = .ok (.ifCond .eq 5, 3) := by decide +kernel
theorem dL_law_768 : decode cL_law 768 = .ok (.iconst 0, 1) := by decide +kernel
theorem dL_law_769 : decode cL_law 769 = .ok (.ireturn, 1) := by decide +kernel
theorem dL_law_770 : decode cL_law 770 = .ok (.goto 767, 3) := by decide +kernel
theorem dL_law_773 : decode cL_law 773 = .ok (.aload_n 1, 1) := by decide +kernel
theorem dL_law_774 : decode cL_law 774 = .ok (.invokevirtual 119, 3) := by decide +kernel
theorem dL_law_777 : decode cL_law 777 = .ok (.aload_n 2, 1) := by decide +kernel
theorem dL_law_778 : decode cL_law 778 = .ok (.invokevirtual 122, 3) := by decide +kernel
theorem dL_law_781 : decode cL_law 781 = .ok (.if_icmp .eq 756, 3) := by decide +kernel
theorem dL_law_784 : decode cL_law 784 = .ok (.iconst 0, 1) := by decide +kernel
theorem dL_law_785 : decode cL_law 785 = .ok (.ireturn, 1) := by decide +kernel
theorem dL_law_786 : decode cL_law 786 = .ok (.aload_n 1, 1) := by decide +kernel
theorem dL_law_787 : decode cL_law 787 = .ok (.aload_n 0, 1) := by decide +kernel
theorem dL_law_788 : decode cL_law 788 = .ok (.iload 4, 2) := by decide +kernel
theorem dL_law_790 : decode cL_law 790 = .ok (.iconst 1, 1) := by decide +kernel
theorem dL_law_791 : decode cL_law 791 = .ok (.iadd, 1) := by decide +kernel
theorem dL_law_792 : decode cL_law 792 = .ok (.iaload, 1) := by decide +kernel
theorem dL_law_793 : decode cL_law 793 = .ok (.aload_n 0, 1) := by decide +kernel
theorem dL_law_794 : decode cL_law 794 = .ok (.iload 4, 2) := by decide +kernel
theorem dL_law_796 : decode cL_law 796 = .ok (.iconst 2, 1) := by decide +kernel
theorem dL_law_797 : decode cL_law 797 = .ok (.iadd, 1) := by decide +kernel
theorem dL_law_798 : decode cL_law 798 = .ok (.iaload, 1) := by decide +kernel
theorem dL_law_799 : decode cL_law 799 = .ok (.aload_n 3, 1) := by decide +kernel
theorem dL_law_800 : decode cL_law 800 = .ok (.invokestatic 123, 3) := by decide +kernel
theorem dL_law_803 : decode cL_law 803 = .ok (.istore 5, 2) := by decide +kernel
theorem dL_law_805 : decode cL_law 805 = .ok (.aload_n 2, 1) := by decide +kernel
theorem dL_law_806 : decode cL_law 806 = .ok (.aload_n 0, 1) := by decide +kernel
theorem dL_law_807 : decode cL_law 807 = .ok (.iload 4, 2) := by decide +kernel
theorem dL_law_809 : decode cL_law 809 = .ok (.iconst 1, 1) := by decide +kernel
theorem dL_law_810 : decode cL_law 810 = .ok (.iadd, 1) := by decide +kernel
theorem dL_law_811 : decode cL_law 811 = .ok (.iaload, 1) := by decide +kernel
theorem dL_law_812 : decode cL_law 812 = .ok (.aload_n 0, 1) := by decide +kernel
theorem dL_law_813 : decode cL_law 813 = .ok (.iload 4, 2) := by decide +kernel
theorem dL_law_815 : decode cL_law 815 = .ok (.iconst 2, 1) := by decide +kernel
theorem dL_law_816 : decode cL_law 816 = .ok (.iadd, 1) := by decide +kernel
theorem dL_law_817 : decode cL_law 817 = .ok (.iaload, 1) := by decide +kernel
theorem dL_law_818 : decode cL_law 818 = .ok (.invokevirtual 125, 3) := by decide +kernel
theorem dL_law_821 : decode cL_law 821 = .ok (.istore 6, 2) := by decide +kernel
theorem dL_law_823 : decode cL_law 823 = .ok (.aload_n 2, 1) := by decide +kernel
theorem dL_law_824 : decode cL_law 824 = .ok (.invokevirtual 86, 3) := by decide +kernel
theorem dL_law_827 : decode cL_law 827 = .ok (.iload 5, 2) := by decide +kernel
theorem dL_law_829 : decode cL_law 829 = .ok (.if_icmp .eq 5, 3) := by decide +kernel
theorem dL_law_832 : decode cL_law 832 = .ok (.iconst 0, 1) := by decide +kernel
theorem dL_law_833 : decode cL_law 833 = .ok (.ireturn, 1) := by decide +kernel
theorem dL_law_834 : decode cL_law 834 = .ok (.iload 5, 2) := by decide +kernel
theorem dL_law_836 : decode cL_law 836 = .ok (.ifCond .ne 15, 3) := by decide +kernel
theorem dL_law_839 : decode cL_law 839 = .ok (.aload_n 3, 1) := by decide +kernel
theorem dL_law_840 : decode cL_law 840 = .ok (.iconst 0, 1) := by decide +kernel
theorem dL_law_841 : decode cL_law 841 = .ok (.laload, 1) := by decide +kernel
theorem dL_law_842 : decode cL_law 842 = .ok (.iload 6, 2) := by decide +kernel
theorem dL_law_844 : decode cL_law 844 = .ok (.i2l, 1) := by decide +kernel
theorem dL_law_845 : decode cL_law 845 = .ok (.lcmp, 1) := by decide +kernel
theorem dL_law_846 : decode cL_law 846 = .ok (.ifCond .eq 5, 3) := by decide +kernel
theorem dL_law_849 : decode cL_law 849 = .ok (.iconst 0, 1) := by decide +kernel
theorem dL_law_850 : decode cL_law 850 = .ok (.ireturn, 1) := by decide +kernel
theorem dL_law_851 : decode cL_law 851 = .ok (.goto 686, 3) := by decide +kernel
theorem dL_law_854 : decode cL_law 854 = .ok (.aload_n 1, 1) := by decide +kernel
theorem dL_law_855 : decode cL_law 855 = .ok (.aload_n 0, 1) := by decide +kernel
theorem dL_law_856 : decode cL_law 856 = .ok (.iload 4, 2) := by decide +kernel
theorem dL_law_858 : decode cL_law 858 = .ok (.iconst 1, 1) := by decide +kernel
theorem dL_law_859 : decode cL_law 859 = .ok (.iadd, 1) := by decide +kernel
theorem dL_law_860 : decode cL_law 860 = .ok (.iaload, 1) := by decide +kernel
theorem dL_law_861 : decode cL_law 861 = .ok (.aload_n 0, 1) := by decide +kernel
theorem dL_law_862 : decode cL_law 862 = .ok (.iload 4, 2) := by decide +kernel
theorem dL_law_864 : decode cL_law 864 = .ok (.iconst 2, 1) := by decide +kernel
theorem dL_law_865 : decode cL_law 865 = .ok (.iadd, 1) := by decide +kernel
theorem dL_law_866 : decode cL_law 866 = .ok (.iaload, 1) := by decide +kernel
theorem dL_law_867 : decode cL_law 867 = .ok (.aload_n 3, 1) := by decide +kernel
theorem dL_law_868 : decode cL_law 868 = .ok (.invokestatic 126, 3) := by decide +kernel
theorem dL_law_871 : decode cL_law 871 = .ok (.istore 5, 2) := by decide +kernel
theorem dL_law_873 : decode cL_law 873 = .ok (.aload_n 2, 1) := by decide +kernel
theorem dL_law_874 : decode cL_law 874 = .ok (.aload_n 0, 1) := by decide +kernel
theorem dL_law_875 : decode cL_law 875 = .ok (.iload 4, 2) := by decide +kernel
theorem dL_law_877 : decode cL_law 877 = .ok (.iconst 1, 1) := by decide +kernel
theorem dL_law_878 : decode cL_law 878 = .ok (.iadd, 1) := by decide +kernel
theorem dL_law_879 : decode cL_law 879 = .ok (.iaload, 1) := by decide +kernel
theorem dL_law_880 : decode cL_law 880 = .ok (.aload_n 0, 1) := by decide +kernel
theorem dL_law_881 : decode cL_law 881 = .ok (.iload 4, 2) := by decide +kernel
theorem dL_law_883 : decode cL_law 883 = .ok (.iconst 2, 1) := by decide +kernel
theorem dL_law_884 : decode cL_law 884 = .ok (.iadd, 1) := by decide +kernel
theorem dL_law_885 : decode cL_law 885 = .ok (.iaload, 1) := by decide +kernel
theorem dL_law_886 : decode cL_law 886 = .ok (.invokevirtual 128, 3) := by decide +kernel
theorem dL_law_889 : decode cL_law 889 = .ok (.istore 6, 2) := by decide +kernel
theorem dL_law_891 : decode cL_law 891 = .ok (.aload_n 2, 1) := by decide +kernel
theorem dL_law_892 : decode cL_law 892 = .ok (.invokevirtual 86, 3) := by decide +kernel
theorem dL_law_895 : decode cL_law 895 = .ok (.iload 5, 2) := by decide +kernel
theorem dL_law_897 : decode cL_law 897 = .ok (.if_icmp .eq 5, 3) := by decide +kernel
theorem dL_law_900 : decode cL_law 900 = .ok (.iconst 0, 1) := by decide +kernel
theorem dL_law_901 : decode cL_law 901 = .ok (.ireturn, 1) := by decide +kernel
theorem dL_law_902 : decode cL_law 902 = .ok (.iload 5, 2) := by decide +kernel
theorem dL_law_904 : decode cL_law 904 = .ok (.ifCond .ne 15, 3) := by decide +kernel
theorem dL_law_907 : decode cL_law 907 = .ok (.aload_n 3, 1) := by decide +kernel
theorem dL_law_908 : decode cL_law 908 = .ok (.iconst 0, 1) := by decide +kernel
theorem dL_law_909 : decode cL_law 909 = .ok (.laload, 1) := by decide +kernel
theorem dL_law_910 : decode cL_law 910 = .ok (.iload 6, 2) := by decide +kernel
theorem dL_law_912 : decode cL_law 912 = .ok (.i2l, 1) := by decide +kernel
theorem dL_law_913 : decode cL_law 913 = .ok (.lcmp, 1) := by decide +kernel
theorem dL_law_914 : decode cL_law 914 = .ok (.ifCond .eq 5, 3) := by decide +kernel
theorem dL_law_917 : decode cL_law 917 = .ok (.iconst 0, 1) := by decide +kernel
theorem dL_law_918 : decode cL_law 918 = .ok (.ireturn, 1) := by decide +kernel
theorem dL_law_919 : decode cL_law 919 = .ok (.goto 618, 3) := by decide +kernel
theorem dL_law_922 : decode cL_law 922 = .ok (.aload_n 1, 1) := by decide +kernel
theorem dL_law_923 : decode cL_law 923 = .ok (.aload_n 0, 1) := by decide +kernel
theorem dL_law_924 : decode cL_law 924 = .ok (.iload 4, 2) := by decide +kernel
theorem dL_law_926 : decode cL_law 926 = .ok (.iconst 1, 1) := by decide +kernel
theorem dL_law_927 : decode cL_law 927 = .ok (.iadd, 1) := by decide +kernel
theorem dL_law_928 : decode cL_law 928 = .ok (.iaload, 1) := by decide +kernel
theorem dL_law_929 : decode cL_law 929 = .ok (.aload_n 0, 1) := by decide +kernel
theorem dL_law_930 : decode cL_law 930 = .ok (.iload 4, 2) := by decide +kernel
theorem dL_law_932 : decode cL_law 932 = .ok (.iconst 2, 1) := by decide +kernel
theorem dL_law_933 : decode cL_law 933 = .ok (.iadd, 1) := by decide +kernel
theorem dL_law_934 : decode cL_law 934 = .ok (.iaload, 1) := by decide +kernel
theorem dL_law_935 : decode cL_law 935 = .ok (.aload_n 0, 1) := by decide +kernel
theorem dL_law_936 : decode cL_law 936 = .ok (.iload 4, 2) := by decide +kernel
theorem dL_law_938 : decode cL_law 938 = .ok (.iconst 3, 1) := by decide +kernel
theorem dL_law_939 : decode cL_law 939 = .ok (.iadd, 1) := by decide +kernel
theorem dL_law_940 : decode cL_law 940 = .ok (.iaload, 1) := by decide +kernel
theorem dL_law_941 : decode cL_law 941 = .ok (.aload_n 3, 1) := by decide +kernel
theorem dL_law_942 : decode cL_law 942 = .ok (.invokestatic 129, 3) := by decide +kernel
theorem dL_law_945 : decode cL_law 945 = .ok (.istore 5, 2) := by decide +kernel
theorem dL_law_947 : decode cL_law 947 = .ok (.aload_n 2, 1) := by decide +kernel
theorem dL_law_948 : decode cL_law 948 = .ok (.aload_n 0, 1) := by decide +kernel
theorem dL_law_949 : decode cL_law 949 = .ok (.iload 4, 2) := by decide +kernel
theorem dL_law_951 : decode cL_law 951 = .ok (.iconst 1, 1) := by decide +kernel
theorem dL_law_952 : decode cL_law 952 = .ok (.iadd, 1) := by decide +kernel
theorem dL_law_953 : decode cL_law 953 = .ok (.iaload, 1) := by decide +kernel
theorem dL_law_954 : decode cL_law 954 = .ok (.aload_n 0, 1) := by decide +kernel
theorem dL_law_955 : decode cL_law 955 = .ok (.iload 4, 2) := by decide +kernel
theorem dL_law_957 : decode cL_law 957 = .ok (.iconst 2, 1) := by decide +kernel
theorem dL_law_958 : decode cL_law 958 = .ok (.iadd, 1) := by decide +kernel
theorem dL_law_959 : decode cL_law 959 = .ok (.iaload, 1) := by decide +kernel
theorem dL_law_960 : decode cL_law 960 = .ok (.aload_n 0, 1) := by decide +kernel
theorem dL_law_961 : decode cL_law 961 = .ok (.iload 4, 2) := by decide +kernel
theorem dL_law_963 : decode cL_law 963 = .ok (.iconst 3, 1) := by decide +kernel
theorem dL_law_964 : decode cL_law 964 = .ok (.iadd, 1) := by decide +kernel
theorem dL_law_965 : decode cL_law 965 = .ok (.iaload, 1) := by decide +kernel
theorem dL_law_966 : decode cL_law 966 = .ok (.invokevirtual 131, 3) := by decide +kernel
theorem dL_law_969 : decode cL_law 969 = .ok (.istore 6, 2) := by decide +kernel
theorem dL_law_971 : decode cL_law 971 = .ok (.aload_n 2, 1) := by decide +kernel
theorem dL_law_972 : decode cL_law 972 = .ok (.invokevirtual 86, 3) := by decide +kernel
theorem dL_law_975 : decode cL_law 975 = .ok (.iload 5, 2) := by decide +kernel
theorem dL_law_977 : decode cL_law 977 = .ok (.if_icmp .eq 5, 3) := by decide +kernel
theorem dL_law_980 : decode cL_law 980 = .ok (.iconst 0, 1) := by decide +kernel
theorem dL_law_981 : decode cL_law 981 = .ok (.ireturn, 1) := by decide +kernel
theorem dL_law_982 : decode cL_law 982 = .ok (.iload 5, 2) := by decide +kernel
theorem dL_law_984 : decode cL_law 984 = .ok (.ifCond .ne 15, 3) := by decide +kernel
theorem dL_law_987 : decode cL_law 987 = .ok (.aload_n 3, 1) := by decide +kernel
theorem dL_law_988 : decode cL_law 988 = .ok (.iconst 0, 1) := by decide +kernel
theorem dL_law_989 : decode cL_law 989 = .ok (.laload, 1) := by decide +kernel
theorem dL_law_990 : decode cL_law 990 = .ok (.iload 6, 2) := by decide +kernel
theorem dL_law_992 : decode cL_law 992 = .ok (.i2l, 1) := by decide +kernel
theorem dL_law_993 : decode cL_law 993 = .ok (.lcmp, 1) := by decide +kernel
theorem dL_law_994 : decode cL_law 994 = .ok (.ifCond .eq 5, 3) := by decide +kernel
theorem dL_law_997 : decode cL_law 997 = .ok (.iconst 0, 1) := by decide +kernel
theorem dL_law_998 : decode cL_law 998 = .ok (.ireturn, 1) := by decide +kernel
theorem dL_law_999 : decode cL_law 999 = .ok (.goto 538, 3) := by decide +kernel
theorem dL_law_1002 : decode cL_law 1002 = .ok (.aload_n 1, 1) := by decide +kernel
theorem dL_law_1003 : decode cL_law 1003 = .ok (.aload_n 0, 1) := by decide +kernel
theorem dL_law_1004 : decode cL_law 1004 = .ok (.iload 4, 2) := by decide +kernel
theorem dL_law_1006 : decode cL_law 1006 = .ok (.iconst 1, 1) := by decide +kernel
theorem dL_law_1007 : decode cL_law 1007 = .ok (.iadd, 1) := by decide +kernel
theorem dL_law_1008 : decode cL_law 1008 = .ok (.iaload, 1) := by decide +kernel
theorem dL_law_1009 : decode cL_law 1009 = .ok (.aload_n 0, 1) := by decide +kernel
theorem dL_law_1010 : decode cL_law 1010 = .ok (.iload 4, 2) := by decide +kernel
theorem dL_law_1012 : decode cL_law 1012 = .ok (.iconst 2, 1) := by decide +kernel
theorem dL_law_1013 : decode cL_law 1013 = .ok (.iadd, 1) := by decide +kernel
theorem dL_law_1014 : decode cL_law 1014 = .ok (.iaload, 1) := by decide +kernel
theorem dL_law_1015 : decode cL_law 1015 = .ok (.aload_n 3, 1) := by decide +kernel
theorem dL_law_1016 : decode cL_law 1016 = .ok (.invokestatic 132, 3) := by decide +kernel
theorem dL_law_1019 : decode cL_law 1019 = .ok (.istore 5, 2) := by decide +kernel
theorem dL_law_1021 : decode cL_law 1021 = .ok (.aload_n 2, 1) := by decide +kernel
theorem dL_law_1022 : decode cL_law 1022 = .ok (.aload_n 0, 1) := by decide +kernel
theorem dL_law_1023 : decode cL_law 1023 = .ok (.iload 4, 2) := by decide +kernel
theorem dL_law_1025 : decode cL_law 1025 = .ok (.iconst 1, 1) := by decide +kernel
theorem dL_law_1026 : decode cL_law 1026 = .ok (.iadd, 1) := by decide +kernel
theorem dL_law_1027 : decode cL_law 1027 = .ok (.iaload, 1) := by decide +kernel
theorem dL_law_1028 : decode cL_law 1028 = .ok (.aload_n 0, 1) := by decide +kernel
theorem dL_law_1029 : decode cL_law 1029 = .ok (.iload 4, 2) := by decide +kernel
theorem dL_law_1031 : decode cL_law 1031 = .ok (.iconst 2, 1) := by decide +kernel
theorem dL_law_1032 : decode cL_law 1032 = .ok (.iadd, 1) := by decide +kernel
theorem dL_law_1033 : decode cL_law 1033 = .ok (.iaload, 1) := by decide +kernel
theorem dL_law_1034 : decode cL_law 1034 = .ok (.invokevirtual 134, 3) := by decide +kernel
theorem dL_law_1037 : decode cL_law 1037 = .ok (.istore 6, 2) := by decide +kernel
theorem dL_law_1039 : decode cL_law 1039 = .ok (.aload_n 2, 1) := by decide +kernel
theorem dL_law_1040 : decode cL_law 1040 = .ok (.invokevirtual 86, 3) := by decide +kernel
theorem dL_law_1043 : decode cL_law 1043 = .ok (.iload 5, 2) := by decide +kernel
theorem dL_law_1045 : decode cL_law 1045 = .ok (.if_icmp .eq 5, 3) := by decide +kernel
theorem dL_law_1048 : decode cL_law 1048 = .ok (.iconst 0, 1) := by decide +kernel
theorem dL_law_1049 : decode cL_law 1049 = .ok (.ireturn, 1) := by decide +kernel
theorem dL_law_1050 : decode cL_law 1050 = .ok (.iload 5, 2) := by decide +kernel
theorem dL_law_1052 : decode cL_law 1052 = .ok (.ifCond .ne 15, 3) := by decide +kernel
theorem dL_law_1055 : decode cL_law 1055 = .ok (.aload_n 3, 1) := by decide +kernel
theorem dL_law_1056 : decode cL_law 1056 = .ok (.iconst 0, 1) := by decide +kernel
theorem dL_law_1057 : decode cL_law 1057 = .ok (.laload, 1) := by decide +kernel
theorem dL_law_1058 : decode cL_law 1058 = .ok (.iload 6, 2) := by decide +kernel
theorem dL_law_1060 : decode cL_law 1060 = .ok (.i2l, 1) := by decide +kernel
theorem dL_law_1061 : decode cL_law 1061 = .ok (.lcmp, 1) := by decide +kernel
theorem dL_law_1062 : decode cL_law 1062 = .ok (.ifCond .eq 5, 3) := by decide +kernel
theorem dL_law_1065 : decode cL_law 1065 = .ok (.iconst 0, 1) := by decide +kernel
theorem dL_law_1066 : decode cL_law 1066 = .ok (.ireturn, 1) := by decide +kernel
theorem dL_law_1067 : decode cL_law 1067 = .ok (.goto 470, 3) := by decide +kernel
theorem dL_law_1070 : decode cL_law 1070 = .ok (.aload_n 1, 1) := by decide +kernel
theorem dL_law_1071 : decode cL_law 1071 = .ok (.aload_n 0, 1) := by decide +kernel
theorem dL_law_1072 : decode cL_law 1072 = .ok (.iload 4, 2) := by decide +kernel
theorem dL_law_1074 : decode cL_law 1074 = .ok (.iconst 1, 1) := by decide +kernel
theorem dL_law_1075 : decode cL_law 1075 = .ok (.iadd, 1) := by decide +kernel
theorem dL_law_1076 : decode cL_law 1076 = .ok (.iaload, 1) := by decide +kernel
theorem dL_law_1077 : decode cL_law 1077 = .ok (.aload_n 3, 1) := by decide +kernel
theorem dL_law_1078 : decode cL_law 1078 = .ok (.invokestatic 135, 3) := by decide +kernel
theorem dL_law_1081 : decode cL_law 1081 = .ok (.istore 5, 2) := by decide +kernel
theorem dL_law_1083 : decode cL_law 1083 = .ok (.aload_n 2, 1) := by decide +kernel
theorem dL_law_1084 : decode cL_law 1084 = .ok (.aload_n 0, 1) := by decide +kernel
theorem dL_law_1085 : decode cL_law 1085 = .ok (.iload 4, 2) := by decide +kernel
theorem dL_law_1087 : decode cL_law 1087 = .ok (.iconst 1, 1) := by decide +kernel
theorem dL_law_1088 : decode cL_law 1088 = .ok (.iadd, 1) := by decide +kernel
theorem dL_law_1089 : decode cL_law 1089 = .ok (.iaload, 1) := by decide +kernel
theorem dL_law_1090 : decode cL_law 1090 = .ok (.invokevirtual 137, 3) := by decide +kernel
theorem dL_law_1093 : decode cL_law 1093 = .ok (.istore 6, 2) := by decide +kernel
theorem dL_law_1095 : decode cL_law 1095 = .ok (.aload_n 2, 1) := by decide +kernel
theorem dL_law_1096 : decode cL_law 1096 = .ok (.invokevirtual 86, 3) := by decide +kernel
theorem dL_law_1099 : decode cL_law 1099 = .ok (.iload 5, 2) := by decide +kernel
theorem dL_law_1101 : decode cL_law 1101 = .ok (.if_icmp .eq 5, 3) := by decide +kernel
theorem dL_law_1104 : decode cL_law 1104 = .ok (.iconst 0, 1) := by decide +kernel
theorem dL_law_1105 : decode cL_law 1105 = .ok (.ireturn, 1) := by decide +kernel
theorem dL_law_1106 : decode cL_law 1106 = .ok (.iload 5, 2) := by decide +kernel
theorem dL_law_1108 : decode cL_law 1108 = .ok (.ifCond .ne 15, 3) := by decide +kernel
theorem dL_law_1111 : decode cL_law 1111 = .ok (.aload_n 3, 1) := by decide +kernel
theorem dL_law_1112 : decode cL_law 1112 = .ok (.iconst 0, 1) := by decide +kernel
theorem dL_law_1113 : decode cL_law 1113 = .ok (.laload, 1) := by decide +kernel
theorem dL_law_1114 : decode cL_law 1114 = .ok (.iload 6, 2) := by decide +kernel
theorem dL_law_1116 : decode cL_law 1116 = .ok (.i2l, 1) := by decide +kernel
theorem dL_law_1117 : decode cL_law 1117 = .ok (.lcmp, 1) := by decide +kernel
theorem dL_law_1118 : decode cL_law 1118 = .ok (.ifCond .eq 5, 3) := by decide +kernel
theorem dL_law_1121 : decode cL_law 1121 = .ok (.iconst 0, 1) := by decide +kernel
theorem dL_law_1122 : decode cL_law 1122 = .ok (.ireturn, 1) := by decide +kernel
theorem dL_law_1123 : decode cL_law 1123 = .ok (.goto 414, 3) := by decide +kernel
theorem dL_law_1126 : decode cL_law 1126 = .ok (.aload_n 1, 1) := by decide +kernel
theorem dL_law_1127 : decode cL_law 1127 = .ok (.aload_n 0, 1) := by decide +kernel
theorem dL_law_1128 : decode cL_law 1128 = .ok (.iload 4, 2) := by decide +kernel
theorem dL_law_1130 : decode cL_law 1130 = .ok (.iconst 1, 1) := by decide +kernel
theorem dL_law_1131 : decode cL_law 1131 = .ok (.iadd, 1) := by decide +kernel
theorem dL_law_1132 : decode cL_law 1132 = .ok (.iaload, 1) := by decide +kernel
theorem dL_law_1133 : decode cL_law 1133 = .ok (.aload_n 0, 1) := by decide +kernel
theorem dL_law_1134 : decode cL_law 1134 = .ok (.iload 4, 2) := by decide +kernel
theorem dL_law_1136 : decode cL_law 1136 = .ok (.iconst 2, 1) := by decide +kernel
theorem dL_law_1137 : decode cL_law 1137 = .ok (.iadd, 1) := by decide +kernel
theorem dL_law_1138 : decode cL_law 1138 = .ok (.iaload, 1) := by decide +kernel
theorem dL_law_1139 : decode cL_law 1139 = .ok (.aload_n 0, 1) := by decide +kernel
theorem dL_law_1140 : decode cL_law 1140 = .ok (.iload 4, 2) := by decide +kernel
theorem dL_law_1142 : decode cL_law 1142 = .ok (.iconst 3, 1) := by decide +kernel
theorem dL_law_1143 : decode cL_law 1143 = .ok (.iadd, 1) := by decide +kernel
theorem dL_law_1144 : decode cL_law 1144 = .ok (.iaload, 1) := by decide +kernel
theorem dL_law_1145 : decode cL_law 1145 = .ok (.aload_n 3, 1) := by decide +kernel
theorem dL_law_1146 : decode cL_law 1146 = .ok (.invokestatic 138, 3) := by decide +kernel
theorem dL_law_1149 : decode cL_law 1149 = .ok (.istore 5, 2) := by decide +kernel
theorem dL_law_1151 : decode cL_law 1151 = .ok (.aload_n 2, 1) := by decide +kernel
theorem dL_law_1152 : decode cL_law 1152 = .ok (.aload_n 0, 1) := by decide +kernel
theorem dL_law_1153 : decode cL_law 1153 = .ok (.iload 4, 2) := by decide +kernel
theorem dL_law_1155 : decode cL_law 1155 = .ok (.iconst 1, 1) := by decide +kernel
theorem dL_law_1156 : decode cL_law 1156 = .ok (.iadd, 1) := by decide +kernel
theorem dL_law_1157 : decode cL_law 1157 = .ok (.iaload, 1) := by decide +kernel
theorem dL_law_1158 : decode cL_law 1158 = .ok (.aload_n 0, 1) := by decide +kernel
theorem dL_law_1159 : decode cL_law 1159 = .ok (.iload 4, 2) := by decide +kernel
theorem dL_law_1161 : decode cL_law 1161 = .ok (.iconst 2, 1) := by decide +kernel
theorem dL_law_1162 : decode cL_law 1162 = .ok (.iadd, 1) := by decide +kernel
theorem dL_law_1163 : decode cL_law 1163 = .ok (.iaload, 1) := by decide +kernel
theorem dL_law_1164 : decode cL_law 1164 = .ok (.aload_n 0, 1) := by decide +kernel
theorem dL_law_1165 : decode cL_law 1165 = .ok (.iload 4, 2) := by decide +kernel
theorem dL_law_1167 : decode cL_law 1167 = .ok (.iconst 3, 1) := by decide +kernel
theorem dL_law_1168 : decode cL_law 1168 = .ok (.iadd, 1) := by decide +kernel
theorem dL_law_1169 : decode cL_law 1169 = .ok (.iaload, 1) := by decide +kernel
theorem dL_law_1170 : decode cL_law 1170 = .ok (.invokevirtual 140, 3) := by decide +kernel
theorem dL_law_1173 : decode cL_law 1173 = .ok (.istore 6, 2) := by decide +kernel
theorem dL_law_1175 : decode cL_law 1175 = .ok (.aload_n 2, 1) := by decide +kernel
theorem dL_law_1176 : decode cL_law 1176 = .ok (.invokevirtual 86, 3) := by decide +kernel
theorem dL_law_1179 : decode cL_law 1179 = .ok (.iload 5, 2) := by decide +kernel
theorem dL_law_1181 : decode cL_law 1181 = .ok (.if_icmp .eq 5, 3) := by decide +kernel
theorem dL_law_1184 : decode cL_law 1184 = .ok (.iconst 0, 1) := by decide +kernel
theorem dL_law_1185 : decode cL_law 1185 = .ok (.ireturn, 1) := by decide +kernel
theorem dL_law_1186 : decode cL_law 1186 = .ok (.iload 5, 2) := by decide +kernel
theorem dL_law_1188 : decode cL_law 1188 = .ok (.ifCond .ne 15, 3) := by decide +kernel
theorem dL_law_1191 : decode cL_law 1191 = .ok (.aload_n 3, 1) := by decide +kernel
theorem dL_law_1192 : decode cL_law 1192 = .ok (.iconst 0, 1) := by decide +kernel
theorem dL_law_1193 : decode cL_law 1193 = .ok (.laload, 1) := by decide +kernel
theorem dL_law_1194 : decode cL_law 1194 = .ok (.iload 6, 2) := by decide +kernel
theorem dL_law_1196 : decode cL_law 1196 = .ok (.i2l, 1) := by decide +kernel
theorem dL_law_1197 : decode cL_law 1197 = .ok (.lcmp, 1) := by decide +kernel
theorem dL_law_1198 : decode cL_law 1198 = .ok (.ifCond .eq 5, 3) := by decide +kernel
theorem dL_law_1201 : decode cL_law 1201 = .ok (.iconst 0, 1) := by decide +kernel
theorem dL_law_1202 : decode cL_law 1202 = .ok (.ireturn, 1) := by decide +kernel
theorem dL_law_1203 : decode cL_law 1203 = .ok (.goto 334, 3) := by decide +kernel
theorem dL_law_1206 : decode cL_law 1206 = .ok (.aload_n 1, 1) := by decide +kernel
theorem dL_law_1207 : decode cL_law 1207 = .ok (.invokevirtual 141, 3) := by decide +kernel
theorem dL_law_1210 : decode cL_law 1210 = .ok (.dstore 5, 2) := by decide +kernel
theorem dL_law_1212 : decode cL_law 1212 = .ok (.aload_n 2, 1) := by decide +kernel
theorem dL_law_1213 : decode cL_law 1213 = .ok (.invokevirtual 145, 3) := by decide +kernel
theorem dL_law_1216 : decode cL_law 1216 = .ok (.dstore 7, 2) := by decide +kernel
theorem dL_law_1218 : decode cL_law 1218 = .ok (.dload 5, 2) := by decide +kernel
theorem dL_law_1220 : decode cL_law 1220 = .ok (.dload 7, 2) := by decide +kernel
theorem dL_law_1222 : decode cL_law 1222 = .ok (.dcmp .l, 1) := by decide +kernel
theorem dL_law_1223 : decode cL_law 1223 = .ok (.ifCond .eq 21, 3) := by decide +kernel
theorem dL_law_1226 : decode cL_law 1226 = .ok (.dload 5, 2) := by decide +kernel
theorem dL_law_1228 : decode cL_law 1228 = .ok (.dload 5, 2) := by decide +kernel
theorem dL_law_1230 : decode cL_law 1230 = .ok (.dcmp .l, 1) := by decide +kernel
theorem dL_law_1231 : decode cL_law 1231 = .ok (.ifCond .eq 11, 3) := by decide +kernel
theorem dL_law_1234 : decode cL_law 1234 = .ok (.dload 7, 2) := by decide +kernel
theorem dL_law_1236 : decode cL_law 1236 = .ok (.dload 7, 2) := by decide +kernel
theorem dL_law_1238 : decode cL_law 1238 = .ok (.dcmp .l, 1) := by decide +kernel
theorem dL_law_1239 : decode cL_law 1239 = .ok (.ifCond .ne 5, 3) := by decide +kernel
theorem dL_law_1242 : decode cL_law 1242 = .ok (.iconst 0, 1) := by decide +kernel
theorem dL_law_1243 : decode cL_law 1243 = .ok (.ireturn, 1) := by decide +kernel
theorem dL_law_1244 : decode cL_law 1244 = .ok (.goto 293, 3) := by decide +kernel
theorem dL_law_1247 : decode cL_law 1247 = .ok (.aload_n 1, 1) := by decide +kernel
theorem dL_law_1248 : decode cL_law 1248 = .ok (.aload_n 0, 1) := by decide +kernel
theorem dL_law_1249 : decode cL_law 1249 = .ok (.iload 4, 2) := by decide +kernel
theorem dL_law_1251 : decode cL_law 1251 = .ok (.iconst 1, 1) := by decide +kernel
theorem dL_law_1252 : decode cL_law 1252 = .ok (.iadd, 1) := by decide +kernel
theorem dL_law_1253 : decode cL_law 1253 = .ok (.iaload, 1) := by decide +kernel
theorem dL_law_1254 : decode cL_law 1254 = .ok (.aload_n 0, 1) := by decide +kernel
theorem dL_law_1255 : decode cL_law 1255 = .ok (.iload 4, 2) := by decide +kernel
theorem dL_law_1257 : decode cL_law 1257 = .ok (.iconst 2, 1) := by decide +kernel
theorem dL_law_1258 : decode cL_law 1258 = .ok (.iadd, 1) := by decide +kernel
theorem dL_law_1259 : decode cL_law 1259 = .ok (.iaload, 1) := by decide +kernel
theorem dL_law_1260 : decode cL_law 1260 = .ok (.aload_n 3, 1) := by decide +kernel
theorem dL_law_1261 : decode cL_law 1261 = .ok (.invokestatic 146, 3) := by decide +kernel
theorem dL_law_1264 : decode cL_law 1264 = .ok (.istore 5, 2) := by decide +kernel
theorem dL_law_1266 : decode cL_law 1266 = .ok (.aload_n 2, 1) := by decide +kernel
theorem dL_law_1267 : decode cL_law 1267 = .ok (.aload_n 0, 1) := by decide +kernel
theorem dL_law_1268 : decode cL_law 1268 = .ok (.iload 4, 2) := by decide +kernel
theorem dL_law_1270 : decode cL_law 1270 = .ok (.iconst 1, 1) := by decide +kernel
theorem dL_law_1271 : decode cL_law 1271 = .ok (.iadd, 1) := by decide +kernel
theorem dL_law_1272 : decode cL_law 1272 = .ok (.iaload, 1) := by decide +kernel
theorem dL_law_1273 : decode cL_law 1273 = .ok (.aload_n 0, 1) := by decide +kernel
theorem dL_law_1274 : decode cL_law 1274 = .ok (.iload 4, 2) := by decide +kernel
theorem dL_law_1276 : decode cL_law 1276 = .ok (.iconst 2, 1) := by decide +kernel
theorem dL_law_1277 : decode cL_law 1277 = .ok (.iadd, 1) := by decide +kernel
theorem dL_law_1278 : decode cL_law 1278 = .ok (.iaload, 1) := by decide +kernel
theorem dL_law_1279 : decode cL_law 1279 = .ok (.invokevirtual 148, 3) := by decide +kernel
theorem dL_law_1282 : decode cL_law 1282 = .ok (.istore 6, 2) := by decide +kernel
theorem dL_law_1284 : decode cL_law 1284 = .ok (.aload_n 2, 1) := by decide +kernel
theorem dL_law_1285 : decode cL_law 1285 = .ok (.invokevirtual 86, 3) := by decide +kernel
theorem dL_law_1288 : decode cL_law 1288 = .ok (.iload 5, 2) := by decide +kernel
theorem dL_law_1290 : decode cL_law 1290 = .ok (.if_icmp .eq 5, 3) := by decide +kernel
theorem dL_law_1293 : decode cL_law 1293 = .ok (.iconst 0, 1) := by decide +kernel
theorem dL_law_1294 : decode cL_law 1294 = .ok (.ireturn, 1) := by decide +kernel
theorem dL_law_1295 : decode cL_law 1295 = .ok (.iload 5, 2) := by decide +kernel
theorem dL_law_1297 : decode cL_law 1297 = .ok (.ifCond .ne 15, 3) := by decide +kernel
theorem dL_law_1300 : decode cL_law 1300 = .ok (.aload_n 3, 1) := by decide +kernel
theorem dL_law_1301 : decode cL_law 1301 = .ok (.iconst 0, 1) := by decide +kernel
theorem dL_law_1302 : decode cL_law 1302 = .ok (.laload, 1) := by decide +kernel
theorem dL_law_1303 : decode cL_law 1303 = .ok (.iload 6, 2) := by decide +kernel
theorem dL_law_1305 : decode cL_law 1305 = .ok (.i2l, 1) := by decide +kernel
theorem dL_law_1306 : decode cL_law 1306 = .ok (.lcmp, 1) := by decide +kernel
theorem dL_law_1307 : decode cL_law 1307 = .ok (.ifCond .eq 5, 3) := by decide +kernel
theorem dL_law_1310 : decode cL_law 1310 = .ok (.iconst 0, 1) := by decide +kernel
theorem dL_law_1311 : decode cL_law 1311 = .ok (.ireturn, 1) := by decide +kernel
theorem dL_law_1312 : decode cL_law 1312 = .ok (.goto 225, 3) := by decide +kernel
theorem dL_law_1315 : decode cL_law 1315 = .ok (.aload_n 1, 1) := by decide +kernel
theorem dL_law_1316 : decode cL_law 1316 = .ok (.invokevirtual 149, 3) := by decide +kernel
theorem dL_law_1319 : decode cL_law 1319 = .ok (.aload_n 2, 1) := by decide +kernel
theorem dL_law_1320 : decode cL_law 1320 = .ok (.invokevirtual 152, 3) := by decide +kernel
theorem dL_law_1323 : decode cL_law 1323 = .ok (.if_icmp .eq 214, 3) := by decide +kernel
theorem dL_law_1326 : decode cL_law 1326 = .ok (.iconst 0, 1) := by decide +kernel
theorem dL_law_1327 : decode cL_law 1327 = .ok (.ireturn, 1) := by decide +kernel
theorem dL_law_1328 : decode cL_law 1328 = .ok (.aload_n 1, 1) := by decide +kernel
theorem dL_law_1329 : decode cL_law 1329 = .ok (.aload_n 0, 1) := by decide +kernel
theorem dL_law_1330 : decode cL_law 1330 = .ok (.iload 4, 2) := by decide +kernel
theorem dL_law_1332 : decode cL_law 1332 = .ok (.iconst 1, 1) := by decide +kernel
theorem dL_law_1333 : decode cL_law 1333 = .ok (.iadd, 1) := by decide +kernel
theorem dL_law_1334 : decode cL_law 1334 = .ok (.iaload, 1) := by decide +kernel
theorem dL_law_1335 : decode cL_law 1335 = .ok (.aload_n 3, 1) := by decide +kernel
theorem dL_law_1336 : decode cL_law 1336 = .ok (.invokestatic 153, 3) := by decide +kernel
theorem dL_law_1339 : decode cL_law 1339 = .ok (.istore 5, 2) := by decide +kernel
theorem dL_law_1341 : decode cL_law 1341 = .ok (.aload_n 2, 1) := by decide +kernel
theorem dL_law_1342 : decode cL_law 1342 = .ok (.aload_n 0, 1) := by decide +kernel
theorem dL_law_1343 : decode cL_law 1343 = .ok (.iload 4, 2) := by decide +kernel
theorem dL_law_1345 : decode cL_law 1345 = .ok (.iconst 1, 1) := by decide +kernel
theorem dL_law_1346 : decode cL_law 1346 = .ok (.iadd, 1) := by decide +kernel
theorem dL_law_1347 : decode cL_law 1347 = .ok (.iaload, 1) := by decide +kernel
theorem dL_law_1348 : decode cL_law 1348 = .ok (.invokevirtual 155, 3) := by decide +kernel
theorem dL_law_1351 : decode cL_law 1351 = .ok (.istore 6, 2) := by decide +kernel
theorem dL_law_1353 : decode cL_law 1353 = .ok (.aload_n 2, 1) := by decide +kernel
theorem dL_law_1354 : decode cL_law 1354 = .ok (.invokevirtual 86, 3) := by decide +kernel
theorem dL_law_1357 : decode cL_law 1357 = .ok (.iload 5, 2) := by decide +kernel
theorem dL_law_1359 : decode cL_law 1359 = .ok (.if_icmp .eq 5, 3) := by decide +kernel
theorem dL_law_1362 : decode cL_law 1362 = .ok (.iconst 0, 1) := by decide +kernel
theorem dL_law_1363 : decode cL_law 1363 = .ok (.ireturn, 1) := by decide +kernel
theorem dL_law_1364 : decode cL_law 1364 = .ok (.iload 5, 2) := by decide +kernel
theorem dL_law_1366 : decode cL_law 1366 = .ok (.ifCond .ne 15, 3) := by decide +kernel
theorem dL_law_1369 : decode cL_law 1369 = .ok (.aload_n 3, 1) := by decide +kernel
theorem dL_law_1370 : decode cL_law 1370 = .ok (.iconst 0, 1) := by decide +kernel
theorem dL_law_1371 : decode cL_law 1371 = .ok (.laload, 1) := by decide +kernel
theorem dL_law_1372 : decode cL_law 1372 = .ok (.iload 6, 2) := by decide +kernel
theorem dL_law_1374 : decode cL_law 1374 = .ok (.i2l, 1) := by decide +kernel
theorem dL_law_1375 : decode cL_law 1375 = .ok (.lcmp, 1) := by decide +kernel
theorem dL_law_1376 : decode cL_law 1376 = .ok (.ifCond .eq 5, 3) := by decide +kernel
theorem dL_law_1379 : decode cL_law 1379 = .ok (.iconst 0, 1) := by decide +kernel
theorem dL_law_1380 : decode cL_law 1380 = .ok (.ireturn, 1) := by decide +kernel
theorem dL_law_1381 : decode cL_law 1381 = .ok (.goto 156, 3) := by decide +kernel
theorem dL_law_1384 : decode cL_law 1384 = .ok (.aload_n 1, 1) := by decide +kernel
theorem dL_law_1385 : decode cL_law 1385 = .ok (.invokevirtual 156, 3) := by decide +kernel
theorem dL_law_1388 : decode cL_law 1388 = .ok (.aload_n 2, 1) := by decide +kernel
theorem dL_law_1389 : decode cL_law 1389 = .ok (.invokevirtual 159, 3) := by decide +kernel
theorem dL_law_1392 : decode cL_law 1392 = .ok (.if_icmp .eq 145, 3) := by decide +kernel
theorem dL_law_1395 : decode cL_law 1395 = .ok (.iconst 0, 1) := by decide +kernel
theorem dL_law_1396 : decode cL_law 1396 = .ok (.ireturn, 1) := by decide +kernel
theorem dL_law_1397 : decode cL_law 1397 = .ok (.aload_n 1, 1) := by decide +kernel
theorem dL_law_1398 : decode cL_law 1398 = .ok (.aload_n 0, 1) := by decide +kernel
theorem dL_law_1399 : decode cL_law 1399 = .ok (.iload 4, 2) := by decide +kernel
theorem dL_law_1401 : decode cL_law 1401 = .ok (.iconst 1, 1) := by decide +kernel
theorem dL_law_1402 : decode cL_law 1402 = .ok (.iadd, 1) := by decide +kernel
theorem dL_law_1403 : decode cL_law 1403 = .ok (.iaload, 1) := by decide +kernel
theorem dL_law_1404 : decode cL_law 1404 = .ok (.aload_n 3, 1) := by decide +kernel
theorem dL_law_1405 : decode cL_law 1405 = .ok (.invokestatic 160, 3) := by decide +kernel
theorem dL_law_1408 : decode cL_law 1408 = .ok (.istore 5, 2) := by decide +kernel
theorem dL_law_1410 : decode cL_law 1410 = .ok (.aload_n 2, 1) := by decide +kernel
theorem dL_law_1411 : decode cL_law 1411 = .ok (.aload_n 0, 1) := by decide +kernel
theorem dL_law_1412 : decode cL_law 1412 = .ok (.iload 4, 2) := by decide +kernel
theorem dL_law_1414 : decode cL_law 1414 = .ok (.iconst 1, 1) := by decide +kernel
theorem dL_law_1415 : decode cL_law 1415 = .ok (.iadd, 1) := by decide +kernel
theorem dL_law_1416 : decode cL_law 1416 = .ok (.iaload, 1) := by decide +kernel
theorem dL_law_1417 : decode cL_law 1417 = .ok (.invokevirtual 162, 3) := by decide +kernel
theorem dL_law_1420 : decode cL_law 1420 = .ok (.istore 6, 2) := by decide +kernel
theorem dL_law_1422 : decode cL_law 1422 = .ok (.aload_n 2, 1) := by decide +kernel
theorem dL_law_1423 : decode cL_law 1423 = .ok (.invokevirtual 86, 3) := by decide +kernel
theorem dL_law_1426 : decode cL_law 1426 = .ok (.iload 5, 2) := by decide +kernel
theorem dL_law_1428 : decode cL_law 1428 = .ok (.if_icmp .eq 5, 3) := by decide +kernel
theorem dL_law_1431 : decode cL_law 1431 = .ok (.iconst 0, 1) := by decide +kernel
theorem dL_law_1432 : decode cL_law 1432 = .ok (.ireturn, 1) := by decide +kernel
theorem dL_law_1433 : decode cL_law 1433 = .ok (.iload 5, 2) := by decide +kernel
theorem dL_law_1435 : decode cL_law 1435 = .ok (.ifCond .ne 15, 3) := by decide +kernel
theorem dL_law_1438 : decode cL_law 1438 = .ok (.aload_n 3, 1) := by decide +kernel
theorem dL_law_1439 : decode cL_law 1439 = .ok (.iconst 0, 1) := by decide +kernel
theorem dL_law_1440 : decode cL_law 1440 = .ok (.laload, 1) := by decide +kernel
theorem dL_law_1441 : decode cL_law 1441 = .ok (.iload 6, 2) := by decide +kernel
theorem dL_law_1443 : decode cL_law 1443 = .ok (.i2l, 1) := by decide +kernel
theorem dL_law_1444 : decode cL_law 1444 = .ok (.lcmp, 1) := by decide +kernel
theorem dL_law_1445 : decode cL_law 1445 = .ok (.ifCond .eq 5, 3) := by decide +kernel
theorem dL_law_1448 : decode cL_law 1448 = .ok (.iconst 0, 1) := by decide +kernel
theorem dL_law_1449 : decode cL_law 1449 = .ok (.ireturn, 1) := by decide +kernel
theorem dL_law_1450 : decode cL_law 1450 = .ok (.goto 87, 3) := by decide +kernel
theorem dL_law_1453 : decode cL_law 1453 = .ok (.aload_n 1, 1) := by decide +kernel
theorem dL_law_1454 : decode cL_law 1454 = .ok (.invokevirtual 163, 3) := by decide +kernel
theorem dL_law_1457 : decode cL_law 1457 = .ok (.aload_n 2, 1) := by decide +kernel
theorem dL_law_1458 : decode cL_law 1458 = .ok (.invokevirtual 166, 3) := by decide +kernel
theorem dL_law_1461 : decode cL_law 1461 = .ok (.if_icmp .eq 76, 3) := by decide +kernel
theorem dL_law_1464 : decode cL_law 1464 = .ok (.iconst 0, 1) := by decide +kernel
theorem dL_law_1465 : decode cL_law 1465 = .ok (.ireturn, 1) := by decide +kernel
theorem dL_law_1466 : decode cL_law 1466 = .ok (.aload_n 1, 1) := by decide +kernel
theorem dL_law_1467 : decode cL_law 1467 = .ok (.invokevirtual 167, 3) := by decide +kernel
theorem dL_law_1470 : decode cL_law 1470 = .ok (.aload_n 2, 1) := by decide +kernel
theorem dL_law_1471 : decode cL_law 1471 = .ok (.invokevirtual 170, 3) := by decide +kernel
theorem dL_law_1474 : decode cL_law 1474 = .ok (.if_icmp .eq 63, 3) := by decide +kernel
theorem dL_law_1477 : decode cL_law 1477 = .ok (.iconst 0, 1) := by decide +kernel
theorem dL_law_1478 : decode cL_law 1478 = .ok (.ireturn, 1) := by decide +kernel
theorem dL_law_1479 : decode cL_law 1479 = .ok (.aload_n 1, 1) := by decide +kernel
theorem dL_law_1480 : decode cL_law 1480 = .ok (.aload_n 3, 1) := by decide +kernel
theorem dL_law_1481 : decode cL_law 1481 = .ok (.invokestatic 171, 3) := by decide +kernel
theorem dL_law_1484 : decode cL_law 1484 = .ok (.istore 5, 2) := by decide +kernel
theorem dL_law_1486 : decode cL_law 1486 = .ok (.aload_n 2, 1) := by decide +kernel
theorem dL_law_1487 : decode cL_law 1487 = .ok (.invokevirtual 174, 3) := by decide +kernel
theorem dL_law_1490 : decode cL_law 1490 = .ok (.istore 6, 2) := by decide +kernel
theorem dL_law_1492 : decode cL_law 1492 = .ok (.aload_n 2, 1) := by decide +kernel
theorem dL_law_1493 : decode cL_law 1493 = .ok (.invokevirtual 86, 3) := by decide +kernel
theorem dL_law_1496 : decode cL_law 1496 = .ok (.iload 5, 2) := by decide +kernel
theorem dL_law_1498 : decode cL_law 1498 = .ok (.if_icmp .eq 5, 3) := by decide +kernel
theorem dL_law_1501 : decode cL_law 1501 = .ok (.iconst 0, 1) := by decide +kernel
theorem dL_law_1502 : decode cL_law 1502 = .ok (.ireturn, 1) := by decide +kernel
theorem dL_law_1503 : decode cL_law 1503 = .ok (.iload 5, 2) := by decide +kernel
theorem dL_law_1505 : decode cL_law 1505 = .ok (.ifCond .ne 15, 3) := by decide +kernel
theorem dL_law_1508 : decode cL_law 1508 = .ok (.aload_n 3, 1) := by decide +kernel
theorem dL_law_1509 : decode cL_law 1509 = .ok (.iconst 0, 1) := by decide +kernel
theorem dL_law_1510 : decode cL_law 1510 = .ok (.laload, 1) := by decide +kernel
theorem dL_law_1511 : decode cL_law 1511 = .ok (.iload 6, 2) := by decide +kernel
theorem dL_law_1513 : decode cL_law 1513 = .ok (.i2l, 1) := by decide +kernel
theorem dL_law_1514 : decode cL_law 1514 = .ok (.lcmp, 1) := by decide +kernel
theorem dL_law_1515 : decode cL_law 1515 = .ok (.ifCond .eq 5, 3) := by decide +kernel
theorem dL_law_1518 : decode cL_law 1518 = .ok (.iconst 0, 1) := by decide +kernel
theorem dL_law_1519 : decode cL_law 1519 = .ok (.ireturn, 1) := by decide +kernel
theorem dL_law_1520 : decode cL_law 1520 = .ok (.goto 17, 3) := by decide +kernel
theorem dL_law_1523 : decode cL_law 1523 = .ok (.aload_n 1, 1) := by decide +kernel
theorem dL_law_1524 : decode cL_law 1524 = .ok (.invokevirtual 175, 3) := by decide +kernel
theorem dL_law_1527 : decode cL_law 1527 = .ok (.aload_n 2, 1) := by decide +kernel
theorem dL_law_1528 : decode cL_law 1528 = .ok (.invokevirtual 179, 3) := by decide +kernel
theorem dL_law_1531 : decode cL_law 1531 = .ok (.lcmp, 1) := by decide +kernel
theorem dL_law_1532 : decode cL_law 1532 = .ok (.ifCond .eq 5, 3) := by decide +kernel
theorem dL_law_1535 : decode cL_law 1535 = .ok (.iconst 0, 1) := by decide +kernel
theorem dL_law_1536 : decode cL_law 1536 = .ok (.ireturn, 1) := by decide +kernel
theorem dL_law_1537 : decode cL_law 1537 = .ok (.iinc 4 4, 3) := by decide +kernel
theorem dL_law_1540 : decode cL_law 1540 = .ok (.goto (-1517), 3) := by decide +kernel
theorem dL_law_1543 : decode cL_law 1543 = .ok (.iconst 1, 1) := by decide +kernel
theorem dL_law_1544 : decode cL_law 1544 = .ok (.ireturn, 1) := by decide +kernel
abbrev vwCl : List vw_C := [(RX0, TX0, 8), (RX1, TX1, 1), (RX2, TX2, 7), (RX3, TX3, 3), (RX4, TX4, 1), (RX5, TX5, 8), (RX6, TX6, 5), (RX7, TX7, 5), (RX8, TX8, 10), (RX9, TX9, 19)]
